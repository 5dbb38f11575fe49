noncomputable def ps_own (md : pm_M) : Prop := (ps_ok md && ps_mok md) = true ∨ (md.2.2.2.2.2.1 = [] ∧ ps_ok md = true)
