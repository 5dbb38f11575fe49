/-! rows of a long method, checked by computing -/
noncomputable def ps_lkm (md : pm_M) (q : pm_I) : Bool := ps_dok md q && ps_wok md q
theorem ok_cutm (md : pm_M) (l : List pm_I) (h0 : ((l.drop 0).take 25).all (ps_lkm md) = true) (h1 : ((l.drop 25).take 25).all (ps_lkm md) = true) (h2 : ((l.drop 50).take 25).all (ps_lkm md) = true) (h3 : ((l.drop 75).take 25).all (ps_lkm md) = true) (hl : l.length ≤ 100) : l.all (ps_lkm md) = true := by
  have e : l = (l.drop 0).take 25 ++ ((l.drop 25).take 25 ++ ((l.drop 50).take 25 ++ (l.drop 75).take 25)) := by
    have a1 : (l.drop 75).take 25 = l.drop 75 := List.take_of_length_le (by rw [List.length_drop]; omega)
    have a2 : ∀ k, (l.drop k).take 25 ++ l.drop (k + 25) = l.drop k := fun k => by
      have := List.take_append_drop 25 (l.drop k)
      rw [List.drop_drop] at this
      rw [Nat.add_comm k 25] at *
      first | exact this | (rw [Nat.add_comm] at this; exact this)
    rw [a1, a2 50, a2 25, a2 0, List.drop_zero]
  rw [e, List.all_append, List.all_append, List.all_append, h0, h1, h2, h3]
  rfl
set_option maxRecDepth 100000 in
theorem ok_L_same_0_0 : ((cd_L_same_0.drop 0).take 25).all (ps_lkm md_L_same) = true := by decide +kernel
set_option maxRecDepth 100000 in
theorem ok_L_same_0_1 : ((cd_L_same_0.drop 25).take 25).all (ps_lkm md_L_same) = true := by decide +kernel
set_option maxRecDepth 100000 in
theorem ok_L_same_0_2 : ((cd_L_same_0.drop 50).take 25).all (ps_lkm md_L_same) = true := by decide +kernel
set_option maxRecDepth 100000 in
theorem ok_L_same_0_3 : ((cd_L_same_0.drop 75).take 25).all (ps_lkm md_L_same) = true := by decide +kernel
set_option maxRecDepth 100000 in
theorem ok_L_same_1_0 : ((cd_L_same_1.drop 0).take 25).all (ps_lkm md_L_same) = true := by decide +kernel
set_option maxRecDepth 100000 in
theorem ok_L_same_1_1 : ((cd_L_same_1.drop 25).take 25).all (ps_lkm md_L_same) = true := by decide +kernel
set_option maxRecDepth 100000 in
theorem ok_L_same_1_2 : ((cd_L_same_1.drop 50).take 25).all (ps_lkm md_L_same) = true := by decide +kernel
set_option maxRecDepth 100000 in
theorem ok_L_same_1_3 : ((cd_L_same_1.drop 75).take 25).all (ps_lkm md_L_same) = true := by decide +kernel
set_option maxRecDepth 100000 in
theorem ok_L_same_2_0 : ((cd_L_same_2.drop 0).take 25).all (ps_lkm md_L_same) = true := by decide +kernel
set_option maxRecDepth 100000 in
theorem ok_L_same_2_1 : ((cd_L_same_2.drop 25).take 25).all (ps_lkm md_L_same) = true := by decide +kernel
set_option maxRecDepth 100000 in
theorem ok_L_same_2_2 : ((cd_L_same_2.drop 50).take 25).all (ps_lkm md_L_same) = true := by decide +kernel
set_option maxRecDepth 100000 in
theorem ok_L_same_2_3 : ((cd_L_same_2.drop 75).take 25).all (ps_lkm md_L_same) = true := by decide +kernel
theorem ok0_L_same : ps_ok md_L_same = true := by
  show (cd_L_same).all (ps_lkm md_L_same) = true
  unfold cd_L_same
  simp only [List.all_append]
  rw [ok_cutm _ _ ok_L_same_0_0 ok_L_same_0_1 ok_L_same_0_2 ok_L_same_0_3 (by decide), ok_cutm _ _ ok_L_same_1_0 ok_L_same_1_1 ok_L_same_1_2 ok_L_same_1_3 (by decide), ok_cutm _ _ ok_L_same_2_0 ok_L_same_2_1 ok_L_same_2_2 ok_L_same_2_3 (by decide)]
  rfl
theorem okm_L_same : ps_mok md_L_same = true := by decide +kernel
theorem ok_L_same : (ps_ok md_L_same && ps_mok md_L_same) = true := by rw [ok0_L_same, okm_L_same]; rfl
