/-! the law's rows -/
noncomputable def ps_lkw (q : pm_I) : Bool := ps_dok md_L_law q && ps_wok md_L_law q
set_option maxRecDepth 100000 in
theorem ok_L_0_0 : ((cd_L_law_0.drop 0).take 25).all ps_lkw = true := by decide +kernel
set_option maxRecDepth 100000 in
theorem ok_L_0_1 : ((cd_L_law_0.drop 25).take 25).all ps_lkw = true := by decide +kernel
set_option maxRecDepth 100000 in
theorem ok_L_0_2 : ((cd_L_law_0.drop 50).take 25).all ps_lkw = true := by decide +kernel
set_option maxRecDepth 100000 in
theorem ok_L_0_3 : ((cd_L_law_0.drop 75).take 25).all ps_lkw = true := by decide +kernel
set_option maxRecDepth 100000 in
theorem ok_L_1_0 : ((cd_L_law_1.drop 0).take 25).all ps_lkw = true := by decide +kernel
set_option maxRecDepth 100000 in
theorem ok_L_1_1 : ((cd_L_law_1.drop 25).take 25).all ps_lkw = true := by decide +kernel
set_option maxRecDepth 100000 in
theorem ok_L_1_2 : ((cd_L_law_1.drop 50).take 25).all ps_lkw = true := by decide +kernel
set_option maxRecDepth 100000 in
theorem ok_L_1_3 : ((cd_L_law_1.drop 75).take 25).all ps_lkw = true := by decide +kernel
set_option maxRecDepth 100000 in
theorem ok_L_2_0 : ((cd_L_law_2.drop 0).take 25).all ps_lkw = true := by decide +kernel
set_option maxRecDepth 100000 in
theorem ok_L_2_1 : ((cd_L_law_2.drop 25).take 25).all ps_lkw = true := by decide +kernel
set_option maxRecDepth 100000 in
theorem ok_L_2_2 : ((cd_L_law_2.drop 50).take 25).all ps_lkw = true := by decide +kernel
set_option maxRecDepth 100000 in
theorem ok_L_2_3 : ((cd_L_law_2.drop 75).take 25).all ps_lkw = true := by decide +kernel
set_option maxRecDepth 100000 in
theorem ok_L_3_0 : ((cd_L_law_3.drop 0).take 25).all ps_lkw = true := by decide +kernel
set_option maxRecDepth 100000 in
theorem ok_L_3_1 : ((cd_L_law_3.drop 25).take 25).all ps_lkw = true := by decide +kernel
set_option maxRecDepth 100000 in
theorem ok_L_3_2 : ((cd_L_law_3.drop 50).take 25).all ps_lkw = true := by decide +kernel
set_option maxRecDepth 100000 in
theorem ok_L_3_3 : ((cd_L_law_3.drop 75).take 25).all ps_lkw = true := by decide +kernel
set_option maxRecDepth 100000 in
theorem ok_L_4_0 : ((cd_L_law_4.drop 0).take 25).all ps_lkw = true := by decide +kernel
set_option maxRecDepth 100000 in
theorem ok_L_4_1 : ((cd_L_law_4.drop 25).take 25).all ps_lkw = true := by decide +kernel
set_option maxRecDepth 100000 in
theorem ok_L_4_2 : ((cd_L_law_4.drop 50).take 25).all ps_lkw = true := by decide +kernel
set_option maxRecDepth 100000 in
theorem ok_L_4_3 : ((cd_L_law_4.drop 75).take 25).all ps_lkw = true := by decide +kernel
set_option maxRecDepth 100000 in
theorem ok_L_5_0 : ((cd_L_law_5.drop 0).take 25).all ps_lkw = true := by decide +kernel
set_option maxRecDepth 100000 in
theorem ok_L_5_1 : ((cd_L_law_5.drop 25).take 25).all ps_lkw = true := by decide +kernel
set_option maxRecDepth 100000 in
theorem ok_L_5_2 : ((cd_L_law_5.drop 50).take 25).all ps_lkw = true := by decide +kernel
set_option maxRecDepth 100000 in
theorem ok_L_5_3 : ((cd_L_law_5.drop 75).take 25).all ps_lkw = true := by decide +kernel
theorem ok_L_cut (l : List pm_I) (h0 : ((l.drop 0).take 25).all ps_lkw = true) (h1 : ((l.drop 25).take 25).all ps_lkw = true) (h2 : ((l.drop 50).take 25).all ps_lkw = true) (h3 : ((l.drop 75).take 25).all ps_lkw = true) (hl : l.length ≤ 100) : l.all ps_lkw = true := by
  have e : l = (l.drop 0).take 25 ++ ((l.drop 25).take 25 ++ ((l.drop 50).take 25 ++ (l.drop 75).take 25)) := by
    have a1 : (l.drop 75).take 25 = l.drop 75 := List.take_of_length_le (by rw [List.length_drop]; omega)
    have a2 : ∀ k, (l.drop k).take 25 ++ l.drop (k + 25) = l.drop k := fun k => by
      have := List.take_append_drop 25 (l.drop k)
      rw [List.drop_drop] at this
      rw [Nat.add_comm k 25] at *
      first | exact this | (rw [Nat.add_comm] at this; exact this)
    rw [a1, a2 50, a2 25, a2 0, List.drop_zero]
  rw [e, List.all_append, List.all_append, List.all_append, h0, h1, h2, h3]
  rfl
theorem ok_L_law : ps_ok md_L_law = true := by
  show (cd_L_law).all ps_lkw = true
  unfold cd_L_law
  simp only [List.all_append]
  rw [ok_L_cut _ ok_L_0_0 ok_L_0_1 ok_L_0_2 ok_L_0_3 (by decide), ok_L_cut _ ok_L_1_0 ok_L_1_1 ok_L_1_2 ok_L_1_3 (by decide), ok_L_cut _ ok_L_2_0 ok_L_2_1 ok_L_2_2 ok_L_2_3 (by decide), ok_L_cut _ ok_L_3_0 ok_L_3_1 ok_L_3_2 ok_L_3_3 (by decide), ok_L_cut _ ok_L_4_0 ok_L_4_1 ok_L_4_2 ok_L_4_3 (by decide), ok_L_cut _ ok_L_5_0 ok_L_5_1 ok_L_5_2 ok_L_5_3 (by decide)]
  rfl
