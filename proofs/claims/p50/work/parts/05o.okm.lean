/-! rows of a long method, checked by computing -/
set_option maxRecDepth 100000 in
theorem ok_L_moves_0_0 : ((cd_L_moves_0.drop 0).take 25).all (ps_lkm md_L_moves) = true := by decide +kernel
set_option maxRecDepth 100000 in
theorem ok_L_moves_0_1 : ((cd_L_moves_0.drop 25).take 25).all (ps_lkm md_L_moves) = true := by decide +kernel
set_option maxRecDepth 100000 in
theorem ok_L_moves_0_2 : ((cd_L_moves_0.drop 50).take 25).all (ps_lkm md_L_moves) = true := by decide +kernel
set_option maxRecDepth 100000 in
theorem ok_L_moves_0_3 : ((cd_L_moves_0.drop 75).take 25).all (ps_lkm md_L_moves) = true := by decide +kernel
set_option maxRecDepth 100000 in
theorem ok_L_moves_1_0 : ((cd_L_moves_1.drop 0).take 25).all (ps_lkm md_L_moves) = true := by decide +kernel
set_option maxRecDepth 100000 in
theorem ok_L_moves_1_1 : ((cd_L_moves_1.drop 25).take 25).all (ps_lkm md_L_moves) = true := by decide +kernel
set_option maxRecDepth 100000 in
theorem ok_L_moves_1_2 : ((cd_L_moves_1.drop 50).take 25).all (ps_lkm md_L_moves) = true := by decide +kernel
set_option maxRecDepth 100000 in
theorem ok_L_moves_1_3 : ((cd_L_moves_1.drop 75).take 25).all (ps_lkm md_L_moves) = true := by decide +kernel
set_option maxRecDepth 100000 in
theorem ok_L_moves_2_0 : ((cd_L_moves_2.drop 0).take 25).all (ps_lkm md_L_moves) = true := by decide +kernel
set_option maxRecDepth 100000 in
theorem ok_L_moves_2_1 : ((cd_L_moves_2.drop 25).take 25).all (ps_lkm md_L_moves) = true := by decide +kernel
set_option maxRecDepth 100000 in
theorem ok_L_moves_2_2 : ((cd_L_moves_2.drop 50).take 25).all (ps_lkm md_L_moves) = true := by decide +kernel
set_option maxRecDepth 100000 in
theorem ok_L_moves_2_3 : ((cd_L_moves_2.drop 75).take 25).all (ps_lkm md_L_moves) = true := by decide +kernel
set_option maxRecDepth 100000 in
theorem ok_L_moves_3_0 : ((cd_L_moves_3.drop 0).take 25).all (ps_lkm md_L_moves) = true := by decide +kernel
set_option maxRecDepth 100000 in
theorem ok_L_moves_3_1 : ((cd_L_moves_3.drop 25).take 25).all (ps_lkm md_L_moves) = true := by decide +kernel
set_option maxRecDepth 100000 in
theorem ok_L_moves_3_2 : ((cd_L_moves_3.drop 50).take 25).all (ps_lkm md_L_moves) = true := by decide +kernel
set_option maxRecDepth 100000 in
theorem ok_L_moves_3_3 : ((cd_L_moves_3.drop 75).take 25).all (ps_lkm md_L_moves) = true := by decide +kernel
theorem ok0_L_moves : ps_ok md_L_moves = true := by
  show (cd_L_moves).all (ps_lkm md_L_moves) = true
  unfold cd_L_moves
  simp only [List.all_append]
  rw [ok_cutm _ _ ok_L_moves_0_0 ok_L_moves_0_1 ok_L_moves_0_2 ok_L_moves_0_3 (by decide), ok_cutm _ _ ok_L_moves_1_0 ok_L_moves_1_1 ok_L_moves_1_2 ok_L_moves_1_3 (by decide), ok_cutm _ _ ok_L_moves_2_0 ok_L_moves_2_1 ok_L_moves_2_2 ok_L_moves_2_3 (by decide), ok_cutm _ _ ok_L_moves_3_0 ok_L_moves_3_1 ok_L_moves_3_2 ok_L_moves_3_3 (by decide)]
  rfl
theorem okm_L_moves : ps_mok md_L_moves = true := by decide +kernel
theorem ok_L_moves : (ps_ok md_L_moves && ps_mok md_L_moves) = true := by rw [ok0_L_moves, okm_L_moves]; rfl
