/-! rows of a long method, checked by computing -/
set_option maxRecDepth 100000 in
theorem ok_L_law_0_0 : ((cd_L_law_0.drop 0).take 25).all (ps_lkm md_L_law) = true := by decide +kernel
set_option maxRecDepth 100000 in
theorem ok_L_law_0_1 : ((cd_L_law_0.drop 25).take 25).all (ps_lkm md_L_law) = true := by decide +kernel
set_option maxRecDepth 100000 in
theorem ok_L_law_0_2 : ((cd_L_law_0.drop 50).take 25).all (ps_lkm md_L_law) = true := by decide +kernel
set_option maxRecDepth 100000 in
theorem ok_L_law_0_3 : ((cd_L_law_0.drop 75).take 25).all (ps_lkm md_L_law) = true := by decide +kernel
set_option maxRecDepth 100000 in
theorem ok_L_law_1_0 : ((cd_L_law_1.drop 0).take 25).all (ps_lkm md_L_law) = true := by decide +kernel
set_option maxRecDepth 100000 in
theorem ok_L_law_1_1 : ((cd_L_law_1.drop 25).take 25).all (ps_lkm md_L_law) = true := by decide +kernel
set_option maxRecDepth 100000 in
theorem ok_L_law_1_2 : ((cd_L_law_1.drop 50).take 25).all (ps_lkm md_L_law) = true := by decide +kernel
set_option maxRecDepth 100000 in
theorem ok_L_law_1_3 : ((cd_L_law_1.drop 75).take 25).all (ps_lkm md_L_law) = true := by decide +kernel
set_option maxRecDepth 100000 in
theorem ok_L_law_2_0 : ((cd_L_law_2.drop 0).take 25).all (ps_lkm md_L_law) = true := by decide +kernel
set_option maxRecDepth 100000 in
theorem ok_L_law_2_1 : ((cd_L_law_2.drop 25).take 25).all (ps_lkm md_L_law) = true := by decide +kernel
set_option maxRecDepth 100000 in
theorem ok_L_law_2_2 : ((cd_L_law_2.drop 50).take 25).all (ps_lkm md_L_law) = true := by decide +kernel
set_option maxRecDepth 100000 in
theorem ok_L_law_2_3 : ((cd_L_law_2.drop 75).take 25).all (ps_lkm md_L_law) = true := by decide +kernel
set_option maxRecDepth 100000 in
theorem ok_L_law_3_0 : ((cd_L_law_3.drop 0).take 25).all (ps_lkm md_L_law) = true := by decide +kernel
set_option maxRecDepth 100000 in
theorem ok_L_law_3_1 : ((cd_L_law_3.drop 25).take 25).all (ps_lkm md_L_law) = true := by decide +kernel
set_option maxRecDepth 100000 in
theorem ok_L_law_3_2 : ((cd_L_law_3.drop 50).take 25).all (ps_lkm md_L_law) = true := by decide +kernel
set_option maxRecDepth 100000 in
theorem ok_L_law_3_3 : ((cd_L_law_3.drop 75).take 25).all (ps_lkm md_L_law) = true := by decide +kernel
set_option maxRecDepth 100000 in
theorem ok_L_law_4_0 : ((cd_L_law_4.drop 0).take 25).all (ps_lkm md_L_law) = true := by decide +kernel
set_option maxRecDepth 100000 in
theorem ok_L_law_4_1 : ((cd_L_law_4.drop 25).take 25).all (ps_lkm md_L_law) = true := by decide +kernel
set_option maxRecDepth 100000 in
theorem ok_L_law_4_2 : ((cd_L_law_4.drop 50).take 25).all (ps_lkm md_L_law) = true := by decide +kernel
set_option maxRecDepth 100000 in
theorem ok_L_law_4_3 : ((cd_L_law_4.drop 75).take 25).all (ps_lkm md_L_law) = true := by decide +kernel
set_option maxRecDepth 100000 in
theorem ok_L_law_5_0 : ((cd_L_law_5.drop 0).take 25).all (ps_lkm md_L_law) = true := by decide +kernel
set_option maxRecDepth 100000 in
theorem ok_L_law_5_1 : ((cd_L_law_5.drop 25).take 25).all (ps_lkm md_L_law) = true := by decide +kernel
set_option maxRecDepth 100000 in
theorem ok_L_law_5_2 : ((cd_L_law_5.drop 50).take 25).all (ps_lkm md_L_law) = true := by decide +kernel
set_option maxRecDepth 100000 in
theorem ok_L_law_5_3 : ((cd_L_law_5.drop 75).take 25).all (ps_lkm md_L_law) = true := by decide +kernel
theorem ok0_L_law : ps_ok md_L_law = true := by
  show (cd_L_law).all (ps_lkm md_L_law) = true
  unfold cd_L_law
  simp only [List.all_append]
  rw [ok_cutm _ _ ok_L_law_0_0 ok_L_law_0_1 ok_L_law_0_2 ok_L_law_0_3 (by decide), ok_cutm _ _ ok_L_law_1_0 ok_L_law_1_1 ok_L_law_1_2 ok_L_law_1_3 (by decide), ok_cutm _ _ ok_L_law_2_0 ok_L_law_2_1 ok_L_law_2_2 ok_L_law_2_3 (by decide), ok_cutm _ _ ok_L_law_3_0 ok_L_law_3_1 ok_L_law_3_2 ok_L_law_3_3 (by decide), ok_cutm _ _ ok_L_law_4_0 ok_L_law_4_1 ok_L_law_4_2 ok_L_law_4_3 (by decide), ok_cutm _ _ ok_L_law_5_0 ok_L_law_5_1 ok_L_law_5_2 ok_L_law_5_3 (by decide)]
  rfl
theorem ok_L_law : ps_ok md_L_law = true := ok0_L_law
