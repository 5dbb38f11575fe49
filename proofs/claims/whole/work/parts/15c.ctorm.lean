theorem ct_use {kp : pm_K} {d k knd ci ret : Nat} {f : qm_M → Option qm_R} (g : qe_GE kp d (k, knd, ci, ret, qw_c 112 f)) {m m2 : qm_M} (h : f m = some (none, m2)) : pm_X kp d k [.ref 112] (qm_hp m) none (qm_hp m2) := g.2.2.2.2 [.ref 112] m (none, m2) h
set_option maxRecDepth 100000 in
set_option maxHeartbeats 4000000 in
theorem ct_112 {kp : pm_K} (d : Nat) {m2 : qm_M} (hy : F_M_laysTwos qm_m1 = some (none, m2)) : pm_X kp (d + 4) 184 [.ref 112] qa_h66 none (qm_hp m2) := by
  have hown : pm_own md_M_init 11 := ⟨rfl, by decide +kernel⟩
  refine pm_Xn md_M_init [(0, .ref 112)] rfl (by decide) rfl (hb := 141) (sb := 97098) (qm_hp_len m2) (qm_hp_sl m2) ?_
  refine qa_run (own := 11) (hl := 113) (sl := 14194) hown 30 (by decide +kernel) (by decide +kernel) (show qa_ev md_M_init 11 141 97098 30 0 [(0, .ref 112)] [] qa_h66 113 14194 = some (57, [(0, .ref 112)], [.ref 118, .ref 118, .ref 112], qa_h67, 119, 18728) from rfl) ?_
  refine qa_run (own := 11) (hl := 119) (sl := 18728) hown 30 (by decide +kernel) (by decide +kernel) (show qa_ev md_M_init 11 141 97098 30 57 [(0, .ref 112)] [.ref 118, .ref 118, .ref 112] qa_h67 119 18728 = some (107, [(0, .ref 112)], [.int (64 : Int32), .ref 112], qa_h68, 120, 18794) from rfl) ?_
  refine qa_run (own := 11) (hl := 120) (sl := 18794) hown 30 (by decide +kernel) (by decide +kernel) (show qa_ev md_M_init 11 141 97098 30 107 [(0, .ref 112)] [.int (64 : Int32), .ref 112] qa_h68 120 18794 = some (164, [(0, .ref 112)], [], qa_h69, 128, 19035) from rfl) ?_
  refine qa_run (own := 11) (hl := 128) (sl := 19035) hown 30 (by decide +kernel) (by decide +kernel) (show qa_ev md_M_init 11 141 97098 30 164 [(0, .ref 112)] [] qa_h69 128 19035 = some (219, [(0, .ref 112)], [.int (36 : Int32), .ref 112], qa_h70, 135, 84725) from rfl) ?_
  refine qa_run (own := 11) (hl := 135) (sl := 84725) hown 30 (by decide +kernel) (by decide +kernel) (show qa_ev md_M_init 11 141 97098 30 219 [(0, .ref 112)] [.int (36 : Int32), .ref 112] qa_h70 135 84725 = some (281, [(0, .ref 112)], [.int (1 : Int32), .ref 113], qa_h71, 141, 97098) from rfl) ?_
  refine qa_run (own := 11) (hl := 141) (sl := 97098) hown 23 (by decide +kernel) (by decide +kernel) (show qa_ev md_M_init 11 141 97098 23 281 [(0, .ref 112)] [.int (1 : Int32), .ref 113] qa_h71 141 97098 = some (320, [(0, .ref 112)], [.ref 112], qa_h65, 141, 97098) from rfl) ?_
  have hc : pm_X kp (d + 3) 191 [.ref 112] qa_h65 none (qm_hp m2) := by
    rw [qa_m1_eq]
    exact ct_use (fg_M_laysTwos (kp := kp) d) hy
  refine pq_clv (nx := 323) (a := 191) (b := 1) (n := 114) (o := 112) (ci := 11) (as := []) (rest := []) (fs := [.ref 113, .ref 114, .int (0 : Int32), .ref 115, .ref 116, .ref 117, .ref 118, .ref 119, .ref 120, .ref 121, .ref 122, .ref 123, .ref 124, .int (0 : Int32), .int (0 : Int32), .ref 125, .ref 126, .int (0 : Int32), .int (0 : Int32), .ref 127, .ref 128, .int (0 : Int32), .long (0 : Int64), .ref 129, .int (0 : Int32), .int (0 : Int32), .int (0 : Int32), .int (0 : Int32), .ref 130, .ref 131, .ref 132, .long (0 : Int64), .ref 133, .ref 134, .ref 135, .ref 136, .int (0 : Int32), .int (0 : Int32), .int (0 : Int32), .int (0 : Int32), .ref 137, .ref 138, .ref 139, .ref 140]) (r := none) (h1 := qm_hp m2) rfl (Or.inl ⟨rfl, rfl⟩) rfl (by decide) rfl ct_lays.1 (Or.inl ct_lays.2) hc ?_
  exact pq_vrt rfl rfl ⟨rfl, rfl⟩
set_option maxRecDepth 100000 in
set_option maxHeartbeats 4000000 in
/-- the law, up to its loop -/
theorem ct_law {kp : pm_K} {Q : Option Value → pm_H → Prop} (d : Nat) {m2 : qm_M} (hy : F_M_laysTwos qm_m1 = some (none, m2)) (hw : pm_W kp md_L_law (pm_X kp (d + 4)) 141 97098 Q 18 [(3, .int (0 : Int32)), (2, .ref 112), (1, .ref 0), (0, .ref 1000000)] [] (qm_hp m2)) :
    pm_W kp md_L_law (pm_X kp (d + 4)) 141 97098 Q 0 [(0, .ref 1000000)] [] [] := by
  refine qa_run0 (hl := 0) (sl := 0) 2 (by decide +kernel) (by decide +kernel) (show qa_ev md_L_law 99 141 97098 2 0 [(0, .ref 1000000)] [] qa_h72 0 0 = some (4, [(0, .ref 1000000)], [.ref 0, .ref 0], qa_h63, 1, 10) from rfl) ?_
  refine pq_clv (nx := 7) (a := 132) (b := 1) (n := 9) (o := 0) (ci := 10) (as := []) (rest := [.ref 0]) (fs := [.null, .null, .null, .null, .null, .null, .null, .null, .null, .null]) (r := none) (h1 := qa_h64) rfl (Or.inr ⟨rfl, rfl⟩) rfl (by decide) rfl (by decide +kernel) (Or.inr ⟨rfl, by decide +kernel, by decide +kernel⟩) (ct_0 (d + 1)) ?_
  refine qa_run0 (hl := 112) (sl := 14150) 3 (by decide +kernel) (by decide +kernel) (show qa_ev md_L_law 99 141 97098 3 7 [(0, .ref 1000000)] [.ref 0] qa_h64 112 14150 = some (12, [(1, .ref 0), (0, .ref 1000000)], [.ref 112, .ref 112], qa_h66, 113, 14194) from rfl) ?_
  refine pq_clv (nx := 15) (a := 184) (b := 1) (n := 12) (o := 112) (ci := 11) (as := []) (rest := [.ref 112]) (fs := [.null, .null, .int (0 : Int32), .null, .null, .null, .null, .null, .null, .null, .null, .null, .null, .int (0 : Int32), .int (0 : Int32), .null, .null, .int (0 : Int32), .int (0 : Int32), .null, .null, .int (0 : Int32), .long (0 : Int64), .null, .int (0 : Int32), .int (0 : Int32), .int (0 : Int32), .int (0 : Int32), .null, .null, .null, .long (0 : Int64), .null, .null, .null, .null, .int (0 : Int32), .int (0 : Int32), .int (0 : Int32), .int (0 : Int32), .null, .null, .null, .null]) (r := none) (h1 := qm_hp m2) rfl (Or.inr ⟨rfl, rfl⟩) rfl (by decide) rfl (by decide +kernel) (Or.inr ⟨rfl, Nat.le_of_eq (qm_hp_len m2), Nat.le_of_eq (qm_hp_sl m2)⟩) (ct_112 (d + 0) hy) ?_
  refine pq_sto rfl rfl rfl ?_
  refine pq_cst rfl rfl ?_
  refine pq_sto rfl rfl rfl ?_
  exact hw
