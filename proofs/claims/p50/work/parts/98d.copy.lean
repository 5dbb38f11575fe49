/-! a board copied; printed by wip/p50/w/gen_al.py -/
set_option maxRecDepth 100000 in
set_option maxHeartbeats 4000000 in
theorem al_copy {kp : pm_K} (d : Nat) (H : pm_H) (hH : H.length ≤ 90000) {A : Nat → Nat} {m : qm_M} (hB : bH A m H) (hv : ∀ r, r < 6 → ∀ i, i < 6 → m.1 (117 + r) i = 0 ∨ m.1 (117 + r) i = 1) : pm_X kp (d + 2) 86 [.ref (A 112)] H (some (.ref H.length)) (H ++ bC' H.length m) := by
  have b0 := hB.1
  have b1 := hB.2.1
  have b2 := hB.2.2.1
  have b3 := hB.2.2.2.1
  have b6 := hB.2.2.2.2.2
  obtain ⟨f, hf⟩ := hB.2.2.2.2.1
  have b4 := hf.1
  have b5 := hf.2.1
  refine pm_XA md_B_copy [(0, .ref (A 112))] 20 94 rfl (Nat.le_of_ble_eq_true rfl) rfl rfl (by unfold bC'; simp only [pm_sl, pm_sz, List.length_cons, List.length_nil]) ?_
  refine pq_new rfl rfl rfl (by omega) (by show pm_sl H + 4 ≤ _; omega) (by omega) ?_
  refine pq_sop rfl rfl ?_
  refine pq_clv rfl (Or.inr ⟨rfl, rfl⟩) rfl (Nat.le_of_ble_eq_true rfl) (ap_g H _ 0) (by decide +kernel) (Or.inr ⟨rfl, by rw [List.length_append]; show H.length + 11 ≤ _; omega, by rw [sl_app]; unfold bI; simp only [pm_sl, pm_sz, List.length_cons, List.length_nil]; omega⟩) (al_board _ H hH) ?_
  refine al_nx [.inr (11, [.ref (H.length + 1), .ref (H.length + 2), .ref (H.length + 3), .ref (H.length + 4)]), .inl (0, (2, .inl (upd (upd (fun _ => 0) 0 3) 1 3))), .inl (0, (2, .inl (fun _ => 0))), .inl (0, (2, .inl (upd (upd (fun _ => 0) 0 2) 1 2))), .inl (6, (6, .inr (.inr (.inr (.inr (fun j => if j < 6 then some (H.length + 4 + 1 + j) else none)))))), .inl (3, (6, .inl fun _ => 0)), .inl (3, (6, .inl fun _ => 0)), .inl (3, (6, .inl fun _ => 0)), .inl (3, (6, .inl fun _ => 0)), .inl (3, (6, .inl fun _ => 0)), .inl (3, (6, .inl fun _ => 0))] rfl ?_
  refine pq_sto rfl rfl rfl ?_
  refine pq_ld 0 rfl rfl rfl ?_
  refine pq_ld 1 rfl rfl rfl ?_
  refine pq_get rfl (ap_k _ b0) rfl ?_
  refine qx_clo (L := 11) rfl rfl (Or.inl rfl) rfl b1 (Nat.le_of_ble_eq_true rfl) rfl (Nat.le_of_ble_eq_true rfl) (by simp only [pm_sl, pm_sz, List.length_cons, List.length_nil]; omega) (by omega) ?_
  refine al_nx [.inr (11, [.ref (H.length + 1), .ref (H.length + 2), .ref (H.length + 3), .ref (H.length + 4)]), .inl (0, (2, .inl (upd (upd (fun _ => 0) 0 3) 1 3))), .inl (0, (2, .inl (fun _ => 0))), .inl (0, (2, .inl (upd (upd (fun _ => 0) 0 2) 1 2))), .inl (6, (6, .inr (.inr (.inr (.inr (fun j => if j < 6 then some (H.length + 4 + 1 + j) else none)))))), .inl (3, (6, .inl fun _ => 0)), .inl (3, (6, .inl fun _ => 0)), .inl (3, (6, .inl fun _ => 0)), .inl (3, (6, .inl fun _ => 0)), .inl (3, (6, .inl fun _ => 0)), .inl (3, (6, .inl fun _ => 0)), .inl (0, (2, .inl (m.1 113)))] rfl ?_
  refine qx_cca 11 rfl (Or.inl rfl) rfl ?_
  refine qx_put 0 rfl rfl rfl ⟨rfl, rfl⟩ rfl ?_
  refine al_nx [.inr (11, [.ref (H.length + 11), .ref (H.length + 2), .ref (H.length + 3), .ref (H.length + 4)]), .inl (0, (2, .inl (upd (upd (fun _ => 0) 0 3) 1 3))), .inl (0, (2, .inl (fun _ => 0))), .inl (0, (2, .inl (upd (upd (fun _ => 0) 0 2) 1 2))), .inl (6, (6, .inr (.inr (.inr (.inr (fun j => if j < 6 then some (H.length + 4 + 1 + j) else none)))))), .inl (3, (6, .inl fun _ => 0)), .inl (3, (6, .inl fun _ => 0)), .inl (3, (6, .inl fun _ => 0)), .inl (3, (6, .inl fun _ => 0)), .inl (3, (6, .inl fun _ => 0)), .inl (3, (6, .inl fun _ => 0)), .inl (0, (2, .inl (m.1 113)))] rfl ?_
  refine pq_ld 0 rfl rfl rfl ?_
  refine pq_ld 1 rfl rfl rfl ?_
  refine pq_get rfl (ap_k _ b0) rfl ?_
  refine qx_clo (L := 12) rfl rfl (Or.inl rfl) rfl b2 (Nat.le_of_ble_eq_true rfl) rfl (Nat.le_of_ble_eq_true rfl) (by simp only [pm_sl, pm_sz, List.length_cons, List.length_nil]; omega) (by omega) ?_
  refine al_nx [.inr (11, [.ref (H.length + 11), .ref (H.length + 2), .ref (H.length + 3), .ref (H.length + 4)]), .inl (0, (2, .inl (upd (upd (fun _ => 0) 0 3) 1 3))), .inl (0, (2, .inl (fun _ => 0))), .inl (0, (2, .inl (upd (upd (fun _ => 0) 0 2) 1 2))), .inl (6, (6, .inr (.inr (.inr (.inr (fun j => if j < 6 then some (H.length + 4 + 1 + j) else none)))))), .inl (3, (6, .inl fun _ => 0)), .inl (3, (6, .inl fun _ => 0)), .inl (3, (6, .inl fun _ => 0)), .inl (3, (6, .inl fun _ => 0)), .inl (3, (6, .inl fun _ => 0)), .inl (3, (6, .inl fun _ => 0)), .inl (0, (2, .inl (m.1 113))), .inl (0, (2, .inl (m.1 114)))] rfl ?_
  refine qx_cca 12 rfl (Or.inl rfl) rfl ?_
  refine qx_put 0 rfl rfl rfl ⟨rfl, rfl⟩ rfl ?_
  refine al_nx [.inr (11, [.ref (H.length + 11), .ref (H.length + 12), .ref (H.length + 3), .ref (H.length + 4)]), .inl (0, (2, .inl (upd (upd (fun _ => 0) 0 3) 1 3))), .inl (0, (2, .inl (fun _ => 0))), .inl (0, (2, .inl (upd (upd (fun _ => 0) 0 2) 1 2))), .inl (6, (6, .inr (.inr (.inr (.inr (fun j => if j < 6 then some (H.length + 4 + 1 + j) else none)))))), .inl (3, (6, .inl fun _ => 0)), .inl (3, (6, .inl fun _ => 0)), .inl (3, (6, .inl fun _ => 0)), .inl (3, (6, .inl fun _ => 0)), .inl (3, (6, .inl fun _ => 0)), .inl (3, (6, .inl fun _ => 0)), .inl (0, (2, .inl (m.1 113))), .inl (0, (2, .inl (m.1 114)))] rfl ?_
  refine pq_ld 0 rfl rfl rfl ?_
  refine pq_ld 1 rfl rfl rfl ?_
  refine pq_get rfl (ap_k _ b0) rfl ?_
  refine qx_clo (L := 13) rfl rfl (Or.inl rfl) rfl b3 (Nat.le_of_ble_eq_true rfl) rfl (Nat.le_of_ble_eq_true rfl) (by simp only [pm_sl, pm_sz, List.length_cons, List.length_nil]; omega) (by omega) ?_
  refine al_nx [.inr (11, [.ref (H.length + 11), .ref (H.length + 12), .ref (H.length + 3), .ref (H.length + 4)]), .inl (0, (2, .inl (upd (upd (fun _ => 0) 0 3) 1 3))), .inl (0, (2, .inl (fun _ => 0))), .inl (0, (2, .inl (upd (upd (fun _ => 0) 0 2) 1 2))), .inl (6, (6, .inr (.inr (.inr (.inr (fun j => if j < 6 then some (H.length + 4 + 1 + j) else none)))))), .inl (3, (6, .inl fun _ => 0)), .inl (3, (6, .inl fun _ => 0)), .inl (3, (6, .inl fun _ => 0)), .inl (3, (6, .inl fun _ => 0)), .inl (3, (6, .inl fun _ => 0)), .inl (3, (6, .inl fun _ => 0)), .inl (0, (2, .inl (m.1 113))), .inl (0, (2, .inl (m.1 114))), .inl (0, (2, .inl (m.1 115)))] rfl ?_
  refine qx_cca 13 rfl (Or.inl rfl) rfl ?_
  refine qx_put 0 rfl rfl rfl ⟨rfl, rfl⟩ rfl ?_
  refine al_nx [.inr (11, [.ref (H.length + 11), .ref (H.length + 12), .ref (H.length + 13), .ref (H.length + 4)]), .inl (0, (2, .inl (upd (upd (fun _ => 0) 0 3) 1 3))), .inl (0, (2, .inl (fun _ => 0))), .inl (0, (2, .inl (upd (upd (fun _ => 0) 0 2) 1 2))), .inl (6, (6, .inr (.inr (.inr (.inr (fun j => if j < 6 then some (H.length + 4 + 1 + j) else none)))))), .inl (3, (6, .inl fun _ => 0)), .inl (3, (6, .inl fun _ => 0)), .inl (3, (6, .inl fun _ => 0)), .inl (3, (6, .inl fun _ => 0)), .inl (3, (6, .inl fun _ => 0)), .inl (3, (6, .inl fun _ => 0)), .inl (0, (2, .inl (m.1 113))), .inl (0, (2, .inl (m.1 114))), .inl (0, (2, .inl (m.1 115)))] rfl ?_
  refine pq_cst rfl rfl ?_
  refine pq_sto rfl rfl rfl ?_
  refine pq_ld 0 rfl rfl rfl ?_
  refine pq_cst rfl rfl ?_
  refine pq_icm rfl (fun z => absurd z (@of_decide_eq_false _ (jb_dec _ _ _) rfl)) (fun _ => ?_)
  refine pq_ld 1 rfl rfl rfl ?_
  refine qx_get 0 rfl rfl rfl ?_
  refine pq_ld 0 rfl rfl rfl ?_
  refine pq_ld 2 rfl rfl rfl ?_
  refine pq_get rfl (ap_k _ b0) rfl ?_
  refine pq_ld 0 rfl rfl rfl ?_
  refine pq_aal rfl (ap_k _ b4) (by decide) (qm_in_ok rfl) (b5 0 (by decide)) ?_
  refine qx_clo (L := 14) rfl rfl (Or.inr ⟨rfl, hv 0 (by decide)⟩) rfl (b6 0 (by decide)) (Nat.le_of_ble_eq_true rfl) rfl (Nat.le_of_ble_eq_true rfl) (by simp only [pm_sl, pm_sz, List.length_cons, List.length_nil]; omega) (by omega) ?_
  refine al_nx [.inr (11, [.ref (H.length + 11), .ref (H.length + 12), .ref (H.length + 13), .ref (H.length + 4)]), .inl (0, (2, .inl (upd (upd (fun _ => 0) 0 3) 1 3))), .inl (0, (2, .inl (fun _ => 0))), .inl (0, (2, .inl (upd (upd (fun _ => 0) 0 2) 1 2))), .inl (6, (6, .inr (.inr (.inr (.inr (fun j => if j < 6 then some (H.length + 4 + 1 + j) else none)))))), .inl (3, (6, .inl fun _ => 0)), .inl (3, (6, .inl fun _ => 0)), .inl (3, (6, .inl fun _ => 0)), .inl (3, (6, .inl fun _ => 0)), .inl (3, (6, .inl fun _ => 0)), .inl (3, (6, .inl fun _ => 0)), .inl (0, (2, .inl (m.1 113))), .inl (0, (2, .inl (m.1 114))), .inl (0, (2, .inl (m.1 115))), .inl (3, (6, .inl (m.1 117)))] rfl ?_
  refine qx_cca 14 rfl (Or.inr rfl) rfl ?_
  refine qx_aam 4 14 rfl rfl (qm_in_ok rfl) rfl ?_
  refine al_nx [.inr (11, [.ref (H.length + 11), .ref (H.length + 12), .ref (H.length + 13), .ref (H.length + 4)]), .inl (0, (2, .inl (upd (upd (fun _ => 0) 0 3) 1 3))), .inl (0, (2, .inl (fun _ => 0))), .inl (0, (2, .inl (upd (upd (fun _ => 0) 0 2) 1 2))), .inl (6, (6, .inr (.inr (.inr (.inr (va_up (fun j => if j < 6 then some (H.length + 4 + 1 + j) else none) 0 (some (H.length + 14)))))))), .inl (3, (6, .inl fun _ => 0)), .inl (3, (6, .inl fun _ => 0)), .inl (3, (6, .inl fun _ => 0)), .inl (3, (6, .inl fun _ => 0)), .inl (3, (6, .inl fun _ => 0)), .inl (3, (6, .inl fun _ => 0)), .inl (0, (2, .inl (m.1 113))), .inl (0, (2, .inl (m.1 114))), .inl (0, (2, .inl (m.1 115))), .inl (3, (6, .inl (m.1 117)))] rfl ?_
  refine pq_inc 0 rfl rfl rfl ?_
  refine pq_goto rfl ?_
  refine pq_ld 0 rfl rfl rfl ?_
  refine pq_cst rfl rfl ?_
  refine pq_icm rfl (fun z => absurd z (@of_decide_eq_false _ (jb_dec _ _ _) rfl)) (fun _ => ?_)
  refine pq_ld 1 rfl rfl rfl ?_
  refine qx_get 0 rfl rfl rfl ?_
  refine pq_ld 0 rfl rfl rfl ?_
  refine pq_ld 2 rfl rfl rfl ?_
  refine pq_get rfl (ap_k _ b0) rfl ?_
  refine pq_ld 0 rfl rfl rfl ?_
  refine pq_aal rfl (ap_k _ b4) (by decide) (qm_in_ok rfl) (b5 1 (by decide)) ?_
  refine qx_clo (L := 15) rfl rfl (Or.inr ⟨rfl, hv 1 (by decide)⟩) rfl (b6 1 (by decide)) (Nat.le_of_ble_eq_true rfl) rfl (Nat.le_of_ble_eq_true rfl) (by simp only [pm_sl, pm_sz, List.length_cons, List.length_nil]; omega) (by omega) ?_
  refine al_nx [.inr (11, [.ref (H.length + 11), .ref (H.length + 12), .ref (H.length + 13), .ref (H.length + 4)]), .inl (0, (2, .inl (upd (upd (fun _ => 0) 0 3) 1 3))), .inl (0, (2, .inl (fun _ => 0))), .inl (0, (2, .inl (upd (upd (fun _ => 0) 0 2) 1 2))), .inl (6, (6, .inr (.inr (.inr (.inr (va_up (fun j => if j < 6 then some (H.length + 4 + 1 + j) else none) 0 (some (H.length + 14)))))))), .inl (3, (6, .inl fun _ => 0)), .inl (3, (6, .inl fun _ => 0)), .inl (3, (6, .inl fun _ => 0)), .inl (3, (6, .inl fun _ => 0)), .inl (3, (6, .inl fun _ => 0)), .inl (3, (6, .inl fun _ => 0)), .inl (0, (2, .inl (m.1 113))), .inl (0, (2, .inl (m.1 114))), .inl (0, (2, .inl (m.1 115))), .inl (3, (6, .inl (m.1 117))), .inl (3, (6, .inl (m.1 118)))] rfl ?_
  refine qx_cca 15 rfl (Or.inr rfl) rfl ?_
  refine qx_aam 4 15 rfl rfl (qm_in_ok rfl) rfl ?_
  refine al_nx [.inr (11, [.ref (H.length + 11), .ref (H.length + 12), .ref (H.length + 13), .ref (H.length + 4)]), .inl (0, (2, .inl (upd (upd (fun _ => 0) 0 3) 1 3))), .inl (0, (2, .inl (fun _ => 0))), .inl (0, (2, .inl (upd (upd (fun _ => 0) 0 2) 1 2))), .inl (6, (6, .inr (.inr (.inr (.inr (va_up (va_up (fun j => if j < 6 then some (H.length + 4 + 1 + j) else none) 0 (some (H.length + 14))) 1 (some (H.length + 15)))))))), .inl (3, (6, .inl fun _ => 0)), .inl (3, (6, .inl fun _ => 0)), .inl (3, (6, .inl fun _ => 0)), .inl (3, (6, .inl fun _ => 0)), .inl (3, (6, .inl fun _ => 0)), .inl (3, (6, .inl fun _ => 0)), .inl (0, (2, .inl (m.1 113))), .inl (0, (2, .inl (m.1 114))), .inl (0, (2, .inl (m.1 115))), .inl (3, (6, .inl (m.1 117))), .inl (3, (6, .inl (m.1 118)))] rfl ?_
  refine pq_inc 0 rfl rfl rfl ?_
  refine pq_goto rfl ?_
  refine pq_ld 0 rfl rfl rfl ?_
  refine pq_cst rfl rfl ?_
  refine pq_icm rfl (fun z => absurd z (@of_decide_eq_false _ (jb_dec _ _ _) rfl)) (fun _ => ?_)
  refine pq_ld 1 rfl rfl rfl ?_
  refine qx_get 0 rfl rfl rfl ?_
  refine pq_ld 0 rfl rfl rfl ?_
  refine pq_ld 2 rfl rfl rfl ?_
  refine pq_get rfl (ap_k _ b0) rfl ?_
  refine pq_ld 0 rfl rfl rfl ?_
  refine pq_aal rfl (ap_k _ b4) (by decide) (qm_in_ok rfl) (b5 2 (by decide)) ?_
  refine qx_clo (L := 16) rfl rfl (Or.inr ⟨rfl, hv 2 (by decide)⟩) rfl (b6 2 (by decide)) (Nat.le_of_ble_eq_true rfl) rfl (Nat.le_of_ble_eq_true rfl) (by simp only [pm_sl, pm_sz, List.length_cons, List.length_nil]; omega) (by omega) ?_
  refine al_nx [.inr (11, [.ref (H.length + 11), .ref (H.length + 12), .ref (H.length + 13), .ref (H.length + 4)]), .inl (0, (2, .inl (upd (upd (fun _ => 0) 0 3) 1 3))), .inl (0, (2, .inl (fun _ => 0))), .inl (0, (2, .inl (upd (upd (fun _ => 0) 0 2) 1 2))), .inl (6, (6, .inr (.inr (.inr (.inr (va_up (va_up (fun j => if j < 6 then some (H.length + 4 + 1 + j) else none) 0 (some (H.length + 14))) 1 (some (H.length + 15)))))))), .inl (3, (6, .inl fun _ => 0)), .inl (3, (6, .inl fun _ => 0)), .inl (3, (6, .inl fun _ => 0)), .inl (3, (6, .inl fun _ => 0)), .inl (3, (6, .inl fun _ => 0)), .inl (3, (6, .inl fun _ => 0)), .inl (0, (2, .inl (m.1 113))), .inl (0, (2, .inl (m.1 114))), .inl (0, (2, .inl (m.1 115))), .inl (3, (6, .inl (m.1 117))), .inl (3, (6, .inl (m.1 118))), .inl (3, (6, .inl (m.1 119)))] rfl ?_
  refine qx_cca 16 rfl (Or.inr rfl) rfl ?_
  refine qx_aam 4 16 rfl rfl (qm_in_ok rfl) rfl ?_
  refine al_nx [.inr (11, [.ref (H.length + 11), .ref (H.length + 12), .ref (H.length + 13), .ref (H.length + 4)]), .inl (0, (2, .inl (upd (upd (fun _ => 0) 0 3) 1 3))), .inl (0, (2, .inl (fun _ => 0))), .inl (0, (2, .inl (upd (upd (fun _ => 0) 0 2) 1 2))), .inl (6, (6, .inr (.inr (.inr (.inr (va_up (va_up (va_up (fun j => if j < 6 then some (H.length + 4 + 1 + j) else none) 0 (some (H.length + 14))) 1 (some (H.length + 15))) 2 (some (H.length + 16)))))))), .inl (3, (6, .inl fun _ => 0)), .inl (3, (6, .inl fun _ => 0)), .inl (3, (6, .inl fun _ => 0)), .inl (3, (6, .inl fun _ => 0)), .inl (3, (6, .inl fun _ => 0)), .inl (3, (6, .inl fun _ => 0)), .inl (0, (2, .inl (m.1 113))), .inl (0, (2, .inl (m.1 114))), .inl (0, (2, .inl (m.1 115))), .inl (3, (6, .inl (m.1 117))), .inl (3, (6, .inl (m.1 118))), .inl (3, (6, .inl (m.1 119)))] rfl ?_
  refine pq_inc 0 rfl rfl rfl ?_
  refine pq_goto rfl ?_
  refine pq_ld 0 rfl rfl rfl ?_
  refine pq_cst rfl rfl ?_
  refine pq_icm rfl (fun z => absurd z (@of_decide_eq_false _ (jb_dec _ _ _) rfl)) (fun _ => ?_)
  refine pq_ld 1 rfl rfl rfl ?_
  refine qx_get 0 rfl rfl rfl ?_
  refine pq_ld 0 rfl rfl rfl ?_
  refine pq_ld 2 rfl rfl rfl ?_
  refine pq_get rfl (ap_k _ b0) rfl ?_
  refine pq_ld 0 rfl rfl rfl ?_
  refine pq_aal rfl (ap_k _ b4) (by decide) (qm_in_ok rfl) (b5 3 (by decide)) ?_
  refine qx_clo (L := 17) rfl rfl (Or.inr ⟨rfl, hv 3 (by decide)⟩) rfl (b6 3 (by decide)) (Nat.le_of_ble_eq_true rfl) rfl (Nat.le_of_ble_eq_true rfl) (by simp only [pm_sl, pm_sz, List.length_cons, List.length_nil]; omega) (by omega) ?_
  refine al_nx [.inr (11, [.ref (H.length + 11), .ref (H.length + 12), .ref (H.length + 13), .ref (H.length + 4)]), .inl (0, (2, .inl (upd (upd (fun _ => 0) 0 3) 1 3))), .inl (0, (2, .inl (fun _ => 0))), .inl (0, (2, .inl (upd (upd (fun _ => 0) 0 2) 1 2))), .inl (6, (6, .inr (.inr (.inr (.inr (va_up (va_up (va_up (fun j => if j < 6 then some (H.length + 4 + 1 + j) else none) 0 (some (H.length + 14))) 1 (some (H.length + 15))) 2 (some (H.length + 16)))))))), .inl (3, (6, .inl fun _ => 0)), .inl (3, (6, .inl fun _ => 0)), .inl (3, (6, .inl fun _ => 0)), .inl (3, (6, .inl fun _ => 0)), .inl (3, (6, .inl fun _ => 0)), .inl (3, (6, .inl fun _ => 0)), .inl (0, (2, .inl (m.1 113))), .inl (0, (2, .inl (m.1 114))), .inl (0, (2, .inl (m.1 115))), .inl (3, (6, .inl (m.1 117))), .inl (3, (6, .inl (m.1 118))), .inl (3, (6, .inl (m.1 119))), .inl (3, (6, .inl (m.1 120)))] rfl ?_
  refine qx_cca 17 rfl (Or.inr rfl) rfl ?_
  refine qx_aam 4 17 rfl rfl (qm_in_ok rfl) rfl ?_
  refine al_nx [.inr (11, [.ref (H.length + 11), .ref (H.length + 12), .ref (H.length + 13), .ref (H.length + 4)]), .inl (0, (2, .inl (upd (upd (fun _ => 0) 0 3) 1 3))), .inl (0, (2, .inl (fun _ => 0))), .inl (0, (2, .inl (upd (upd (fun _ => 0) 0 2) 1 2))), .inl (6, (6, .inr (.inr (.inr (.inr (va_up (va_up (va_up (va_up (fun j => if j < 6 then some (H.length + 4 + 1 + j) else none) 0 (some (H.length + 14))) 1 (some (H.length + 15))) 2 (some (H.length + 16))) 3 (some (H.length + 17)))))))), .inl (3, (6, .inl fun _ => 0)), .inl (3, (6, .inl fun _ => 0)), .inl (3, (6, .inl fun _ => 0)), .inl (3, (6, .inl fun _ => 0)), .inl (3, (6, .inl fun _ => 0)), .inl (3, (6, .inl fun _ => 0)), .inl (0, (2, .inl (m.1 113))), .inl (0, (2, .inl (m.1 114))), .inl (0, (2, .inl (m.1 115))), .inl (3, (6, .inl (m.1 117))), .inl (3, (6, .inl (m.1 118))), .inl (3, (6, .inl (m.1 119))), .inl (3, (6, .inl (m.1 120)))] rfl ?_
  refine pq_inc 0 rfl rfl rfl ?_
  refine pq_goto rfl ?_
  refine pq_ld 0 rfl rfl rfl ?_
  refine pq_cst rfl rfl ?_
  refine pq_icm rfl (fun z => absurd z (@of_decide_eq_false _ (jb_dec _ _ _) rfl)) (fun _ => ?_)
  refine pq_ld 1 rfl rfl rfl ?_
  refine qx_get 0 rfl rfl rfl ?_
  refine pq_ld 0 rfl rfl rfl ?_
  refine pq_ld 2 rfl rfl rfl ?_
  refine pq_get rfl (ap_k _ b0) rfl ?_
  refine pq_ld 0 rfl rfl rfl ?_
  refine pq_aal rfl (ap_k _ b4) (by decide) (qm_in_ok rfl) (b5 4 (by decide)) ?_
  refine qx_clo (L := 18) rfl rfl (Or.inr ⟨rfl, hv 4 (by decide)⟩) rfl (b6 4 (by decide)) (Nat.le_of_ble_eq_true rfl) rfl (Nat.le_of_ble_eq_true rfl) (by simp only [pm_sl, pm_sz, List.length_cons, List.length_nil]; omega) (by omega) ?_
  refine al_nx [.inr (11, [.ref (H.length + 11), .ref (H.length + 12), .ref (H.length + 13), .ref (H.length + 4)]), .inl (0, (2, .inl (upd (upd (fun _ => 0) 0 3) 1 3))), .inl (0, (2, .inl (fun _ => 0))), .inl (0, (2, .inl (upd (upd (fun _ => 0) 0 2) 1 2))), .inl (6, (6, .inr (.inr (.inr (.inr (va_up (va_up (va_up (va_up (fun j => if j < 6 then some (H.length + 4 + 1 + j) else none) 0 (some (H.length + 14))) 1 (some (H.length + 15))) 2 (some (H.length + 16))) 3 (some (H.length + 17)))))))), .inl (3, (6, .inl fun _ => 0)), .inl (3, (6, .inl fun _ => 0)), .inl (3, (6, .inl fun _ => 0)), .inl (3, (6, .inl fun _ => 0)), .inl (3, (6, .inl fun _ => 0)), .inl (3, (6, .inl fun _ => 0)), .inl (0, (2, .inl (m.1 113))), .inl (0, (2, .inl (m.1 114))), .inl (0, (2, .inl (m.1 115))), .inl (3, (6, .inl (m.1 117))), .inl (3, (6, .inl (m.1 118))), .inl (3, (6, .inl (m.1 119))), .inl (3, (6, .inl (m.1 120))), .inl (3, (6, .inl (m.1 121)))] rfl ?_
  refine qx_cca 18 rfl (Or.inr rfl) rfl ?_
  refine qx_aam 4 18 rfl rfl (qm_in_ok rfl) rfl ?_
  refine al_nx [.inr (11, [.ref (H.length + 11), .ref (H.length + 12), .ref (H.length + 13), .ref (H.length + 4)]), .inl (0, (2, .inl (upd (upd (fun _ => 0) 0 3) 1 3))), .inl (0, (2, .inl (fun _ => 0))), .inl (0, (2, .inl (upd (upd (fun _ => 0) 0 2) 1 2))), .inl (6, (6, .inr (.inr (.inr (.inr (va_up (va_up (va_up (va_up (va_up (fun j => if j < 6 then some (H.length + 4 + 1 + j) else none) 0 (some (H.length + 14))) 1 (some (H.length + 15))) 2 (some (H.length + 16))) 3 (some (H.length + 17))) 4 (some (H.length + 18)))))))), .inl (3, (6, .inl fun _ => 0)), .inl (3, (6, .inl fun _ => 0)), .inl (3, (6, .inl fun _ => 0)), .inl (3, (6, .inl fun _ => 0)), .inl (3, (6, .inl fun _ => 0)), .inl (3, (6, .inl fun _ => 0)), .inl (0, (2, .inl (m.1 113))), .inl (0, (2, .inl (m.1 114))), .inl (0, (2, .inl (m.1 115))), .inl (3, (6, .inl (m.1 117))), .inl (3, (6, .inl (m.1 118))), .inl (3, (6, .inl (m.1 119))), .inl (3, (6, .inl (m.1 120))), .inl (3, (6, .inl (m.1 121)))] rfl ?_
  refine pq_inc 0 rfl rfl rfl ?_
  refine pq_goto rfl ?_
  refine pq_ld 0 rfl rfl rfl ?_
  refine pq_cst rfl rfl ?_
  refine pq_icm rfl (fun z => absurd z (@of_decide_eq_false _ (jb_dec _ _ _) rfl)) (fun _ => ?_)
  refine pq_ld 1 rfl rfl rfl ?_
  refine qx_get 0 rfl rfl rfl ?_
  refine pq_ld 0 rfl rfl rfl ?_
  refine pq_ld 2 rfl rfl rfl ?_
  refine pq_get rfl (ap_k _ b0) rfl ?_
  refine pq_ld 0 rfl rfl rfl ?_
  refine pq_aal rfl (ap_k _ b4) (by decide) (qm_in_ok rfl) (b5 5 (by decide)) ?_
  refine qx_clo (L := 19) rfl rfl (Or.inr ⟨rfl, hv 5 (by decide)⟩) rfl (b6 5 (by decide)) (Nat.le_of_ble_eq_true rfl) rfl (Nat.le_of_ble_eq_true rfl) (by simp only [pm_sl, pm_sz, List.length_cons, List.length_nil]; omega) (by omega) ?_
  refine al_nx [.inr (11, [.ref (H.length + 11), .ref (H.length + 12), .ref (H.length + 13), .ref (H.length + 4)]), .inl (0, (2, .inl (upd (upd (fun _ => 0) 0 3) 1 3))), .inl (0, (2, .inl (fun _ => 0))), .inl (0, (2, .inl (upd (upd (fun _ => 0) 0 2) 1 2))), .inl (6, (6, .inr (.inr (.inr (.inr (va_up (va_up (va_up (va_up (va_up (fun j => if j < 6 then some (H.length + 4 + 1 + j) else none) 0 (some (H.length + 14))) 1 (some (H.length + 15))) 2 (some (H.length + 16))) 3 (some (H.length + 17))) 4 (some (H.length + 18)))))))), .inl (3, (6, .inl fun _ => 0)), .inl (3, (6, .inl fun _ => 0)), .inl (3, (6, .inl fun _ => 0)), .inl (3, (6, .inl fun _ => 0)), .inl (3, (6, .inl fun _ => 0)), .inl (3, (6, .inl fun _ => 0)), .inl (0, (2, .inl (m.1 113))), .inl (0, (2, .inl (m.1 114))), .inl (0, (2, .inl (m.1 115))), .inl (3, (6, .inl (m.1 117))), .inl (3, (6, .inl (m.1 118))), .inl (3, (6, .inl (m.1 119))), .inl (3, (6, .inl (m.1 120))), .inl (3, (6, .inl (m.1 121))), .inl (3, (6, .inl (m.1 122)))] rfl ?_
  refine qx_cca 19 rfl (Or.inr rfl) rfl ?_
  refine qx_aam 4 19 rfl rfl (qm_in_ok rfl) rfl ?_
  refine al_nx [.inr (11, [.ref (H.length + 11), .ref (H.length + 12), .ref (H.length + 13), .ref (H.length + 4)]), .inl (0, (2, .inl (upd (upd (fun _ => 0) 0 3) 1 3))), .inl (0, (2, .inl (fun _ => 0))), .inl (0, (2, .inl (upd (upd (fun _ => 0) 0 2) 1 2))), .inl (6, (6, .inr (.inr (.inr (.inr (va_up (va_up (va_up (va_up (va_up (va_up (fun j => if j < 6 then some (H.length + 4 + 1 + j) else none) 0 (some (H.length + 14))) 1 (some (H.length + 15))) 2 (some (H.length + 16))) 3 (some (H.length + 17))) 4 (some (H.length + 18))) 5 (some (H.length + 19)))))))), .inl (3, (6, .inl fun _ => 0)), .inl (3, (6, .inl fun _ => 0)), .inl (3, (6, .inl fun _ => 0)), .inl (3, (6, .inl fun _ => 0)), .inl (3, (6, .inl fun _ => 0)), .inl (3, (6, .inl fun _ => 0)), .inl (0, (2, .inl (m.1 113))), .inl (0, (2, .inl (m.1 114))), .inl (0, (2, .inl (m.1 115))), .inl (3, (6, .inl (m.1 117))), .inl (3, (6, .inl (m.1 118))), .inl (3, (6, .inl (m.1 119))), .inl (3, (6, .inl (m.1 120))), .inl (3, (6, .inl (m.1 121))), .inl (3, (6, .inl (m.1 122)))] rfl ?_
  refine pq_inc 0 rfl rfl rfl ?_
  refine pq_goto rfl ?_
  refine pq_ld 0 rfl rfl rfl ?_
  refine pq_cst rfl rfl ?_
  refine pq_icm rfl (fun _ => ?_) (fun z => absurd (@of_decide_eq_true _ (jb_dec _ _ _) rfl) z)
  refine pq_ld 1 rfl rfl rfl ?_
  exact pq_art rfl rfl ⟨rfl, rfl⟩
