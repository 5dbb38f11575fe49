/-! the law's acts: a coin turned, coins played, answered; printed by wip/p50/w/gen_acts.py -/
theorem st_back {s : sT} (h : s.2.1.1 ≤ 10) (P : sP) : (st_undo (st_act s P)).1 = s.1 ∧ 1 ≤ (st_act s P).2.1.1 := by
  unfold st_undo st_act st_past
  dsimp only
  by_cases q : s.2.1.1 < 10
  · rw [if_pos q]
    dsimp only
    rw [Nat.add_sub_cancel, if_pos rfl]
    exact ⟨rfl, by omega⟩
  · rw [if_neg q]
    dsimp only
    exact ⟨rfl, by omega⟩
theorem sh_bits (s : sT) (x : nb_F) : nb ((st_heads s x).1 6) = nb (s.1 6) ^^^ x := rfl
theorem sh_R (s : sT) (x : nb_F) : bR (st_heads s x).1 = bR s.1 ∧ bC (st_heads s x).1 = bC s.1 ∧ (∀ j, j < 2 → bK (st_heads s x).1 j = bK s.1 j ∧ bL (st_heads s x).1 j = bL s.1 j) := by
  refine ⟨rfl, rfl, fun j hj => ?_⟩
  rcases (by omega : j = 0 ∨ j = 1) with rfl | rfl
  · exact ⟨rfl, rfl⟩
  · exact ⟨rfl, rfl⟩
theorem bd_chg {m m1 : qm_M} {s : sT} {x : nb_F} (h : bd m s) (e : ∀ a, a < 117 → m1.1 a = m.1 a) (g : ∀ r c, r < 6 → c < 6 → m1.1 (117 + r) c = if (nb (s.1 6) ^^^ x).getLsbD (6 * r + c) = true then 1 else 0) : bd m1 (st_heads s x) := by
  obtain ⟨r1, r2, r3⟩ := sh_R s x
  refine ⟨⟨by rw [r1, e 113 (by omega)]; exact h.1.1, by rw [r2, e 113 (by omega)]; exact h.1.2⟩, fun j hj => ?_, fun r c hr hc => ?_⟩
  · rw [(r3 j hj).1, (r3 j hj).2, e 114 (by omega), e 115 (by omega)]; exact h.2.1 j hj
  · rw [sh_bits]; exact g r c hr hc
theorem fl_b (b : Bool) : ((if b = true then (1 : Int32) else 0) ^^^ 1) &&& 1 = if (!b) = true then 1 else 0 := by cases b <;> rfl
theorem bd_turn {m : qm_M} {s : sT} (h : bd m s) {r c : Nat} (hr : r < 6) (hc : c < 6) : bd (qm_sI m (117 + r) c ((m.1 (117 + r) c ^^^ 1) &&& 1)) (st_heads s (nb_e (6 * r + c))) := bd_chg h (fun a ha => (qm_sI_other a (by omega)).1) (fun i j hi hj => by
  rw [BitVec.getLsbD_xor, nb_e_bl (by omega)]
  by_cases q : i = r ∧ j = c
  · rw [q.1, q.2, me_self, h.2.2 r c hr hc, decide_eq_true rfl, fl_b, Bool.xor_true]
  · rw [me_oth _ _ _ _ (by omega), h.2.2 i j hi hj, decide_eq_false (by omega), Bool.xor_false])
theorem bd_turns {m m1 : qm_M} {s : sT} (h : bd m s) {R C : Nat} (hC : C < 64) (g : tnd R C 36 m m1) : bd m1 (st_heads s (sC R C 6)) := bd_chg h (fun a ha => g.2.1 a (Or.inl ha)) (fun i j hi hj => by
  rw [g.1 i j hi hj, BitVec.getLsbD_xor, sC_bit6 hC hi hj, h.2.2 i j hi hj]
  by_cases q : R.testBit i = true ∧ C.testBit j = true
  · rw [if_pos ⟨by omega, q⟩, q.1, q.2, fl_b]
    show _ = if ((nb (s.1 6)).getLsbD (6 * i + j) ^^ (true && true)) = true then _ else _
    rw [Bool.and_self, Bool.xor_true]
  · rw [if_neg (fun z => q z.2)]
    have e : (R.testBit i && C.testBit j) = false := by
      cases z : (R.testBit i && C.testBit j) with
      | false => rfl
      | true => exact absurd ((Bool.and_eq_true _ _).mp z) q
    rw [e, Bool.xor_false])
theorem lay_z : ∀ r, r < 6 → qm_lay[117 + r]? = some (3, 6)
  | 0, _ => rfl
  | 1, _ => rfl
  | 2, _ => rfl
  | 3, _ => rfl
  | 4, _ => rfl
  | 5, _ => rfl
  | r + 6, h => absurd h (by omega)
theorem bd_gen {m : qm_M} {s : sT} (hb : bd m s) : m.1 113 (Int32.ofInt 0).toNatClampNeg = nI (bR s.1) ∧ m.1 113 (Int32.ofInt 1).toNatClampNeg = nI (bC s.1) := hb.1
theorem vn_b (x : Int32) : vp_nar .boolean x = x &&& 1 := rfl
theorem rem_e {a b : Nat} (ha : a < 2 ^ 31) (h0 : 0 < b) (hb : b < 2 ^ 31) : nI a - nI a / nI b * nI b = nI (a % b) := nI_rem ha h0 hb
theorem m117 {m : qm_M} {s : sT} (h : CI m s) {r : Nat} (c : Nat) (x : Int32) : CI (qm_sI m (117 + r) c x) s := h.up (by omega) c x
set_option maxRecDepth 100000 in
theorem lw_turn {kp : pm_K} {d : Nat} {Q : Option Value → pm_H → Prop} {i N Kd L S : Nat} {A B : Nat → Nat} {m mB : qm_M} {s : sT} {H : pm_H} (hN : N < 2 ^ 31) (hl : lst A Kd m s H) (hk : kept A B Kd mB s H) (hL : H.length ≤ L) (hS : pm_sl H ≤ S)
    (cont : ∀ does A' m' s' H', lst A' Kd m' s' H' → kept A' B Kd mB s H' → (does = 0 ∨ does = 1 ∧ (st_undo s').1 = s.1 ∧ 1 ≤ s'.2.1.1) → H'.length ≤ L → pm_sl H' ≤ S → pm_W kp md_L_law (pm_X kp (d + 40)) 2000 40000 Q 853 [(3, .int 1), (8, .int does), (7, .ref (B 112)), (2, .ref (A' 112)), (6, .int (nI N)), (5, .int (nI i)), (4, .ref Kd), (1, .ref 0), (0, .ref 1000000)] [] H') :
    pm_W kp md_L_law (pm_X kp (d + 40)) 2000 40000 Q 567 [(8, .int 1), (7, .ref (B 112)), (6, .int (nI N)), (5, .int (nI i)), (3, .int 1), (2, .ref (A 112)), (4, .ref Kd), (1, .ref 0), (0, .ref 1000000)] [] H := by
  obtain ⟨hB, h, hb, h0, hK⟩ := hl
  obtain ⟨hp, ⟨r1, r2, r3⟩, ⟨c1, c2, c3⟩⟩ := h.2.2.1.prl
  have hN4 : N / 2 ^ 4 < 2 ^ 31 := by omega
  have hN8 : N / 2 ^ 8 < 2 ^ 31 := by omega
  have hrb : N / 2 ^ 4 % bR s.1 < bR s.1 := Nat.mod_lt _ r2
  have hcb : N / 2 ^ 8 % bC s.1 < bC s.1 := Nat.mod_lt _ c2
  have hr6 : N / 2 ^ 4 % bR s.1 < 6 := by omega
  have hc6 : N / 2 ^ 8 % bC s.1 < 6 := by omega
  have h5 := (bH_of hB).2.2.2.2.1
  obtain ⟨f, hf⟩ := h5
  obtain ⟨z1, z2, z3⟩ := hbd_set hB (o := 117 + N / 2 ^ 4 % bR s.1) ⟨by omega, by omega⟩ (lay_z _ hr6) (Or.inr rfl) (N / 2 ^ 8 % bC s.1) ((m.1 (117 + N / 2 ^ 4 % bR s.1) (N / 2 ^ 8 % bC s.1) ^^^ 1) &&& 1)
  have hb1 := bd_turn hb hr6 hc6
  have hC1 := m117 h (r := N / 2 ^ 4 % bR s.1) (N / 2 ^ 8 % bC s.1) ((m.1 (117 + N / 2 ^ 4 % bR s.1) (N / 2 ^ 8 % bC s.1) ^^^ 1) &&& 1)
  obtain ⟨m2, a1, a2, a3⟩ := tc_turn hC1 hrb hcb
  obtain ⟨H2, x1⟩ := lx_cii z2 (fg_T_turn (kp := kp) (d + 36)) a1
  have hb2 := hb1.hi a3
  obtain ⟨H3, y1⟩ := lx_b x1.1 (fg_B_shown (kp := kp) (d + 39)) (nu_shown hb2 a2.2.2.1)
  have ff : xfr A H H3 := ((xfr.of z3).tr (xfr.of x1.2.1) (Nat.le_of_eq z3.2.1.symm)).tr (xfr.of y1.2.1) (by rw [x1.2.1.2.1, z3.2.1]; exact Nat.le_refl _)
  have lL : H3.length = H.length := by rw [y1.2.1.2.1, x1.2.1.2.1, z3.2.1]
  have lS : pm_sl H3 = pm_sl H := by rw [y1.2.1.2.2, x1.2.1.2.2, z3.2.2]
  obtain ⟨fs, hfs⟩ := hb_o0 z2
  obtain ⟨fs2, hfs2⟩ := hb_o112 x1.1
  refine pq_ld 2 rfl rfl rfl ?_
  refine pq_cst rfl rfl ?_
  refine pq_bop rfl rfl ?_
  rw [show ((nI N).toUInt32 >>> (((Int32.ofInt 4) : Int32).toUInt32 &&& Int32.toUInt32 31)).toInt32 = nI (N / 2 ^ 4) from nI_ushr (k := 4) hN (by omega)]
  refine pq_ld 5 rfl rfl rfl ?_
  refine pq_get rfl (bH_of hB).1 rfl ?_
  refine pq_cst rfl rfl ?_
  refine pq_ial rfl (bH_of hB).2.1 (qm_in_ok rfl) ?_
  rw [(bd_gen hb).1]
  refine pq_dop rfl rfl (nI_ne0 r2 (by omega)) ?_
  rw [rem_e hN4 r2 (by omega)]
  refine pq_sto rfl rfl rfl ?_
  refine pq_ld 3 rfl rfl rfl ?_
  refine pq_cst rfl rfl ?_
  refine pq_bop rfl rfl ?_
  rw [show ((nI N).toUInt32 >>> ((((Int8.ofInt 8).toInt32) : Int32).toUInt32 &&& Int32.toUInt32 31)).toInt32 = nI (N / 2 ^ 8) from nI_ushr (k := 8) hN (by omega)]
  refine pq_ld 6 rfl rfl rfl ?_
  refine pq_get rfl (bH_of hB).1 rfl ?_
  refine pq_cst rfl rfl ?_
  refine pq_ial rfl (bH_of hB).2.1 (qm_in_ok rfl) ?_
  rw [(bd_gen hb).2]
  refine pq_dop rfl rfl (nI_ne0 c2 (by omega)) ?_
  rw [rem_e hN8 c2 (by omega)]
  refine pq_sto rfl rfl rfl ?_
  refine pq_ld 7 rfl rfl rfl ?_
  refine pq_get rfl (bH_of hB).1 rfl ?_
  refine pq_ld 1 rfl rfl rfl ?_
  refine pq_aal rfl hf.1 (by decide) (jb_vin hr6 (by omega)) (by rw [nI_clamp (by omega)]; exact hf.2.1 _ hr6) ?_
  refine pq_ld 0 rfl rfl rfl ?_
  refine pq_sop rfl rfl ?_
  refine pq_zal rfl z1 (jb_vin hc6 (by omega)) ?_
  rw [nI_clamp (by omega)]
  refine pq_cst rfl rfl ?_
  refine pq_bop rfl rfl ?_
  refine pq_zas rfl z1 (jb_vin hc6 (by omega)) ?_
  rw [nI_clamp (by omega), vn_b]
  refine pq_ld 9 rfl rfl rfl ?_
  refine pq_ld 1 rfl rfl rfl ?_
  refine pq_ld 0 rfl rfl rfl ?_
  refine pq_clv rfl (Or.inl ⟨rfl, rfl⟩) rfl (Nat.le_of_ble_eq_true rfl) hfs (by decide +kernel) (Or.inl x1.2.2.2) x1.2.2.1 ?_
  refine pq_ld 7 rfl rfl rfl ?_
  refine pq_clv rfl (Or.inl ⟨rfl, rfl⟩) rfl (Nat.le_of_ble_eq_true rfl) hfs2 (by decide +kernel) (Or.inl y1.2.2.2) y1.2.2.1 ?_
  refine pq_icm rfl (fun z => absurd z (fun z => z rfl)) (fun _ => ?_)
  refine pq_cst rfl rfl ?_
  refine pq_goto rfl ?_
  refine pq_sto rfl rfl rfl ?_
  refine pq_goto rfl ?_
  refine pq_sub (nx := 0) (a := 0) (b := 0) [0, 3, 4, 7, 5, 6, 8, 9, 10] rfl ?_
  exact cont 1 _ _ _ _ ⟨y1.1, a2, hb2, h0, hK.fr ff⟩ (hk.fr ff) (Or.inr ⟨rfl, st_back h.2.2.2.1 _⟩) (by omega) (by omega)
