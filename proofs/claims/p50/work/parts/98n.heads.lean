/-! the law's cells told; printed by wip/p50/w/gen_heads.py -/
def cel (kp : pm_K) (j : Nat) : Int32 := if j < kp.1 then kp.2 j else (Int16.ofInt 16807).toInt32 * nI j + 41001
set_option maxRecDepth 100000 in
theorem lc_cell {kp : pm_K} (hk : kp.1 < 2 ^ 31) (d : Nat) (H : pm_H) {j : Nat} (hj : j < 2 ^ 31) : pm_X kp (d + 1) 123 [.ref 1000000, .int (nI j)] H (some (.int (cel kp j))) H := by
  unfold cel
  refine pm_Xi md_L_cell [(0, .ref 1000000), (1, .int (nI j))] rfl (Nat.le_of_ble_eq_true rfl) rfl ?_
  refine pq_ld 1 rfl rfl rfl ?_
  refine pq_ld 0 rfl rfl rfl ?_
  refine pq_kle rfl (show pm_kar kp 1000000 = some (0, (kp.1, .inl kp.2)) from rfl) ?_
  by_cases q : j < kp.1
  · rw [if_pos q]
    refine pq_icm rfl (fun z => absurd z (ge_n q hk)) (fun _ => ?_)
    refine pq_ld 0 rfl rfl rfl ?_
    refine pq_ld 1 rfl rfl rfl ?_
    refine pq_kil rfl (show pm_kar kp 1000000 = some (0, (kp.1, .inl kp.2)) from rfl) (jb_vin q hk) ?_
    rw [nI_clamp (by omega)]
    refine pq_goto rfl ?_
    exact pq_irt rfl rfl rfl ⟨rfl, rfl⟩
  · rw [if_neg q]
    refine pq_icm rfl (fun _ => ?_) (fun z => absurd (ge_p (by omega) hj) z)
    refine pq_cst rfl rfl ?_
    refine pq_ld 1 rfl rfl rfl ?_
    refine pq_bop rfl rfl ?_
    refine pq_ldc rfl rfl rfl ?_
    refine pq_bop rfl rfl ?_
    exact pq_irt rfl rfl rfl ⟨rfl, rfl⟩
theorem ush_ex (z : Int32) {k : Nat} (hk : 1 ≤ k ∧ k < 32) : ∃ M, M < 2 ^ 31 ∧ (z.toUInt32 >>> ((nI k).toUInt32 &&& Int32.toUInt32 31)).toInt32 = nI M := by
  have c : (List.range 32).all (fun k => decide (((nI k).toUInt32 &&& Int32.toUInt32 31).toBitVec % 32 = BitVec.ofNat 32 k)) = true := by decide +kernel
  have c1 := of_decide_eq_true (List.all_eq_true.mp c k (List.mem_range.mpr hk.2))
  have hz : z.toBitVec.toNat < 2 ^ 32 := z.toBitVec.isLt
  have hd : z.toBitVec.toNat / 2 ^ k < 2 ^ 31 := by
    refine Nat.div_lt_of_lt_mul ?_
    have h2 : 2 ^ 1 ≤ 2 ^ k := Nat.pow_le_pow_right (by omega) hk.1
    omega
  refine ⟨z.toBitVec.toNat / 2 ^ k, hd, ?_⟩
  refine Int32.toBitVec_inj.1 ?_
  show (z.toUInt32 >>> ((nI k).toUInt32 &&& Int32.toUInt32 31)).toBitVec = BitVec.ofNat 32 (z.toBitVec.toNat / 2 ^ k)
  rw [UInt32.toBitVec_shiftRight]
  show z.toBitVec >>> (((nI k).toUInt32 &&& Int32.toUInt32 31).toBitVec % 32) = BitVec.ofNat 32 (z.toBitVec.toNat / 2 ^ k)
  rw [c1]
  apply BitVec.eq_of_toNat_eq
  rw [BitVec.ushiftRight_eq', BitVec.toNat_ushiftRight, BitVec.toNat_ofNat, BitVec.toNat_ofNat, Nat.mod_eq_of_lt (show k < 2 ^ 32 by omega), Nat.shiftRight_eq_div_pow, Nat.mod_eq_of_lt (show z.toBitVec.toNat / 2 ^ k < 2 ^ 32 by omega)]
/-- the board's many, and its heads as told so far -/
def hm (m0 m : qm_M) (r0 r1 : Nat) (l : List (Nat × Nat)) : Prop := (m.1 113 0 = nI r0 ∧ m.1 113 1 = nI r1) ∧ (∀ r c, r < 6 → c < 6 → m.1 (117 + r) c = if (hds 0 l).getLsbD (6 * r + c) = true then 1 else 0) ∧ (∀ a, a < 117 → m.1 a = m0.1 a) ∧ m.2 = m0.2
theorem hm_s {m0 m : qm_M} {r0 r1 x y : Nat} {l : List (Nat × Nat)} (h : hm m0 m r0 r1 l) (hx : x < 6) (hy : y < 6) : hm m0 (qm_sI m (117 + x) y 1) r0 r1 (l ++ [(x, y)]) := by
  obtain ⟨h1, h2, h3, h4⟩ := h
  refine ⟨⟨by rw [me_oth _ _ _ _ (Or.inl (by omega))]; exact h1.1, by rw [me_oth _ _ _ _ (Or.inl (by omega))]; exact h1.2⟩, fun r c hr hc => ?_, fun a ha => by rw [(qm_sI_other a (by omega)).1]; exact h3 a ha, h4⟩
  have e : hds 0 (l ++ [(x, y)]) = hds 0 l ||| nb_e (6 * x + y) := by unfold hds; rw [List.foldl_append]; rfl
  rw [e, BitVec.getLsbD_or, nb_e_bl (by omega)]
  by_cases q : r = x ∧ c = y
  · rw [q.1, q.2, me_self, decide_eq_true rfl, Bool.or_true, if_pos rfl]
  · rw [me_oth _ _ _ _ (by omega), h2 r c hr hc, decide_eq_false (by omega), Bool.or_false]
set_option maxRecDepth 100000 in
theorem lw_heads {kp : pm_K} {d : Nat} {Q : Option Value → pm_H → Prop} {i N Kd Wa V r0 r1 : Nat} {A B : Nat → Nat} {m0 mB : qm_M} {s : sT} {cs : List Nat} {H0 : pm_H} (hk : kp.1 < 2 ^ 31) (hi : i < 20) (hN : N < 2 ^ 31) (hcs : cs.length ≤ 40) (hr0 : 0 < r0 ∧ r0 ≤ 5) (hr1 : 0 < r1 ∧ r1 ≤ 5)
    (cont : ∀ m l f H, ws A B Kd Wa V mB s m (cs ++ l.flatMap hdt) f H → l.length ≤ 5 → (∀ q ∈ l, q.1 < r0 ∧ q.2 < r1) → hm m0 m r0 r1 l → H.length = H0.length ∧ pm_sl H = pm_sl H0 → pm_W kp md_L_law (pm_X kp (d + 40)) 2000 40000 Q 529 [(9, .ref Wa), (2, .ref (A 112)), (8, .int 1), (7, .ref (B 112)), (6, .int (nI N)), (5, .int (nI i)), (3, .int 1), (4, .ref Kd), (1, .ref 0), (0, .ref 1000000)] [] H) :
    ∀ (e t : Nat) (m : qm_M) (l : List (Nat × Nat)) (f : Nat → Int32) (H : pm_H), t + e = N / 2 ^ 20 % 6 → ws A B Kd Wa V mB s m (cs ++ l.flatMap hdt) f H → l.length = t → (∀ q ∈ l, q.1 < r0 ∧ q.2 < r1) → hm m0 m r0 r1 l → H.length = H0.length ∧ pm_sl H = pm_sl H0 →
    pm_W kp md_L_law (pm_X kp (d + 40)) 2000 40000 Q 418 [(10, .int (nI t)), (9, .ref Wa), (2, .ref (A 112)), (8, .int 1), (7, .ref (B 112)), (6, .int (nI N)), (5, .int (nI i)), (3, .int 1), (4, .ref Kd), (1, .ref 0), (0, .ref 1000000)] [] H
  | 0, t, m, l, f, H, hte, h, hl, hq, hh, hL => by
    have h6 : N / 2 ^ 20 % 6 < 6 := Nat.mod_lt _ (by decide)
    refine pq_ld 0 rfl rfl rfl ?_
    refine pq_ld 5 rfl rfl rfl ?_
    refine pq_cst rfl rfl ?_
    refine pq_bop rfl rfl ?_
    rw [show ((nI N).toUInt32 >>> (((Int8.ofInt 20).toInt32).toUInt32 &&& Int32.toUInt32 31)).toInt32 = nI (N / 2 ^ 20) from nI_ushr (k := 20) hN (by omega)]
    refine pq_cst rfl rfl ?_
    refine pq_dop rfl rfl (by decide) ?_
    rw [show nI (N / 2 ^ 20) - nI (N / 2 ^ 20) / (Int8.ofInt 6).toInt32 * (Int8.ofInt 6).toInt32 = nI (N / 2 ^ 20 % 6) from rem_e (b := 6) (by omega) (by omega) (by omega)]
    refine pq_icm rfl (fun _ => ?_) (fun z => absurd (ge_p (show N / 2 ^ 20 % 6 ≤ t by omega) (by omega)) z)
    refine pq_sub (nx := 0) (a := 0) (b := 0) [1, 2, 3, 4, 5, 6, 7, 8, 9, 10] rfl ?_
    exact cont m l f H h (by omega) hq hh hL
  | e + 1, t, m, l, f, H, hte, h, hl, hq, hh, hL => by
    have h6 : N / 2 ^ 20 % 6 < 6 := Nat.mod_lt _ (by decide)
    obtain ⟨M1, lM1, hM1⟩ := ush_ex (cel kp (30 + 8 * i + t)) (k := 1) (by omega)
    obtain ⟨M2, lM2, hM2⟩ := ush_ex (cel kp (30 + 8 * i + t)) (k := 9) (by omega)
    have x0 : M1 % r0 < r0 := Nat.mod_lt _ hr0.1
    have y0 : M2 % r1 < r1 := Nat.mod_lt _ hr1.1
    have hfl : ∀ l : List (Nat × Nat), (l.flatMap hdt).length = 10 * l.length := fun l => by
      induction l with
      | nil => rfl
      | cons a l ih => rw [List.flatMap_cons, List.length_append, ih]; show 10 + _ = 10 * (l.length + 1); omega
    have hc : (cs ++ l.flatMap hdt).length ≤ 80 := by rw [List.length_append, hfl]; omega
    have h5 := (bH_of h.1).2.2.2.2.1
    obtain ⟨hfn, hf⟩ := h5
    obtain ⟨z1, w1, l1⟩ := h.set (o := 117 + M1 % r0) ⟨by omega, by omega⟩ (lay_z _ (by omega)) (Or.inr rfl) (M2 % r1) 1
    have hw8 : (wsl 8).length = 6 := rfl
    obtain ⟨f2, H2, w2, l2, x2⟩ := ap_str (kp := kp) (d + 35) w1 (w := 8) (by omega) (by omega)
    obtain ⟨f3, H3, w3, l3, x3⟩ := ap_int (kp := kp) (d + 37) w2 (v := M1 % r0) (by omega) (by rw [List.length_append, hw8]; omega)
    obtain ⟨f4, H4, w4, l4, x4⟩ := ap_chr (kp := kp) (d + 37) w3 (by rw [List.length_append, List.length_append, hw8]; show _ + 6 + 1 < 120; omega)
    obtain ⟨f5, H5, w5, l5, x5⟩ := ap_int (kp := kp) (d + 37) w4 (v := M2 % r1) (by omega) (by rw [List.length_append, List.length_append, List.length_append, hw8]; show _ + 6 + 1 + 1 < 120; omega)
    obtain ⟨f6, H6, w6, l6, x6⟩ := ap_chr (kp := kp) (d + 37) w5 (by rw [List.length_append, List.length_append, List.length_append, List.length_append, hw8]; show _ + 6 + 1 + 1 + 1 < 120; omega)
    have ecs : cs ++ l.flatMap hdt ++ wsl 8 ++ [48 + M1 % r0] ++ [32] ++ [48 + M2 % r1] ++ [32] = cs ++ (l ++ [(M1 % r0, M2 % r1)]).flatMap hdt := by
      rw [List.flatMap_append]
      simp [wsl, hdt]
    rw [ecs] at w6
    refine pq_ld 0 rfl rfl rfl ?_
    refine pq_ld 5 rfl rfl rfl ?_
    refine pq_cst rfl rfl ?_
    refine pq_bop rfl rfl ?_
    rw [show ((nI N).toUInt32 >>> (((Int8.ofInt 20).toInt32).toUInt32 &&& Int32.toUInt32 31)).toInt32 = nI (N / 2 ^ 20) from nI_ushr (k := 20) hN (by omega)]
    refine pq_cst rfl rfl ?_
    refine pq_dop rfl rfl (by decide) ?_
    rw [show nI (N / 2 ^ 20) - nI (N / 2 ^ 20) / (Int8.ofInt 6).toInt32 * (Int8.ofInt 6).toInt32 = nI (N / 2 ^ 20 % 6) from rem_e (b := 6) (by omega) (by omega) (by omega)]
    refine pq_icm rfl (fun z => absurd z (ge_n (show t < N / 2 ^ 20 % 6 by omega) (by omega))) (fun _ => ?_)
    refine pq_ld 10 rfl rfl rfl ?_
    refine pq_cst rfl rfl ?_
    refine pq_cst rfl rfl ?_
    refine pq_ld 6 rfl rfl rfl ?_
    refine pq_bop rfl rfl ?_
    rw [show (Int8.ofInt 8).toInt32 * nI i = nI (8 * i) from pk_mul 8 i]
    refine pq_bop rfl rfl ?_
    rw [show (Int8.ofInt 30).toInt32 + nI (8 * i) = nI (30 + 8 * i) from nI_add 30 _]
    refine pq_ld 0 rfl rfl rfl ?_
    refine pq_bop rfl rfl ?_
    rw [show nI (30 + 8 * i) + nI t = nI (30 + 8 * i + t) from nI_add _ _]
    refine pq_cls rfl rfl rfl rfl (Nat.le_of_ble_eq_true rfl) (Or.inl rfl) (lc_cell hk (d + 39) _ (j := (30 + 8 * i + t)) (by omega)) ?_
    refine pq_cst rfl rfl ?_
    refine pq_bop rfl rfl ?_
    rw [show ((cel kp (30 + 8 * i + t)).toUInt32 >>> ((Int32.ofInt 1).toUInt32 &&& Int32.toUInt32 31)).toInt32 = nI M1 from hM1]
    refine pq_ld 2 rfl rfl rfl ?_
    refine pq_get rfl (bH_of h.1).1 rfl ?_
    refine pq_cst rfl rfl ?_
    refine pq_ial rfl (bH_of h.1).2.1 (qm_in_ok rfl) ?_
    rw [show m.1 113 (Int32.ofInt 0).toNatClampNeg = nI r0 from hh.1.1]
    refine pq_dop rfl rfl (nI_ne0 hr0.1 (by omega)) ?_
    rw [rem_e lM1 hr0.1 (by omega)]
    refine pq_sto rfl rfl rfl ?_
    refine pq_ld 11 rfl rfl rfl ?_
    refine pq_cst rfl rfl ?_
    refine pq_cst rfl rfl ?_
    refine pq_ld 7 rfl rfl rfl ?_
    refine pq_bop rfl rfl ?_
    rw [show (Int8.ofInt 8).toInt32 * nI i = nI (8 * i) from pk_mul 8 i]
    refine pq_bop rfl rfl ?_
    rw [show (Int8.ofInt 30).toInt32 + nI (8 * i) = nI (30 + 8 * i) from nI_add 30 _]
    refine pq_ld 1 rfl rfl rfl ?_
    refine pq_bop rfl rfl ?_
    rw [show nI (30 + 8 * i) + nI t = nI (30 + 8 * i + t) from nI_add _ _]
    refine pq_cls rfl rfl rfl rfl (Nat.le_of_ble_eq_true rfl) (Or.inl rfl) (lc_cell hk (d + 39) _ (j := (30 + 8 * i + t)) (by omega)) ?_
    refine pq_cst rfl rfl ?_
    refine pq_bop rfl rfl ?_
    rw [show ((cel kp (30 + 8 * i + t)).toUInt32 >>> (((Int8.ofInt 9).toInt32).toUInt32 &&& Int32.toUInt32 31)).toInt32 = nI M2 from hM2]
    refine pq_ld 3 rfl rfl rfl ?_
    refine pq_get rfl (bH_of h.1).1 rfl ?_
    refine pq_cst rfl rfl ?_
    refine pq_ial rfl (bH_of h.1).2.1 (qm_in_ok rfl) ?_
    rw [show m.1 113 (Int32.ofInt 1).toNatClampNeg = nI r1 from hh.1.2]
    refine pq_dop rfl rfl (nI_ne0 hr1.1 (by omega)) ?_
    rw [rem_e lM2 hr1.1 (by omega)]
    refine pq_sto rfl rfl rfl ?_
    refine pq_ld 4 rfl rfl rfl ?_
    refine pq_get rfl (bH_of h.1).1 rfl ?_
    refine pq_ld 1 rfl rfl rfl ?_
    refine pq_aal rfl hf.1 (by decide) (jb_vin (show M1 % r0 < 6 by omega) (by omega)) (by rw [nI_clamp (by omega)]; exact hf.2.1 _ (by omega)) ?_
    refine pq_ld 0 rfl rfl rfl ?_
    refine pq_cst rfl rfl ?_
    refine pq_zas rfl z1 (jb_vin (show M2 % r1 < 6 by omega) (by omega)) ?_
    rw [nI_clamp (show M2 % r1 < 2 ^ 31 by omega), show vp_nar .boolean (Int32.ofInt 1) = 1 from rfl]
    refine pq_ld 3 rfl rfl rfl ?_
    refine pq_ldc rfl rfl rfl ?_
    refine pq_clv rfl (Or.inl ⟨rfl, rfl⟩) rfl (Nat.le_of_ble_eq_true rfl) w1.2.1.1 (by decide +kernel) (Or.inl rfl) x2 ?_
    refine pq_ld 1 rfl rfl rfl ?_
    refine pq_clv rfl (Or.inl ⟨rfl, rfl⟩) rfl (Nat.le_of_ble_eq_true rfl) w2.2.1.1 (by decide +kernel) (Or.inl rfl) x3 ?_
    refine pq_cst rfl rfl ?_
    refine pq_clv rfl (Or.inl ⟨rfl, rfl⟩) rfl (Nat.le_of_ble_eq_true rfl) w3.2.1.1 (by decide +kernel) (Or.inl rfl) x4 ?_
    refine pq_ld 0 rfl rfl rfl ?_
    refine pq_clv rfl (Or.inl ⟨rfl, rfl⟩) rfl (Nat.le_of_ble_eq_true rfl) w4.2.1.1 (by decide +kernel) (Or.inl rfl) x5 ?_
    refine pq_cst rfl rfl ?_
    refine pq_clv rfl (Or.inl ⟨rfl, rfl⟩) rfl (Nat.le_of_ble_eq_true rfl) w5.2.1.1 (by decide +kernel) (Or.inl rfl) x6 ?_
    refine pq_sop rfl rfl ?_
    refine pq_inc 2 rfl rfl rfl ?_
    rw [show nI t + Int32.ofInt 1 = nI (t + 1) from nI_1 t]
    refine pq_goto rfl ?_
    refine pq_sub (nx := 0) (a := 0) (b := 0) [0, 3, 4, 5, 6, 7, 8, 9, 10, 11, 12] rfl ?_
    exact lw_heads hk hi hN hcs hr0 hr1 cont e (t + 1) _ (l ++ [(M1 % r0, M2 % r1)]) f6 H6 (by omega) w6 (by rw [List.length_append, hl]; rfl) (fun q hq' => (List.mem_append.mp hq').elim (hq q) (fun z => by rw [List.mem_singleton.mp z]; exact ⟨x0, y0⟩)) (hm_s hh (by omega) (by omega)) ⟨by rw [l6.1, l5.1, l4.1, l3.1, l2.1, l1.1, hL.1], by rw [l6.2, l5.2, l4.2, l3.2, l2.2, l1.2, hL.2]⟩
