/-! same: the law's board and the class's say the same -/
theorem le_L_same_10  (n : Nat) (v2 : Int32) (v3 : Int32) (v4 : Int32) (v5 : Int32) (m : qm_M) : L_L_same_10 (n + 1) v2 v3 v4 v5 m = X_L_same_10 F_T_count F_B_shown F_T_sets F_T_cell F_B_may (L_L_same_81 (L_L_same_10 n) 1000000) (L_L_same_179 1000000) v2 v3 v4 v5 m := rfl
theorem le_L_same_81 (K10 : Int32 → Int32 → Int32 → Int32 → qm_M → Option qm_R) (n : Nat) (v2 : Int32) (v3 : Int32) (v4 : Int32) (v5 : Int32) (v6 : Int32) (m : qm_M) : L_L_same_81 K10 (n + 1) v2 v3 v4 v5 v6 m = X_L_same_81 F_T_count F_B_shown F_T_sets F_T_cell F_B_may K10 (L_L_same_101 K10 (L_L_same_81 K10 n) 1000000) v2 v3 v4 v5 v6 m := rfl
theorem le_L_same_101 (K10 : Int32 → Int32 → Int32 → Int32 → qm_M → Option qm_R) (K81 : Int32 → Int32 → Int32 → Int32 → Int32 → qm_M → Option qm_R) (n : Nat) (v3 : Int32) (v4 : Int32) (v5 : Int32) (v6 : Int32) (v7 : Int32) (v8 : Int32) (m : qm_M) : L_L_same_101 K10 K81 (n + 1) v3 v4 v5 v6 v7 v8 m = X_L_same_101 F_T_count F_B_shown F_T_sets F_T_cell F_B_may (L_L_same_101 K10 K81 n) (L_L_same_155 K10 K81) v3 v4 v5 v6 v7 v8 m := rfl
theorem le_L_same_179  (n : Nat) (v2 : Int32) (v3 : Int32) (v4 : Int32) (v5 : Int32) (m : qm_M) : L_L_same_179 (n + 1) v2 v3 v4 v5 m = X_L_same_179 F_T_count F_B_shown F_T_sets F_T_cell F_B_may (L_L_same_193 (L_L_same_179 n) 1000000) (L_L_same_328) v2 v3 v4 v5 m := rfl
theorem le_L_same_193 (K179 : Int32 → Int32 → Int32 → Int32 → qm_M → Option qm_R) (n : Nat) (v2 : Int32) (v3 : Int32) (v4 : Int32) (v5 : Int32) (v6 : Int32) (m : qm_M) : L_L_same_193 K179 (n + 1) v2 v3 v4 v5 v6 m = X_L_same_193 F_T_count F_B_shown F_T_sets F_T_cell F_B_may K179 (L_L_same_235 K179 (L_L_same_193 K179 n)) (L_L_same_265 K179 (L_L_same_193 K179 n)) v2 v3 v4 v5 v6 m := rfl
/-- what stands through a call that only reckons -/
def gk (s : sT) (m m1 : qm_M) : Prop := CI m1 s ∧ bd m1 s ∧ ou 48 59 m m1
theorem gk.rf {m : qm_M} {s : sT} (h : CI m s) (hb : bd m s) : gk s m m := ⟨h, hb, ou.rf _ _ _⟩
theorem gk.of {m m1 : qm_M} {s : sT} (h : CI m s) (hb : bd m s) (g : cvPl m1) (o : ou 48 59 m m1) : gk s m m1 := ⟨h.ou g o, hb.ou o, o⟩
theorem gk.tr {m m1 m2 : qm_M} {s : sT} (h : gk s m m1) (g : gk s m1 m2) : gk s m m2 := ⟨g.1, g.2.1, h.2.2.tr g.2.2⟩
theorem sm_step : (List.range 12).all (fun n => decide (nI n + ((1 : Int32) + (nI n / (4 : Int32))) = nI (n + 1 + n / 4))) = true := by decide +kernel
theorem sm_101 {m : qm_M} {s : sT} (h : CI m s) (hb : bd m s) {j n : Nat} (hj : j < 2) (hn : n < 12) (K10 : Int32 → Int32 → Int32 → Int32 → qm_M → Option qm_R) (K81 : Int32 → Int32 → Int32 → Int32 → Int32 → qm_M → Option qm_R) (v3 v4 : Int32) :
    ∃ m1, gk s m m1 ∧ L_L_same_101 K10 K81 1000000 v3 v4 (nI j) (nI n) 0 (nI (2 ^ n)) m = K81 1 v3 v4 (nI j) (nI (n + 1 + n / 4)) m1 := by
  have g := h.2.2
  have p12 : 2 ^ n ≤ 2048 := Nat.le_trans (Nat.pow_le_pow_right (by omega) (show n ≤ 11 by omega)) (by decide)
  have hsh : qo_ishl (2 : Int32) (nI n) = nI (2 * 2 ^ n) := nI_shl (n := 2) (by omega)
  obtain ⟨m1, h1, e⟩ := lpU (fun f k (m1 : qm_M) => L_L_same_101 K10 K81 f v3 v4 (nI j) (nI n) (nI (osT (bK s.1 j) (bL s.1 j) n k).length) (nI (2 ^ n + k)) m1) (2 ^ n) (fun k m1 => m1 = m) (fun m1 => qe_rI (F_T_sets (nI j) (nI n) m1) fun x2 m2 => if x2 = nI (osT (bK s.1 j) (bL s.1 j) n (2 ^ n)).length then L_L_same_155 K10 K81 v3 v4 (nI j) (nI n) 1 m2 else L_L_same_155 K10 K81 v3 v4 (nI j) (nI n) 0 m2) (fun f k m1 hk hI => by
      subst hI
      refine ⟨m1, rfl, ?_⟩
      show L_L_same_101 K10 K81 (f + 1) v3 v4 (nI j) (nI n) _ (nI (2 ^ n + k)) m1 = L_L_same_101 K10 K81 f v3 v4 (nI j) (nI n) (nI (osT (bK s.1 j) (bL s.1 j) n (k + 1)).length) (nI (2 ^ n + k + 1)) m1
      rw [le_L_same_101]
      unfold X_L_same_101
      rw [hsh, if_pos (nI_lt (by omega) (by omega)), nu_may hb g.1 hj (by omega) (by omega), qe_rI_e, nI_1]
      by_cases q : al (bK s.1 j) (bL s.1 j) (2 ^ n + k) = true
      · rw [if_pos q, if_neg n10, osT_t q, nI_1, List.length_append]
        rfl
      · rw [if_neg q, if_pos rfl, osT_f q]
        have e0 : nI (osT (bK s.1 j) (bL s.1 j) n k).length + (0 : Int32) = nI (osT (bK s.1 j) (bL s.1 j) n k).length := nI_add _ 0
        rw [e0]) (fun f m1 hI => by
      show L_L_same_101 K10 K81 (f + 1) v3 v4 (nI j) (nI n) _ (nI (2 ^ n + 2 ^ n)) m1 = _
      rw [le_L_same_101]
      unfold X_L_same_101
      rw [hsh, if_neg (nI_nlt (by omega) (by omega))]) 1000000 0 m (Nat.zero_le _) (by omega) rfl
  rw [h1] at e
  obtain ⟨m2, s1, s2, s3⟩ := tc_sets h hj hn
  have eo : (osT (bK s.1 j) (bL s.1 j) n (2 ^ n)).length = (os (bK s.1 j) (bL s.1 j) n).length := rfl
  refine ⟨m2, gk.of h hb s2 s3, ?_⟩
  refine (show L_L_same_101 K10 K81 1000000 v3 v4 (nI j) (nI n) 0 (nI (2 ^ n)) m = _ from e).trans ?_
  rw [s1, qe_rI_e, eo, if_pos rfl]
  unfold L_L_same_155 X_L_same_155
  have st := of_decide_eq_true (List.all_eq_true.mp sm_step n (List.mem_range.mpr hn))
  rw [st]
  rfl
theorem sm_81 {s : sT} {j : Nat} (hj : j < 2) (K10 : Int32 → Int32 → Int32 → Int32 → qm_M → Option qm_R) (v3 v4 : Int32) : ∀ (f n : Nat) (m : qm_M), CI m s → bd m s → 14 < f + n → n ≤ 14 → ∃ m1, gk s m m1 ∧ L_L_same_81 K10 f 1 v3 v4 (nI j) (nI n) m = K10 1 v3 v4 (nI (j + 1)) m1
  | 0, n, m, h, hb, h1, h2 => by omega
  | f + 1, n, m, h, hb, h1, h2 => by
    rw [le_L_same_81]
    unfold X_L_same_81
    by_cases q : n < 12
    · rw [if_pos (show nI n < (12 : Int32) from nI_lt (b := 12) q (by omega)), if_neg n10]
      have hsh : qo_ishl (1 : Int32) (nI n) = nI (2 ^ n) := no_ishl1 (by omega)
      rw [hsh]
      obtain ⟨m1, g1, e1⟩ := sm_101 h hb hj q K10 (L_L_same_81 K10 f) v3 v4
      obtain ⟨m2, g2, e2⟩ := sm_81 hj K10 v3 v4 f (n + 1 + n / 4) m1 g1.1 g1.2.1 (by omega) (by omega)
      exact ⟨m2, g1.tr g2, e1.trans e2⟩
    · rw [if_neg (show ¬ nI n < (12 : Int32) from nI_nlt (b := 12) (by omega) (by omega)), nI_1]
      exact ⟨m, gk.rf h hb, rfl⟩
/-! heads of rows and columns -/
def aC (x : nb_F) (r : Nat) : Nat → Nat
  | 0 => sCols x r
  | c + 1 => if x.getLsbD (6 * r + c) = true then aC x r c ||| 2 ^ c else aC x r c
def aR (x : nb_F) (r : Nat) : Nat → Nat
  | 0 => sRows x r
  | c + 1 => if x.getLsbD (6 * r + c) = true then aR x r c ||| 2 ^ r else aR x r c
theorem two_bit (k i : Nat) : (2 ^ k).testBit i = decide (k = i) := Nat.testBit_two_pow
theorem aC_bit (x : nb_F) (r i : Nat) : ∀ c, (aC x r c).testBit i = ((sCols x r).testBit i || (decide (i < c) && x.getLsbD (6 * r + i)))
  | 0 => by
    show (sCols x r).testBit i = _
    simp
  | c + 1 => by
    have ih := aC_bit x r i c
    show (if x.getLsbD (6 * r + c) = true then aC x r c ||| 2 ^ c else aC x r c).testBit i = _
    cases q : x.getLsbD (6 * r + c) with
    | true =>
      rw [if_pos rfl, Nat.testBit_or, ih, two_bit]
      by_cases z : i = c
      · subst z
        rw [q]
        simp
      · have e1 : decide (c = i) = false := decide_eq_false (fun w => z w.symm)
        have e2 : decide (i < c + 1) = decide (i < c) := by
          rw [decide_eq_decide]; omega
        rw [e1, e2, Bool.or_false]
    | false =>
      rw [if_neg (by decide), ih]
      by_cases z : i = c
      · subst z
        rw [q]
        simp
      · have e2 : decide (i < c + 1) = decide (i < c) := by
          rw [decide_eq_decide]; omega
        rw [e2]
theorem aC_6 (x : nb_F) (r : Nat) : aC x r 6 = sCols x (r + 1) := by
  apply Nat.eq_of_testBit_eq
  intro i
  rw [aC_bit]
  show _ = (sCols x r ||| sRow x r).testBit i
  rw [Nat.testBit_or, sRow_bit]
theorem aR_eq (x : nb_F) (r : Nat) : ∀ c, aR x r c = if (List.range c).any (fun c => x.getLsbD (6 * r + c)) = true then sRows x r ||| 2 ^ r else sRows x r
  | 0 => rfl
  | c + 1 => by
    have ih := aR_eq x r c
    show (if x.getLsbD (6 * r + c) = true then aR x r c ||| 2 ^ r else aR x r c) = _
    rw [ih, List.range_succ, List.any_append]
    simp only [List.any_cons, List.any_nil, Bool.or_false]
    cases x.getLsbD (6 * r + c) <;> cases (List.range c).any (fun c => x.getLsbD (6 * r + c)) <;> simp [Nat.or_assoc]
theorem aR_6 (x : nb_F) (r : Nat) : aR x r 6 = sRows x (r + 1) := by
  rw [aR_eq]
  have h := sRow_any x r
  have e : (List.range 6).any (fun c => x.getLsbD (6 * r + c)) = (List.range 6).any (fun c => (sRow x r).testBit c) := by
    rw [Bool.eq_iff_iff, List.any_eq_true, List.any_eq_true]
    constructor
    · rintro ⟨c, hc, z⟩
      exact ⟨c, hc, by rw [sRow_bit, decide_eq_true (List.mem_range.mp hc), Bool.true_and]; exact z⟩
    · rintro ⟨c, hc, z⟩
      rw [sRow_bit, decide_eq_true (List.mem_range.mp hc), Bool.true_and] at z
      exact ⟨c, hc, z⟩
  rw [e, h]
  show _ = if sRow x r = 0 then sRows x r else sRows x r + 2 ^ r
  by_cases q : sRow x r = 0
  · rw [if_pos q, decide_eq_true q, if_neg (by decide)]
  · rw [if_neg q, decide_eq_false q, if_pos (show (!false) = true from rfl)]
    have hl := sRows_lt x r
    have e := Nat.two_pow_add_eq_or_of_lt hl 1
    rw [Nat.mul_one] at e
    rw [Nat.or_comm, ← e, Nat.add_comm]
theorem aC_lt {x : nb_F} {r c : Nat} (hc : c ≤ 6) : aC x r c < 64 := by
  refine Nat.lt_pow_two_of_testBit (n := 6) _ (fun i hi => ?_)
  rw [aC_bit, Nat.testBit_lt_two_pow (Nat.lt_of_lt_of_le (sCols_lt x r) (Nat.pow_le_pow_right (n := 2) (by omega) hi)), decide_eq_false (by omega)]
  rfl
theorem aR_lt {x : nb_F} {r c : Nat} (hr : r < 6) : aR x r c < 64 := by
  have h1 : sRows x r < 2 ^ 6 := Nat.lt_of_lt_of_le (sRows_lt x r) (Nat.pow_le_pow_right (by omega) (by omega))
  have h2 : 2 ^ r < 2 ^ 6 := Nat.pow_lt_pow_right (by omega) hr
  rw [aR_eq]
  split
  · exact Nat.or_lt_two_pow h1 h2
  · exact h1
theorem sm_193 {m : qm_M} {s : sT} (h : CI m s) (hb : bd m s) {r : Nat} (hr : r < 6) (K179 : Int32 → Int32 → Int32 → Int32 → qm_M → Option qm_R) : L_L_same_193 K179 1000000 1 (nI (sRows (nb (s.1 6)) r)) (nI (sCols (nb (s.1 6)) r)) (nI r) 0 m = K179 1 (nI (sRows (nb (s.1 6)) (r + 1))) (nI (sCols (nb (s.1 6)) (r + 1))) (nI (r + 1)) m := by
  obtain ⟨hp, ⟨r1, r2, r3⟩, ⟨c1, c2, c3⟩⟩ := h.2.2.1.prl
  obtain ⟨f1, f2, f3, -⟩ := bb_f hr
  obtain ⟨m1, h1, e⟩ := lpU (fun f k (m1 : qm_M) => L_L_same_193 K179 f 1 (nI (aR (nb (s.1 6)) r k)) (nI (aC (nb (s.1 6)) r k)) (nI r) (nI k) m1) 6 (fun k m1 => m1 = m) (fun m1 => K179 1 (nI (aR (nb (s.1 6)) r 6)) (nI (aC (nb (s.1 6)) r 6)) (nI (r + 1)) m1) (fun f k m1 hk hI => by
      subst hI
      refine ⟨m1, rfl, ?_⟩
      have hR := aR_lt (x := nb (s.1 6)) (c := k) hr
      have hC := aC_lt (x := nb (s.1 6)) (r := r) (c := k) (by omega)
      have hg : qm_gI m1 (117 + r) k = if (nb (s.1 6)).getLsbD (6 * r + k) = true then 1 else 0 := by rw [bb_g hr, hb.2.2 r k hr hk]
      have p1 : 2 ^ r ≤ 32 := pow_6 hr
      have p2 : 2 ^ k ≤ 32 := pow_6 hk
      show L_L_same_193 K179 (f + 1) 1 _ _ (nI r) (nI k) m1 = L_L_same_193 K179 f 1 (nI (if (nb (s.1 6)).getLsbD (6 * r + k) = true then aR (nb (s.1 6)) r k ||| 2 ^ r else aR (nb (s.1 6)) r k)) (nI (if (nb (s.1 6)).getLsbD (6 * r + k) = true then aC (nb (s.1 6)) r k ||| 2 ^ k else aC (nb (s.1 6)) r k)) (nI r) (nI (k + 1)) m1
      have fin : L_L_same_265 K179 (L_L_same_193 K179 f) (nI (aR (nb (s.1 6)) r k)) (nI (aC (nb (s.1 6)) r k)) (nI r) (nI k) 1 m1 = L_L_same_193 K179 f 1 (nI (if (nb (s.1 6)).getLsbD (6 * r + k) = true then aR (nb (s.1 6)) r k ||| 2 ^ r else aR (nb (s.1 6)) r k)) (nI (if (nb (s.1 6)).getLsbD (6 * r + k) = true then aC (nb (s.1 6)) r k ||| 2 ^ k else aC (nb (s.1 6)) r k)) (nI r) (nI (k + 1)) m1 := by
        unfold L_L_same_265 X_L_same_265 L_L_same_288 X_L_same_288
        rw [qm_in_nI hr (by omega), qe_b_e, nI_clamp (by omega), f1, f2, qe_b_e, f3, qm_in_nI hk (by omega), qe_b_e, nI_clamp (by omega), hg]
        simp only [qe_b_e]
        cases q : (nb (s.1 6)).getLsbD (6 * r + k) with
        | true =>
          rw [if_pos rfl, if_neg n10, if_neg n10, if_pos rfl, if_pos rfl, no_ishl1 (by omega), no_ishl1 (by omega), nI_or (by omega) (by omega), nI_or (by omega) (by omega), nI_1]
        | false =>
          have z0 : (if false = true then (1 : Int32) else 0) = 0 := rfl
          rw [if_pos z0, if_pos z0, if_neg (by decide), if_neg (by decide)]
          have e1 := nI_or (a := aR (nb (s.1 6)) r k) (b := 0) (by omega) (by omega)
          have e2 := nI_or (a := aC (nb (s.1 6)) r k) (b := 0) (by omega) (by omega)
          rw [Nat.or_zero] at e1 e2
          have e1' : nI (aR (nb (s.1 6)) r k) ||| (0 : Int32) = nI (aR (nb (s.1 6)) r k) := e1
          have e2' : nI (aC (nb (s.1 6)) r k) ||| (0 : Int32) = nI (aC (nb (s.1 6)) r k) := e2
          rw [e1', e2', nI_1]
      rw [le_L_same_193]
      unfold X_L_same_193
      rw [if_pos (show nI k < (6 : Int32) from nI_lt (b := 6) hk (by omega)), if_neg n10, tc_cell2 h hr hk, qe_rI_e, hb.1.1, hb.1.2]
      by_cases q1 : r < bR s.1
      · rw [if_pos (nI_lt q1 (by omega))]
        by_cases q2 : k < bC s.1
        · rw [if_pos (nI_lt q2 (by omega)), qm_in_nI hr (by omega), qe_b_e, nI_clamp (by omega), f1, f2, qe_b_e, f3, qm_in_nI hk (by omega), qe_b_e, nI_clamp (by omega), hg, if_pos (show r < bR s.1 ∧ k < bC s.1 from ⟨q1, q2⟩)]
          by_cases q : (nb (s.1 6)).getLsbD (6 * r + k) = true
          · rw [if_pos q, if_neg n10, if_pos rfl, fin, if_pos q]
          · rw [if_neg q, if_pos rfl, if_pos rfl, fin, if_neg q]
        · rw [if_neg (nI_nlt (by omega) (by omega)), if_neg (show ¬ (r < bR s.1 ∧ k < bC s.1) from fun z => q2 z.2)]
          unfold L_L_same_235 X_L_same_235
          rw [if_pos rfl, fin]
      · rw [if_neg (nI_nlt (by omega) (by omega)), if_neg (show ¬ (r < bR s.1 ∧ k < bC s.1) from fun z => q1 z.1)]
        unfold L_L_same_235 X_L_same_235
        rw [if_pos rfl, fin]) (fun f m1 hI => by
      show L_L_same_193 K179 (f + 1) 1 _ _ (nI r) (nI 6) m1 = _
      rw [le_L_same_193]
      unfold X_L_same_193
      rw [if_neg (by decide), nI_1]) 1000000 0 m (Nat.zero_le _) (by omega) rfl
  rw [h1] at e
  rw [← aR_6, ← aC_6]
  exact e
theorem nu_same {m : qm_M} {s : sT} (h : CI m s) (hb : bd m s) : ∃ m1, F_L_same m = some (some (.int 1), m1) ∧ gk s m m1 := by
  have f179 : ∀ m, CI m s → bd m s → ∃ m1, L_L_same_179 1000000 1 0 0 0 m = some (some (.int 1), m1) ∧ gk s m m1 := fun m h hb => by
    obtain ⟨m1, h1, e⟩ := lpU (fun f k (m1 : qm_M) => L_L_same_179 f 1 (nI (sRows (nb (s.1 6)) k)) (nI (sCols (nb (s.1 6)) k)) (nI k) m1) 6 (fun k m1 => m1 = m) (fun m1 => L_L_same_328 1 (nI (sRows (nb (s.1 6)) 6)) (nI (sCols (nb (s.1 6)) 6)) m1) (fun f k m1 hk hI => by
        subst hI
        refine ⟨m1, rfl, ?_⟩
        show L_L_same_179 (f + 1) 1 _ _ (nI k) m1 = _
        rw [le_L_same_179]
        unfold X_L_same_179
        rw [if_pos (show nI k < (6 : Int32) from nI_lt (b := 6) hk (by omega)), if_neg n10]
        exact sm_193 h hb hk _) (fun f m1 hI => by
        show L_L_same_179 (f + 1) 1 _ _ (nI 6) m1 = _
        rw [le_L_same_179]
        unfold X_L_same_179
        rw [if_neg (by decide)]) 1000000 0 m (Nat.zero_le _) (by omega) rfl
    rw [h1] at e
    obtain ⟨-, c6, -, -, c10, c11, -⟩ := tc_count h
    obtain ⟨m2, s1, s2, s3⟩ := tc_setsW h (j := 0) (by omega) (w := 12) (Or.inr (by decide))
    have s1' : F_T_sets 0 12 m = some (some (.int (-1)), m2) := s1
    refine ⟨m2, ?_, gk.of h hb s2 s3⟩
    refine (show L_L_same_179 1000000 1 0 0 0 m = _ from e).trans ?_
    unfold L_L_same_328 X_L_same_328
    rw [if_neg n10, c6, qe_rI_e, nu_shown hb h.2.2.1, qe_rI_e, if_pos rfl, c10, qe_rI_e, if_pos rfl, c11, qe_rI_e, if_pos rfl, tc_sets2, qe_rI_e, if_pos rfl, s1', qe_rI_e, if_pos rfl]
  have f10 : ∀ (j : Nat) (f : Nat) (m : qm_M), CI m s → bd m s → j < 2 → ∃ m1, gk s m m1 ∧ L_L_same_10 (f + 1) 1 0 0 (nI j) m = L_L_same_10 f 1 0 0 (nI (j + 1)) m1 := fun j f m h hb hj => by
    obtain ⟨cc, -⟩ := tc_count h
    obtain ⟨d1, d2, d3⟩ := cc j hj
    obtain ⟨b1, b2⟩ := hb.2.1 j hj
    have b0 : m.1 113 j = nI (if j = 0 then bR s.1 else bC s.1) := by
      rcases (by omega : j = 0 ∨ j = 1) with rfl | rfl
      · exact hb.1.1
      · exact hb.1.2
    have a2 : (2 : Int32) + nI j = nI (2 + j) := nI_add 2 j
    have a4 : (4 : Int32) + nI j = nI (4 + j) := nI_add 4 j
    obtain ⟨m1, g1, e1⟩ := sm_81 (s := s) hj (L_L_same_10 f) 0 0 1000000 0 m h hb (by omega) (by omega)
    refine ⟨m1, g1, ?_⟩
    rw [le_L_same_10]
    unfold X_L_same_10
    rw [if_pos (show nI j < (2 : Int32) from nI_lt (b := 2) hj (by omega)), if_neg n10, d1, qe_rI_e, qm_in_nI hj (by omega), qe_b_e, nI_clamp (by omega), b0, if_pos rfl, a2, d2, qe_rI_e, qe_b_e, b1, if_pos rfl, a4, d3, qe_rI_e, qe_b_e, b2, if_pos rfl]
    exact e1
  obtain ⟨m1, g1, e1⟩ := f10 0 999999 m h hb (by omega)
  obtain ⟨m2, g2, e2⟩ := f10 1 999998 m1 g1.1 g1.2.1 (by omega)
  obtain ⟨m3, e3, g3⟩ := f179 m2 g2.1 g2.2.1
  refine ⟨m3, ?_, (g1.tr g2).tr g3⟩
  unfold F_L_same X_L_same_e
  refine (show L_L_same_10 (999999 + 1) 1 0 0 (nI 0) m = _ from e1).trans (e2.trans ?_)
  rw [show (999998 : Nat) = 999997 + 1 from rfl, le_L_same_10]
  unfold X_L_same_10
  rw [if_neg (by decide)]
  exact e3
