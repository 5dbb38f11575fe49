/-! cells of a move; sums over cells that show heads; total -/
theorem le_Ps_bitsOf_5  (n : Nat) (v0 : Int32) (v1 : Int32) (v2 : Int64) (v4 : Int32) (m : qm_M) : L_Ps_bitsOf_5 (n + 1) v0 v1 v2 v4 m = X_Ps_bitsOf_5 (L_Ps_bitsOf_5 n) v0 v1 v2 v4 m := rfl
theorem le_Pl_boardWorth_4  (n : Nat) (v2 : Int32) (v3 : Int32) (m : qm_M) : L_Pl_boardWorth_4 (n + 1) v2 v3 m = X_Pl_boardWorth_4 F_Ps_headsOfRow F_Pl_effectOf (L_Pl_boardWorth_4 n) v2 v3 m := rfl
theorem xs_add (n : Nat) (f : Nat → nb_F) : ∀ k, xs (n + k) f = xs n f ^^^ xs k (fun i => f (n + i))
  | 0 => (nb_x0 _).symm
  | k + 1 => by rw [← Nat.add_assoc, xs_s, xs_add n f k, xs_s, BitVec.xor_assoc]
theorem xs_mul (a : nb_F) (f : Nat → nb_F) : ∀ n, nb_mul a (xs n f) = xs n (fun i => nb_mul a (f i))
  | 0 => nb_mul_0 a
  | n + 1 => by rw [xs_s, nb_mul_add, xs_mul a f n, xs_s]
theorem bN_sw (w : Nat → Nat) (S : Nat) : ∀ n, bN (sw w n S) = xs n (fun c => if S.testBit c = true then bN (w c) else 0)
  | 0 => rfl
  | n + 1 => by
    rw [sw_s, bN_x, bN_sw w S n, xs_s]
    refine nb_xc rfl ?_
    by_cases q : S.testBit n = true
    · rw [if_pos q, if_pos q]
    · rw [if_neg q, if_neg q]
      rfl
theorem ef_sumC (K L : Nat → Nat) (R S : Nat) : ef K L R S = xs 6 (fun c => if S.testBit c = true then ef K L R (2 ^ c) else 0) := by
  unfold ef
  rw [bN_sw _ S, xs_mul]
  refine xs_c (fun c hc => ?_)
  by_cases q : S.testBit c = true
  · rw [if_pos q, if_pos q, sw_p2, if_pos hc]
  · rw [if_neg q, if_neg q, nb_mul_0]
theorem ef_sumR (K L : Nat → Nat) (R S : Nat) : ef K L R S = xs 6 (fun r => if R.testBit r = true then ef K L (2 ^ r) S else 0) := by
  unfold ef
  rw [bN_sw _ R, nb_comm, xs_mul]
  refine xs_c (fun c hc => ?_)
  by_cases q : R.testBit c = true
  · rw [if_pos q, if_pos q, sw_p2, if_pos hc, nb_comm]
  · rw [if_neg q, if_neg q, nb_mul_0]
/-- the sum of f over the bits of x -/
def hs (f : Nat → nb_F) (x : nb_F) (n : Nat) : nb_F := xs n (fun i => if x.getLsbD i = true then f i else 0)
theorem hs_x (f : Nat → nb_F) (x y : nb_F) (n : Nat) : hs f (x ^^^ y) n = hs f x n ^^^ hs f y n := by
  unfold hs
  induction n with
  | zero => exact (nb_x0 0).symm
  | succ n ih =>
    rw [xs_s, xs_s, xs_s, ih, BitVec.getLsbD_xor]
    have e : ∀ a b c d : nb_F, a ^^^ b ^^^ (c ^^^ d) = a ^^^ c ^^^ (b ^^^ d) := fun a b c d => by
      rw [BitVec.xor_assoc, ← BitVec.xor_assoc b c d, BitVec.xor_comm b c, BitVec.xor_assoc c b d, ← BitVec.xor_assoc]
    rw [e]
    refine nb_xc rfl ?_
    cases x.getLsbD n <;> cases y.getLsbD n
    · exact (nb_x0 _).symm
    · exact (nb_0x _).symm
    · exact (nb_x0 _).symm
    · exact (nb_xx _).symm
noncomputable def cf (K L : Nat → Nat) (i : Nat) : nb_F := ef K L (2 ^ (i / 6)) (2 ^ (i % 6))
theorem hs_66 (f : Nat → nb_F) (x : nb_F) : hs f x 36 = xs 6 (fun r => xs 6 (fun c => if x.getLsbD (6 * r + c) = true then f (6 * r + c) else 0)) := by
  have key : ∀ n, hs f x (6 * n) = xs n (fun r => xs 6 (fun c => if x.getLsbD (6 * r + c) = true then f (6 * r + c) else 0)) := fun n => by
    induction n with
    | zero => rfl
    | succ n ih =>
      rw [xs_s, ← ih, show 6 * (n + 1) = 6 * n + 6 by omega]
      unfold hs
      rw [xs_add]
  exact key 6
/-- what the rows tell -/
theorem hs_rows (K L : Nat → Nat) (x : nb_F) : hs (cf K L) x 36 = xs 6 (fun r => ef K L (2 ^ r) (sRow x r)) := by
  rw [hs_66]
  refine xs_c (fun r hr => ?_)
  rw [ef_sumC]
  refine xs_c (fun c hc => ?_)
  have e1 : (sRow x r).testBit c = x.getLsbD (6 * r + c) := by
    rw [sRow_bit]
    simp [hc]
  unfold cf
  rw [e1, show (6 * r + c) / 6 = r by omega, show (6 * r + c) % 6 = c by omega]
/-- the cells of a move -/
def sC (R S : Nat) : Nat → nb_F
  | 0 => 0
  | n + 1 => if R.testBit n = true then sC R S n ||| (bN S <<< (6 * n)) else sC R S n
theorem sC_s (R S n : Nat) : sC R S (n + 1) = if R.testBit n = true then sC R S n ||| (bN S <<< (6 * n)) else sC R S n := rfl
theorem bN_bit (S j : Nat) (hj : j < 64) : (bN S).getLsbD j = S.testBit j := by
  unfold bN
  rw [BitVec.getLsbD_ofNat]
  simp [hj]
theorem sC_bit {R S : Nat} (hS : S < 64) {j : Nat} (hj : j < 64) : ∀ n, n ≤ 6 → (sC R S n).getLsbD j = (decide (j / 6 < n) && R.testBit (j / 6) && S.testBit (j % 6))
  | 0, _ => by
    show (0 : nb_F).getLsbD j = _
    rw [decide_eq_false (Nat.not_lt_zero _)]
    exact BitVec.getLsbD_zero
  | n + 1, hn => by
    have ih := sC_bit (R := R) hS hj n (by omega)
    have hS6 : ∀ k, 6 ≤ k → S.testBit k = false := fun k hk => Nat.testBit_lt_two_pow (Nat.lt_of_lt_of_le hS (show 2 ^ 6 ≤ 2 ^ k from Nat.pow_le_pow_right (by omega) hk))
    rw [sC_s]
    by_cases q : R.testBit n = true
    · rw [if_pos q, BitVec.getLsbD_or, ih, BitVec.getLsbD_shiftLeft, decide_eq_true hj, Bool.true_and]
      by_cases z1 : j < 6 * n
      · rw [decide_eq_true z1, decide_eq_true (show j / 6 < n by omega), decide_eq_true (show j / 6 < n + 1 by omega)]
        simp
      · rw [decide_eq_false z1, decide_eq_false (show ¬ j / 6 < n by omega), bN_bit S _ (by omega)]
        by_cases z2 : j / 6 = n
        · rw [decide_eq_true (show j / 6 < n + 1 by omega), z2, q, show j - 6 * n = j % 6 by omega]
          simp
        · rw [decide_eq_false (show ¬ j / 6 < n + 1 by omega), hS6 (j - 6 * n) (by omega)]
          simp
    · rw [if_neg q, ih]
      by_cases z1 : j / 6 < n
      · rw [decide_eq_true z1, decide_eq_true (show j / 6 < n + 1 by omega)]
      · rw [decide_eq_false z1]
        by_cases z2 : j / 6 = n
        · have q2 : R.testBit n = false := by simpa using q
          rw [z2, q2]
          simp
        · rw [decide_eq_false (show ¬ j / 6 < n + 1 by omega)]
theorem sC_bit6 {R S : Nat} (hS : S < 64) {r c : Nat} (hr : r < 6) (hc : c < 6) : (sC R S 6).getLsbD (6 * r + c) = (R.testBit r && S.testBit c) := by
  rw [sC_bit hS (by omega) 6 (by omega), show (6 * r + c) / 6 = r by omega, show (6 * r + c) % 6 = c by omega, decide_eq_true hr, Bool.true_and]
theorem hs_move (K L : Nat → Nat) {R S : Nat} (hS : S < 64) : hs (cf K L) (sC R S 6) 36 = ef K L R S := by
  rw [hs_66, ef_sumR]
  refine xs_c (fun r hr => ?_)
  by_cases q : R.testBit r = true
  · rw [if_pos q, ef_sumC]
    refine xs_c (fun c hc => ?_)
    rw [sC_bit6 hS hr hc, q, Bool.true_and]
    unfold cf
    rw [show (6 * r + c) / 6 = r by omega, show (6 * r + c) % 6 = c by omega]
  · rw [if_neg q]
    refine xs_z (fun c hc => ?_)
    rw [sC_bit6 hS hr hc]
    have q2 : R.testBit r = false := by simpa using q
    rw [q2, Bool.false_and, if_neg (by decide)]
theorem shl6 {S k : Nat} (hS : S < 64) (hk : k < 6) : qo_lshl (nI S).toInt64 (nI (6 * k)) = bn (bN S <<< (6 * k)) := by
  rw [nI_l (by omega)]
  exact nb_inj (no_lshl _ (by omega))
theorem nu_bitsOf {R S : Nat} (hR : R < 64) (hS : S < 64) (m : qm_M) : F_Ps_bitsOf (nI R) (nI S) m = some (some (.long (bn (sC R S 6))), m) := by
  obtain ⟨m1, h1, e⟩ := lpU (fun f k (m1 : qm_M) => L_Ps_bitsOf_5 f (nI R) (nI S) (bn (sC R S k)) (nI k) m1) 6 (fun k m1 => m1 = m) (fun m1 => some (some (.long (bn (sC R S 6))), m1)) (fun f k m1 hk hI => by
      subst hI
      have e6 : nI k < (6 : Int32) := nI_lt (b := 6) hk (by omega)
      have b6 : (6 : Int32) * nI k = nI (6 * k) := pk_mul 6 k
      have hb := (nI_bit1 (a := R) (k := k) (by omega) (by omega)).2
      refine ⟨m1, rfl, ?_⟩
      show L_Ps_bitsOf_5 (f + 1) (nI R) (nI S) (bn (sC R S k)) (nI k) m1 = _
      rw [le_Ps_bitsOf_5]
      unfold X_Ps_bitsOf_5
      rw [if_pos e6, b6, shl6 hS hk, sC_s, nI_1]
      cases q : R.testBit k with
      | true =>
        rw [if_neg (fun z => by rw [hb.mp z] at q; cases q), if_pos rfl]
        rfl
      | false => rw [if_pos (hb.mpr q), if_neg (by decide)]) (fun f m1 _ => by
      have e6 : ¬ nI 6 < (6 : Int32) := by decide
      show L_Ps_bitsOf_5 (f + 1) (nI R) (nI S) (bn (sC R S 6)) (nI 6) m1 = _
      rw [le_Ps_bitsOf_5]
      unfold X_Ps_bitsOf_5
      rw [if_neg e6]) 1000000 0 m (Nat.zero_le _) (by omega) rfl
  rw [h1] at e
  exact e
/-- the board's worth -/
noncomputable def tW (s : sT) : nb_F := hs (cf (bK s.1) (bL s.1)) (nb (s.1 6)) 36
theorem px_ok.heads {P : sP} (h : px_ok P) : ∀ i, (nb (P 6)).getLsbD i = true → i / 6 < bR P ∧ i % 6 < bC P := by
  obtain ⟨r, c, k1, k2, l1, l2, g1, g2, ⟨a1, a2, a3, a4, -⟩, ⟨b0, b1, -⟩, hh⟩ := h
  intro i hi
  unfold bR bC
  rw [b0, b1, nb_lNt (by omega), nb_lNt (by omega)]
  exact hh i hi
theorem nu_boardWorth {m : qm_M} {s : sT} (h : cs m s) (g : px_ok s.1) (hT : efM m (bK s.1) (bL s.1)) : F_Pl_boardWorth m = some (some (.int (iB (tW s))), m) := by
  obtain ⟨-, ⟨r1, r2, r3⟩, -⟩ := g.prl
  have hR := cs_i h (k := 0) (by omega) r1
  obtain ⟨m1, h1, e⟩ := lpU (fun f r (m1 : qm_M) => L_Pl_boardWorth_4 f (iB (xs r (fun r => ef (bK s.1) (bL s.1) (2 ^ r) (sRow (nb (s.1 6)) r)))) (nI r) m1) (bR s.1) (fun k m1 => m1 = m) (fun m1 => some (some (.int (iB (tW s))), m1)) (fun f r m1 hr hI => by
      subst hI
      refine ⟨m1, rfl, ?_⟩
      show L_Pl_boardWorth_4 (f + 1) _ (nI r) m1 = _
      have h64 : sRow (nb (s.1 6)) r < 64 := Nat.mod_lt _ (by decide)
      have p64 := (p2_6 (show r < 6 by omega)).2.2
      rw [le_Pl_boardWorth_4]
      unfold X_Pl_boardWorth_4
      rw [hR, if_pos (nI_lt hr (by omega)), nu_headsOfRow h (by omega), qe_rI_e, no_ishl1 (by omega), nu_effectOf p64 h64 (hT _ _ p64 h64), qe_rI_e, iB_x, nI_1]
      rfl) (fun f m1 hI => by
      subst hI
      show L_Pl_boardWorth_4 (f + 1) _ (nI (bR s.1)) m1 = _
      rw [le_Pl_boardWorth_4]
      unfold X_Pl_boardWorth_4
      rw [hR, if_neg (nI_nlt (Nat.le_refl _) (by omega))]
      unfold tW
      have e6 := xs_add (bR s.1) (fun r => ef (bK s.1) (bL s.1) (2 ^ r) (sRow (nb (s.1 6)) r)) (6 - bR s.1)
      rw [show bR s.1 + (6 - bR s.1) = 6 by omega, xs_z (n := 6 - bR s.1) (fun i _ => by rw [sRow_z g.heads (by omega), ef_0c]), nb_x0] at e6
      rw [hs_rows, e6]) 1000000 0 m (Nat.zero_le _) (by omega) rfl
  rw [h1] at e
  exact e
def lcf (m m1 : qm_M) : Prop := (∀ a, a ≠ 133 → a ≠ 134 → a ≠ 135 → a ≠ 136 → m1.1 a = m.1 a) ∧ m1.2 = m.2
theorem lcf.rf (m : qm_M) : lcf m m := ⟨fun _ _ _ _ _ => rfl, rfl⟩
theorem lcf.tr {m m1 m2 : qm_M} (h : lcf m m1) (g : lcf m1 m2) : lcf m m2 := ⟨fun a x y z w => (g.1 a x y z w).trans (h.1 a x y z w), g.2.trans h.2⟩
theorem lcf.now {m m1 : qm_M} {P : sP} (g : lcf m m1) (h : ms_now m P) : ms_now m1 P := fun i hi => by rw [g.2]; exact h i hi
theorem lcf.ms {m m1 : qm_M} {s : sT} (g : lcf m m1) (h : ms m s) : ms m1 s := h.fr (by rw [g.1 112 (by decide) (by decide) (by decide) (by decide)]) (by rw [g.1 112 (by decide) (by decide) (by decide) (by decide)]) (g.1 116 (by decide) (by decide) (by decide) (by decide)) (g.1 129 (by decide) (by decide) (by decide) (by decide)) (fun a _ _ => by rw [g.2])
theorem lcf.lo {m m1 : qm_M} (g : lcf m m1) : lo_fr m m1 := ⟨fun a h => g.1 a (by omega) (by omega) (by omega) (by omega), fun a _ => by rw [g.2]⟩
theorem lwf.lcf {m m1 : qm_M} (g : lwf m m1) : lcf m m1 := ⟨fun a x y _ _ => g.1 a x y, g.2⟩
def clM (m : qm_M) (K L : Nat → Nat) : Prop := ∀ i, i < 36 → m.1 136 i = iB (cf K L i)
