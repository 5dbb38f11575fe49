/-! boards packed and spread -/
theorem le_Le_packed_5  (n : Nat) (v1 : Int64) (v3 : Int32) (v4 : Int32) (m : qm_M) : L_Le_packed_5 (n + 1) v1 v3 v4 m = X_Le_packed_5 (L_Le_packed_5 n) v1 v3 v4 m := rfl
theorem row_i32 (X : Int64) {r : Nat} (hr : r < 6) : Int64.toInt32 ((qo_lushr X ((6 : Int32) * nI r)) &&& 63) = nI (sRow (nb X) r) := by
  have e6 : (6 : Int32) * nI r = nI (6 * r) := pk_mul 6 r
  rw [e6]
  obtain ⟨n, hn, hx⟩ : ∃ n, n < 2 ^ 64 ∧ X = lN n := ⟨_, (nb X).isLt, lN_ofnb _⟩
  have e63 : lN (n / 2 ^ (6 * r)) &&& 63 = lN (n / 2 ^ (6 * r) % 64) := by
    have e1 : lN (n / 2 ^ (6 * r)) &&& 63 = lN (n / 2 ^ (6 * r) &&& 63) := lN_and _ 63
    have e2 : n / 2 ^ (6 * r) &&& 63 = n / 2 ^ (6 * r) % 64 := Nat.and_two_pow_sub_one_eq_mod _ 6
    rw [e1, e2]
  unfold sRow
  rw [hx, lN_shr hn (by omega), e63, lN_i, nb_lN hn]
theorem mul_p1 (a : Nat) {b : Nat} (h : 0 < b) : a * (b - 1) + a = a * b := by
  obtain ⟨d, rfl⟩ : ∃ d, b = d + 1 := ⟨b - 1, by omega⟩
  rw [Nat.add_sub_cancel, Nat.mul_succ]
theorem mod_s (x j : Nat) : x % 2 ^ (j + 1) = x % 2 ^ j + (if x.testBit j = true then 2 ^ j else 0) := by
  rw [Nat.mod_pow_succ, Nat.testBit_eq_decide_div_mod_eq]
  have h2 : x / 2 ^ j % 2 < 2 := Nat.mod_lt _ (by omega)
  by_cases q : x / 2 ^ j % 2 = 1
  · rw [q, if_pos (decide_eq_true rfl), Nat.mul_one]
  · rw [show x / 2 ^ j % 2 = 0 by omega, if_neg (by decide), Nat.mul_zero]
/-- cells side by side -/
def pkR (c : Nat) (x : nb_F) : Nat → Nat
  | 0 => 0
  | i + 1 => pkR c x i + 2 ^ (c * i) * sRow x i
theorem pkR_s (c : Nat) (x : nb_F) (i : Nat) : pkR c x (i + 1) = pkR c x i + 2 ^ (c * i) * sRow x i := rfl
theorem pkR_lt {c : Nat} {x : nb_F} (hx : ∀ i, sRow x i < 2 ^ c) : ∀ i, pkR c x i < 2 ^ (c * i)
  | 0 => by show 0 < 2 ^ (c * 0); exact Nat.two_pow_pos _
  | i + 1 => by
    have ih := pkR_lt hx i
    rw [pkR_s, Nat.mul_succ, Nat.pow_add]
    have h1 : 2 ^ (c * i) * sRow x i ≤ 2 ^ (c * i) * (2 ^ c - 1) := Nat.mul_le_mul_left _ (by have := hx i; omega)
    have h2 := mul_p1 (2 ^ (c * i)) (Nat.two_pow_pos c)
    omega
theorem pow_12b {n : Nat} (h : n ≤ 12) : 2 ^ n ≤ 4096 := Nat.le_trans (Nat.pow_le_pow_right (by omega) h) (by decide)
theorem nI_or2 {k a b : Nat} (ha : a < 2 ^ k) (h : 2 ^ k * b + a < 2 ^ 31) : nI a ||| nI (2 ^ k * b) = nI (a + 2 ^ k * b) := by
  rw [Int32.or_comm, nI_orP ha h, Nat.add_comm]
theorem nu_packed {m : qm_M} {r c : Nat} (h4 : m.1 60 4 = nI r) (h5 : m.1 60 5 = nI c) (hr : r ≤ 6) (hrc : r * c ≤ 12) (X : Int64) (hx : ∀ i, sRow (nb X) i < 2 ^ c) : F_Le_packed X m = some (some (.int (nI (pkR c (nb X) r))), m) := by
  obtain ⟨m1, h1, e⟩ := lpU (fun f i (m1 : qm_M) => L_Le_packed_5 f X (nI (pkR c (nb X) i)) (nI i) m1) r (fun i m1 => m1 = m) (fun m1 => some (some (.int (nI (pkR c (nb X) r))), m1)) (fun f i m1 hi hI => by
      subst hI
      refine ⟨m1, rfl, ?_⟩
      have hci : c * (i + 1) ≤ 12 := Nat.le_trans (Nat.mul_le_mul_left c hi) (by rw [Nat.mul_comm]; exact hrc)
      rw [Nat.mul_succ] at hci
      have hlt := pkR_lt hx i
      have hlt2 := pkR_lt hx (i + 1)
      have p12 := pow_12b (n := c * (i + 1)) (by rw [Nat.mul_succ]; exact hci)
      show L_Le_packed_5 (f + 1) X (nI (pkR c (nb X) i)) (nI i) m1 = _
      rw [le_Le_packed_5]
      unfold X_Le_packed_5
      rw [h4, if_pos (nI_lt hi (by omega)), row_i32 X (by omega), h5, pk_mul, nI_shl (by omega), Nat.mul_comm (sRow (nb X) i), nI_1]
      dsimp only
      rw [nI_or2 hlt (by rw [pkR_s] at hlt2; omega), pkR_s]) (fun f m1 hI => by
      subst hI
      show L_Le_packed_5 (f + 1) X (nI (pkR c (nb X) r)) (nI r) m1 = _
      rw [le_Le_packed_5]
      unfold X_Le_packed_5
      rw [h4, if_neg (nI_nlt (Nat.le_refl _) (by omega))]) 1000000 0 m (Nat.zero_le _) (by omega) rfl
  rw [h1] at e
  exact e
/-- packed heads, spread -/
def spL (B c : Nat) : Nat → nb_F
  | 0 => 0
  | i + 1 => spL B c i ||| (bN (B / 2 ^ (c * i) % 2 ^ c) <<< (6 * i))
theorem spL_s (B c i : Nat) : spL B c (i + 1) = spL B c i ||| (bN (B / 2 ^ (c * i) % 2 ^ c) <<< (6 * i)) := rfl
theorem bn_or (x y : nb_F) : bn x ||| bn y = bn (x ||| y) := rfl
theorem shl_bit (y k i : Nat) (hk : k < 64) : (bN y <<< i).getLsbD k = (!decide (k < i) && y.testBit (k - i)) := by
  rw [BitVec.getLsbD_shiftLeft, decide_eq_true hk, Bool.true_and]
  by_cases q : k < i
  · rw [decide_eq_true q]
    rfl
  · rw [decide_eq_false q, bN_bit _ _ (by omega)]
theorem spL_t {y i j : Nat} (h6 : 6 * i + j < 64) : bN (y % 2 ^ (j + 1)) <<< (6 * i) = if y.testBit j = true then (bN (y % 2 ^ j) <<< (6 * i)) ||| nb_e (6 * i + j) else bN (y % 2 ^ j) <<< (6 * i) := by
  apply BitVec.eq_of_getLsbD_eq
  intro k hk
  rw [shl_bit _ _ _ hk, Nat.testBit_mod_two_pow]
  by_cases q : y.testBit j = true
  · rw [if_pos q, BitVec.getLsbD_or, shl_bit _ _ _ hk, nb_e_bl hk, Nat.testBit_mod_two_pow]
    by_cases z : k = 6 * i + j
    · rw [z, show 6 * i + j - 6 * i = j by omega, q, decide_eq_false (show ¬ 6 * i + j < 6 * i by omega), decide_eq_true (show j < j + 1 by omega)]
      simp
    · by_cases z1 : k < 6 * i
      · rw [decide_eq_true z1, decide_eq_false z]
        rfl
      · rw [decide_eq_false z1, decide_eq_false z]
        by_cases z2 : k - 6 * i < j
        · rw [decide_eq_true z2, decide_eq_true (show k - 6 * i < j + 1 by omega)]
          simp
        · rw [decide_eq_false z2, decide_eq_false (show ¬ k - 6 * i < j + 1 by omega)]
          simp
  · have q2 : y.testBit j = false := by simpa using q
    rw [if_neg q, shl_bit _ _ _ hk, Nat.testBit_mod_two_pow]
    by_cases z1 : k < 6 * i
    · rw [decide_eq_true z1]
      rfl
    · rw [decide_eq_false z1]
      by_cases z2 : k - 6 * i < j
      · rw [decide_eq_true z2, decide_eq_true (show k - 6 * i < j + 1 by omega)]
      · by_cases z3 : k - 6 * i = j
        · rw [z3, q2]
          simp
        · rw [decide_eq_false z2, decide_eq_false (show ¬ k - 6 * i < j + 1 by omega)]
