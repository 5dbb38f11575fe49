/-! the model weighs -/
theorem sw_up {w : Nat → Nat} {k S : Nat} (h : S < 2 ^ k) : ∀ d, sw w (k + d) S = sw w k S
  | 0 => rfl
  | d + 1 => by
    rw [← Nat.add_assoc, sw_lo w (n := k + d) (Nat.lt_of_lt_of_le h (Nat.pow_le_pow_right (by omega) (by omega))), sw_up h d]
theorem nI_and1 {a : Nat} (ha : a < 2 ^ 31) : nI a &&& 1 = nI (a % 2) := by
  have e : nI a &&& nI 1 = _ := nI_and ha (by omega)
  have e2 : a &&& 1 = a % 2 := Nat.and_two_pow_sub_one_eq_mod a 1
  rw [e2] at e
  exact e
theorem nI_bit1 {a k : Nat} (ha : a < 2 ^ 31) (hk : k < 32) : (qo_ishr (nI a) (nI k) &&& 1 = 1 ↔ a.testBit k = true) ∧ (qo_ishr (nI a) (nI k) &&& 1 = 0 ↔ a.testBit k = false) := by
  have hd := Nat.div_le_self a (2 ^ k)
  rw [nI_shr ha hk, nI_and1 (by omega), Nat.testBit_eq_decide_div_mod_eq]
  have h2 : a / 2 ^ k % 2 < 2 := Nat.mod_lt _ (by omega)
  constructor
  · rw [decide_eq_true_iff]
    exact nI_eq (b := 1) (by omega) (by omega)
  · rw [decide_eq_false_iff_not]
    constructor
    · intro z
      have := (nI_eq (b := 0) (by omega) (by omega)).mp z
      omega
    · intro z
      rw [show a / 2 ^ k % 2 = 0 by omega]
      rfl
def lwf (m m1 : qm_M) : Prop := (∀ a, a ≠ 133 → a ≠ 134 → m1.1 a = m.1 a) ∧ m1.2 = m.2
/-- a position's rules -/
def prl (P : sP) (K L : Nat → Nat) : Prop := ∀ v, v < 2 → P (2 + v) = lN (K v) ∧ P (4 + v) = lN (L v) ∧ K v ≤ 3 ∧ 1 ≤ L v ∧ L v ≤ 8
