/-! the trace: a sum of squares of squares, and a bit -/
theorem nb_conj {k : Nat} (hk6 : k < 6) {x : nb_F} (hx : nb_in (k + 1) x) : x ^^^ nb_sqN (2 ^ k) x = x >>> (2 ^ k) := by
  have ih := nb_frob k (by omega)
  have hs := nb_split k hk6 x hx
  have hl := ih _ (nb_lo_in k hk6 x hx)
  have hh := ih _ (nb_hi_in k hk6 x hx)
  have hc := nb_cjA k hk6
  rw [nb_sqNA_eq] at hc
  rw [nb_L_mul k hk6] at hs
  generalize x &&& nb_low k = l at hs hl
  generalize x >>> (2 ^ k) = h at hs hh ⊢
  generalize 2 ^ k = n at hs hl hh hc ⊢
  rw [← hs, nb_sqN_lin n, nb_sqN_mul n, hc, hl, hh, nb_add_mul, nb_1_mul]
  generalize nb_mul (nb_e n) h = a
  ext i hi
  simp only [BitVec.getElem_xor]
  cases l[i] <;> cases a[i] <;> cases h[i] <;> rfl
def nb_tr : Nat → nb_F → nb_F
  | 0, _ => 0
  | n + 1, x => nb_tr n x ^^^ nb_sqN n x
theorem nb_tr_0 (x : nb_F) : nb_tr 0 x = 0 := rfl
theorem nb_tr_s (n : Nat) (x : nb_F) : nb_tr (n + 1) x = nb_tr n x ^^^ nb_sqN n x := rfl
theorem nb_tr_lin (n : Nat) : nb_lin (nb_tr n) := by
  induction n with
  | zero => exact nb_0_lin
  | succ n ih =>
    intro x y
    rw [nb_tr_s, nb_tr_s, nb_tr_s, ih, nb_sqN_lin, nb_xxxx]
theorem nb_tr_add (n : Nat) (x : nb_F) (p : Nat) : nb_tr (n + p) x = nb_tr n x ^^^ nb_tr p (nb_sqN n x) := by
  induction p with
  | zero => rw [Nat.add_zero, nb_tr_0, nb_x0]
  | succ p ih =>
    rw [← Nat.add_assoc, nb_tr_s, nb_tr_s, ih, Nat.add_comm n p, nb_sqN_add 0 p n x, BitVec.xor_assoc]
theorem nb_tr_bit (k : Nat) : k < 7 → ∀ x, nb_in k x → nb_tr (2 ^ k) x = nb_has k x := by
  induction k with
  | zero =>
    intro _ x hx
    have e : nb_has 0 x = nb_cut 1 x := rfl
    have e2 : nb_cut 1 x = x := hx
    rw [e, e2, Nat.pow_zero, show nb_tr 1 x = (0 : nb_F) ^^^ x from rfl]
    exact BitVec.zero_xor
  | succ k ih =>
    intro hk x hx
    have hk6 : k < 6 := by omega
    have h1 : 0 < 2 ^ k := Nat.pow_pos (by decide)
    have e : 2 ^ (k + 1) = 2 ^ k + 2 ^ k := by rw [Nat.pow_succ]; omega
    have h2 : nb_tr (2 ^ k + 2 ^ k) x = nb_tr (2 ^ k) (x ^^^ nb_sqN (2 ^ k) x) := by rw [nb_tr_add, nb_tr_lin]
    have h3 : nb_has (k + 1) x = nb_has k (x >>> (2 ^ k)) := by
      unfold nb_has
      have e3 : 2 ^ (k + 1) - 1 = 2 ^ k + (2 ^ k - 1) := by omega
      rw [e3, BitVec.shiftRight_add]
    rw [e, h2, nb_conj hk6 hx, ih (by omega) _ (nb_hi_in k hk6 x hx), h3]
