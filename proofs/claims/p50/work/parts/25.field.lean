/-! numbers are a field -/
theorem nb_in_add {k : Nat} {x y : nb_F} (hx : nb_in k x) (hy : nb_in k y) : nb_in k (x ^^^ y) := by
  unfold nb_in at *
  rw [nb_cut_lin, hx, hy]
theorem nb_in_zero (k : Nat) : nb_in k 0 := nb_lin0 (nb_cut_lin _)
theorem nb_in_bit {k : Nat} {x : nb_F} : nb_in k x ↔ ∀ i (hi : i < 64), 2 ^ k ≤ i → x[i] = false := by
  constructor
  · intro h i hi hk
    have h1 := nb_cut_bit (2 ^ k) x i hi
    rw [show nb_cut (2 ^ k) x = x from h] at h1
    rw [h1]
    simp
    omega
  · intro h
    unfold nb_in
    ext i hi
    rw [nb_cut_bit]
    by_cases q : i < 2 ^ k
    · simp [q]
    · rw [h i hi (by omega)]
      simp
theorem nb_in_up {k : Nat} {x : nb_F} (h : nb_in k x) : nb_in (k + 1) x := nb_in_bit.mpr (fun i hi hk => nb_in_bit.mp h i hi (by rw [Nat.pow_succ] at hk; omega))
theorem nb_in_mulN {k : Nat} (hk : k < 7) {x y : nb_F} (hx : nb_in k x) (hy : nb_in k y) : ∀ n, nb_in k (nb_mulN n x y)
  | 0 => nb_in_zero k
  | n + 1 => by
    simp only [nb_mulN]
    refine nb_in_add (nb_in_mulN hk hx hy n) ?_
    by_cases h : x.getLsbD n = true
    · rw [if_pos h]
      exact nb_M_in (nb_cut_lt hx h).1 hk hy
    · rw [if_neg h]
      exact nb_in_zero k
theorem nb_in_mul {k : Nat} (hk : k < 7) {x y : nb_F} (hx : nb_in k x) (hy : nb_in k y) : nb_in k (nb_mul x y) := nb_in_mulN hk hx hy 64
theorem nb_in_one (k : Nat) : nb_in k 1 := by
  have h : nb_in k (nb_e 0) := nb_e_in (Nat.pow_pos (by decide))
  exact h
theorem nb_T_mul (k : Nat) (hk : k < 6) (x : nb_F) : nb_T k x = nb_mul (nb_T k 1) x := by
  have h : nb_com (nb_T k) := fun j hj y => by
    have e1 := nb_M_all (nb_L j y) k hk
    have e2 := nb_M_all y k hk
    rw [← e1, ← e2]
    exact nb_M_com _ j hj y
  rw [nb_key (nb_T_lin k) h x, nb_comm]
/-- half of F is the highest bit of its level -/
theorem nb_T1 : ∀ k, k < 6 → nb_T k 1 = nb_e (2 ^ k - 1) := nb_k6 (by decide +kernel) (by decide +kernel) (by decide +kernel) (by decide +kernel) (by decide +kernel) (by decide +kernel)
def nb_has (k : Nat) (x : nb_F) : nb_F := nb_cut 1 (x >>> (2 ^ k - 1))
theorem nb_zz_lin (k : Nat) : nb_lin (fun z => nb_has k (nb_sqA 6 z ^^^ z)) := fun x y => by
  show nb_has k (nb_sqA 6 (x ^^^ y) ^^^ (x ^^^ y)) = nb_has k (nb_sqA 6 x ^^^ x) ^^^ nb_has k (nb_sqA 6 y ^^^ y)
  unfold nb_has
  rw [nb_sqA_lin, nb_xxxx]
  generalize nb_sqA 6 x ^^^ x = a
  generalize nb_sqA 6 y ^^^ y = b
  have h : (a ^^^ b) >>> (2 ^ k - 1) = (a >>> (2 ^ k - 1)) ^^^ (b >>> (2 ^ k - 1)) := nb_shr (2 ^ k - 1) a b
  rw [h, nb_cut_lin]
theorem nb_0_lin : nb_lin (fun _ => (0 : nb_F)) := fun _ _ => (nb_x0 0).symm
theorem nb_zz : ∀ k, k < 6 → ∀ z, nb_in k z → nb_has k (nb_sq z ^^^ z) = 0 := by
  have h : ∀ k, k < 6 → ∀ z, nb_in k z → nb_has k (nb_sqA 6 z ^^^ z) = 0 :=
    nb_k6 (fun z h => nb_by_cut (nb_zz_lin 0) nb_0_lin (by decide +kernel) h) (fun z h => nb_by_cut (nb_zz_lin 1) nb_0_lin (by decide +kernel) h) (fun z h => nb_by_cut (nb_zz_lin 2) nb_0_lin (by decide +kernel) h)
      (fun z h => nb_by_cut (nb_zz_lin 3) nb_0_lin (by decide +kernel) h) (fun z h => nb_by_cut (nb_zz_lin 4) nb_0_lin (by decide +kernel) h) (fun z h => nb_by_cut (nb_zz_lin 5) nb_0_lin (by decide +kernel) h)
  intro k hk z hz
  rw [← nb_sqA_eq]
  exact h k hk z hz
theorem nb_has_T : ∀ k, k < 6 → nb_has k (nb_T k 1) ≠ 0 := nb_k6 (by decide +kernel) (by decide +kernel) (by decide +kernel) (by decide +kernel) (by decide +kernel) (by decide +kernel)
theorem nb_xx (x : nb_F) : x ^^^ x = 0 := BitVec.xor_self
theorem nb_x_eq {x y : nb_F} (h : x ^^^ y = 0) : x = y := by
  have : x ^^^ y ^^^ y = y := by rw [h]; exact BitVec.zero_xor
  rw [BitVec.xor_assoc, nb_xx, nb_x0] at this
  exact this
/-- the norm of what is not 0 in the upper half -/
theorem nb_norm {k : Nat} (hk : k < 6) {x : nb_F} (hx : nb_in (k + 1) x) :
    nb_mul x (x ^^^ (x >>> (2 ^ k))) = nb_mul (x &&& nb_low k) ((x &&& nb_low k) ^^^ (x >>> (2 ^ k))) ^^^ nb_T k (nb_sq (x >>> (2 ^ k))) := by
  have hs := nb_split k hk x hx
  generalize x &&& nb_low k = l at hs ⊢
  generalize x >>> (2 ^ k) = h at hs ⊢
  subst hs
  rw [nb_T_mul k hk, nb_L_mul k hk]
  have hF : nb_mul (nb_e (2 ^ k)) (nb_e (2 ^ k)) = nb_e (2 ^ k) ^^^ nb_T k 1 := by
    have e := nb_LL k hk 1
    rw [nb_L_mul k hk 1, nb_mul_1, nb_L_mul k hk] at e
    exact e
  generalize nb_e (2 ^ k) = F at hF ⊢
  generalize nb_T k 1 = t at hF ⊢
  unfold nb_sq
  have e1 : l ^^^ nb_mul F h ^^^ h = (l ^^^ h) ^^^ nb_mul F h := by rw [BitVec.xor_assoc, BitVec.xor_comm (nb_mul F h) h, ← BitVec.xor_assoc]
  rw [e1, nb_add_mul, nb_mul_add, nb_mul_add (nb_mul F h)]
  have e2 : nb_mul (nb_mul F h) (nb_mul F h) = nb_mul (nb_mul F F) (nb_mul h h) := by
    rw [nb_assoc, ← nb_assoc h F h, nb_comm h F, nb_assoc F h h, ← nb_assoc]
  rw [e2, hF, nb_add_mul]
  have e3 : nb_mul l (nb_mul F h) = nb_mul (nb_mul F h) l := nb_comm _ _
  have e4 : nb_mul (nb_mul F h) (l ^^^ h) = nb_mul (nb_mul F h) l ^^^ nb_mul F (nb_mul h h) := by rw [nb_mul_add, nb_assoc F h h]
  rw [e3, e4]
  generalize nb_mul l (l ^^^ h) = a
  generalize nb_mul (nb_mul F h) l = b
  generalize nb_mul F (nb_mul h h) = c
  generalize nb_mul t (nb_mul h h) = d
  ext i hi
  simp only [BitVec.getElem_xor]
  cases a[i] <;> cases b[i] <;> cases c[i] <;> cases d[i] <;> rfl
theorem nb_inv_ex : ∀ k, k < 7 → ∀ x, nb_in k x → x ≠ 0 → ∃ y, nb_in k y ∧ nb_mul x y = 1
  | 0, _, x, hx, h0 => by
    rcases nb_in0 hx with q | q
    · exact absurd q h0
    · exact ⟨1, nb_in_one 0, by rw [q, nb_mul_1]⟩
  | k + 1, hk, x, hx, h0 => by
    have hk6 : k < 6 := by omega
    have ih := nb_inv_ex k (by omega)
    have hs := nb_split k hk6 x hx
    have hl := nb_lo_in k hk6 x hx
    have hh := nb_hi_in k hk6 x hx
    have hn := nb_norm hk6 hx
    generalize hL : x &&& nb_low k = l at hs hl hn
    generalize hH : x >>> (2 ^ k) = h at hs hh hn
    by_cases hz : h = 0
    · rw [hz, nb_lin0 (nb_L_lin k), nb_x0] at hs
      obtain ⟨y, hy1, hy2⟩ := ih x (hs ▸ hl) h0
      exact ⟨y, nb_in_up hy1, hy2⟩
    · have hNin : nb_in k (nb_mul x (x ^^^ h)) := by
        rw [hn]
        refine nb_in_add (nb_in_mul (by omega) hl (nb_in_add hl hh)) ?_
        rw [nb_T_mul k hk6, nb_T1 k hk6]
        exact nb_in_mul (by omega) (nb_e_in (by have : 0 < 2 ^ k := Nat.pow_pos (by decide); omega)) (nb_in_mul (by omega) hh hh)
      have hN0 : nb_mul x (x ^^^ h) ≠ 0 := by
        intro hN
        obtain ⟨g, hg1, hg2⟩ := ih h hh hz
        have hz2 := nb_zz k hk6 (nb_mul l g) (nb_in_mul (by omega) hl hg1)
        apply nb_has_T k hk6
        rw [← hz2]
        congr 1
        have e1 : nb_mul l (l ^^^ h) = nb_T k (nb_sq h) := nb_x_eq (by rw [← hn]; exact hN)
        rw [nb_T_mul k hk6] at e1
        have e2 : nb_mul (nb_mul l (l ^^^ h)) (nb_mul g g) = nb_T k 1 := by
          rw [e1]
          unfold nb_sq
          have : nb_mul (nb_mul h h) (nb_mul g g) = 1 := by
            rw [nb_assoc, ← nb_assoc h g g, hg2, nb_1_mul, hg2]
          rw [nb_assoc, this, nb_mul_1]
        rw [← e2]
        unfold nb_sq
        rw [nb_mul_add, nb_add_mul]
        have e3 : nb_mul (nb_mul l l) (nb_mul g g) = nb_mul (nb_mul l g) (nb_mul l g) := by
          rw [nb_assoc, ← nb_assoc l g g, nb_comm (nb_mul l g) g, ← nb_assoc, nb_comm l g, nb_comm g l]
        have e4 : nb_mul (nb_mul l h) (nb_mul g g) = nb_mul l g := by
          rw [nb_assoc, ← nb_assoc h g g, hg2, nb_1_mul]
        rw [e3, e4]
      obtain ⟨w, hw1, hw2⟩ := ih _ hNin hN0
      refine ⟨nb_mul (x ^^^ h) w, nb_in_mul hk (nb_in_add hx (nb_in_up hh)) (nb_in_up hw1), ?_⟩
      rw [← nb_assoc]
      exact hw2
theorem nb_nz {x y : nb_F} (h : nb_mul x y = 0) : x = 0 ∨ y = 0 := by
  by_cases hx : x = 0
  · exact Or.inl hx
  · right
    obtain ⟨w, -, hw⟩ := nb_inv_ex 6 (by decide) x (nb_in6 x) hx
    have : nb_mul (nb_mul w x) y = 0 := by rw [nb_assoc, h, nb_mul_0]
    rw [nb_comm w x, hw, nb_1_mul] at this
    exact this
/-- the inverse; 0 of 0 -/
noncomputable def nb_inv (x : nb_F) : nb_F := if h : x = 0 then 0 else Classical.choose (nb_inv_ex 6 (by decide) x (nb_in6 x) h)
