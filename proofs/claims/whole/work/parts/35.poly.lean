/-! polynomials by coefficients, as functions -/
theorem nb_xc {a b c d : nb_F} (h : a = b) (g : c = d) : a ^^^ c = b ^^^ d := by rw [h, g]
theorem nb_0x (x : nb_F) : 0 ^^^ x = x := BitVec.zero_xor
theorem nb_mc (x : nb_F) {c d : nb_F} (g : c = d) : nb_mul x c = nb_mul x d := by rw [g]
/-- the first n coefficients, at x -/
def pf_e : Nat → (Nat → nb_F) → nb_F → nb_F
  | 0, _, _ => 0
  | n + 1, c, x => c 0 ^^^ nb_mul x (pf_e n (fun i => c (i + 1)) x)
theorem pf_e_0 (c : Nat → nb_F) (x : nb_F) : pf_e 0 c x = 0 := rfl
theorem pf_e_s (n : Nat) (c : Nat → nb_F) (x : nb_F) : pf_e (n + 1) c x = c 0 ^^^ nb_mul x (pf_e n (fun i => c (i + 1)) x) := rfl
theorem pf_e_c {n : Nat} : ∀ {c d : Nat → nb_F}, (∀ i, i < n → c i = d i) → ∀ x, pf_e n c x = pf_e n d x := by
  induction n with
  | zero => intro c d _ x; rfl
  | succ n ih =>
    intro c d h x
    rw [pf_e_s, pf_e_s, h 0 (by omega), ih (fun i hi => h (i + 1) (by omega)) x]
theorem pf_e_z {n : Nat} : ∀ {c : Nat → nb_F}, (∀ i, i < n → c i = 0) → ∀ x, pf_e n c x = 0 := by
  induction n with
  | zero => intro c _ x; rfl
  | succ n ih =>
    intro c h x
    rw [pf_e_s, h 0 (by omega), ih (fun i hi => h (i + 1) (by omega)) x, nb_mul_0, nb_xx]
theorem pf_e_add (n : Nat) : ∀ (c d : Nat → nb_F) (x : nb_F), pf_e n (fun i => c i ^^^ d i) x = pf_e n c x ^^^ pf_e n d x := by
  induction n with
  | zero => intro c d x; exact (nb_xx 0).symm
  | succ n ih =>
    intro c d x
    rw [pf_e_s, pf_e_s, pf_e_s, ih, nb_mul_add, nb_xxxx]
theorem pf_e_sc (a : nb_F) (n : Nat) : ∀ (c : Nat → nb_F) (x : nb_F), pf_e n (fun i => nb_mul a (c i)) x = nb_mul a (pf_e n c x) := by
  induction n with
  | zero => intro c x; exact (nb_mul_0 a).symm
  | succ n ih =>
    intro c x
    rw [pf_e_s, pf_e_s, ih (fun i => c (i + 1)), nb_mul_add, ← nb_assoc, ← nb_assoc, nb_comm x a]
/-- the highest one apart -/
theorem pf_e_hi (n : Nat) : ∀ (c : Nat → nb_F) (x : nb_F), pf_e (n + 1) c x = pf_e n c x ^^^ nb_mul (nb_pow n x) (c n) := by
  induction n with
  | zero =>
    intro c x
    rw [pf_e_s, pf_e_0, pf_e_0, nb_mul_0, nb_pow_0, nb_1_mul, BitVec.xor_comm]
  | succ n ih =>
    intro c x
    rw [pf_e_s, ih, pf_e_s n, nb_pow_s]
    generalize pf_e n (fun i => c (i + 1)) x = a
    generalize nb_pow n x = p
    generalize c (n + 1) = d
    generalize c 0 = e
    letI := nb_RI
    haveI := nb_RC
    exact (show ∀ x a p d e : nb_R, e + x * (a + p * d) = e + x * a + p * x * d by intros; grind) x a p d e
theorem pf_e_up (n : Nat) {c : Nat → nb_F} : ∀ k, (∀ i, n ≤ i → i < n + k → c i = 0) → ∀ x, pf_e (n + k) c x = pf_e n c x := by
  intro k
  induction k with
  | zero => intro _ x; rfl
  | succ k ih =>
    intro h x
    rw [← Nat.add_assoc, pf_e_hi, h (n + k) (by omega) (by omega), nb_mul_0, nb_x0, ih (fun i h1 h2 => h i h1 (by omega)) x]
/-- less its value at a: times x less a -/
theorem pf_e_div (n : Nat) : ∀ (c : Nat → nb_F) (a x : nb_F), pf_e (n + 1) c x ^^^ pf_e (n + 1) c a = nb_mul (x ^^^ a) (pf_e n (fun i => pf_e (n - i) (fun j => c (i + 1 + j)) a) x) := by
  induction n with
  | zero =>
    intro c a x
    rw [pf_e_s, pf_e_s, pf_e_0, pf_e_0, pf_e_0, nb_mul_0, nb_mul_0, nb_mul_0, nb_x0, nb_xx]
  | succ n ih =>
    intro c a x
    have h := ih (fun i => c (i + 1)) a x
    have e : pf_e (n + 1) (fun i => pf_e (n + 1 - i) (fun j => c (i + 1 + j)) a) x = pf_e (n + 1) (fun i => c (i + 1)) a ^^^ nb_mul x (pf_e n (fun i => pf_e (n - i) (fun j => c (i + 1 + 1 + j)) a) x) := by
      rw [pf_e_s]
      exact nb_xc (pf_e_c (fun i _ => by rw [show 0 + 1 + i = i + 1 by omega]) a) (nb_mc x (pf_e_c (fun i _ => by rw [show n + 1 - (i + 1) = n - i by omega]) x))
    have e2 : (pf_e n (fun i => pf_e (n - i) (fun j => c (i + 1 + j + 1)) a) x) = (pf_e n (fun i => pf_e (n - i) (fun j => c (i + 1 + 1 + j)) a) x) :=
      pf_e_c (fun i _ => pf_e_c (fun j _ => by rw [show i + 1 + j + 1 = i + 1 + 1 + j by omega]) a) x
    rw [e2] at h
    rw [e, pf_e_s (n + 1), pf_e_s (n + 1) c a]
    generalize pf_e (n + 1) (fun i => c (i + 1)) x = p at h ⊢
    generalize pf_e (n + 1) (fun i => c (i + 1)) a = q at h ⊢
    generalize (pf_e n (fun i => pf_e (n - i) (fun j => c (i + 1 + 1 + j)) a) x) = r at h ⊢
    generalize c 0 = z
    letI := nb_RI
    haveI := nb_RC
    exact (show ∀ x a p q r z : nb_R, p + q = (x + a) * r → z + x * p + (z + a * q) = (x + a) * (q + x * r) by intros; grind) x a p q r z h
/-- more roots than its degree: all coefficients are 0 -/
theorem pf_zero : ∀ (as : List nb_F) (n : Nat) (c : Nat → nb_F), as.Nodup → n ≤ as.length → (∀ a ∈ as, pf_e n c a = 0) → ∀ i, i < n → c i = 0
  | _, 0, _, _, _, _, i, hi => absurd hi (Nat.not_lt_zero _)
  | [], n + 1, _, _, hl, _, _, _ => by simp at hl
  | a :: as, n + 1, c, hd, hl, h, i, hi => by
    have hd2 := List.nodup_cons.mp hd
    have ha : pf_e (n + 1) c a = 0 := h a List.mem_cons_self
    have ih := pf_zero as n (fun i => pf_e (n - i) (fun j => c (i + 1 + j)) a) hd2.2 (by simpa using hl) (fun b hb => by
      have h1 := pf_e_div n c a b
      rw [ha, h b (List.mem_cons_of_mem _ hb), nb_xx] at h1
      rcases nb_nz h1.symm with q | q
      · exact absurd (nb_x_eq q ▸ hb) hd2.1
      · exact q)
    have top : ∀ d i, i < n → n - i ≤ d → c (i + 1) = 0 := by
      intro d
      induction d with
      | zero => intro i h1 h2; omega
      | succ d ihd =>
        intro i h1 h2
        have e := ih i h1
        obtain ⟨k, hk⟩ : ∃ k, n - i = k + 1 := ⟨n - i - 1, by omega⟩
        rw [hk, pf_e_s, pf_e_z (n := k) (fun j hj => by
          show c (i + 1 + (j + 1)) = 0
          exact ihd (i + 1 + j) (by omega) (by omega)) a, nb_mul_0, nb_x0] at e
        exact e
    cases i with
    | zero =>
      rw [pf_e_s, pf_e_z (n := n) (fun j hj => top n j hj (by omega)) a, nb_mul_0, nb_x0] at ha
      exact ha
    | succ i => exact top n i (by omega) (by omega)
/-- as many points as coefficients: they are told by the values -/
theorem pf_same (as : List nb_F) {n : Nat} {c d : Nat → nb_F} (hd : as.Nodup) (hl : n ≤ as.length) (h : ∀ a ∈ as, pf_e n c a = pf_e n d a) : ∀ i, i < n → c i = d i := by
  intro i hi
  have h1 := pf_zero as n (fun i => c i ^^^ d i) hd hl (fun a ha => by rw [pf_e_add, h a ha, nb_xx]) i hi
  exact nb_x_eq h1
/-- a function that is a polynomial of less than n coefficients -/
def pf_P (n : Nat) (f : nb_F → nb_F) : Prop := ∃ c, ∀ x, f x = pf_e n c x
theorem pf_P.add {n : Nat} {f g : nb_F → nb_F} (hf : pf_P n f) (hg : pf_P n g) : pf_P n (fun x => f x ^^^ g x) := by
  obtain ⟨c, hc⟩ := hf
  obtain ⟨d, hd⟩ := hg
  exact ⟨fun i => c i ^^^ d i, fun x => by rw [pf_e_add, ← hc, ← hd]⟩
theorem pf_P.sc {n : Nat} {f : nb_F → nb_F} (a : nb_F) (hf : pf_P n f) : pf_P n (fun x => nb_mul a (f x)) := by
  obtain ⟨c, hc⟩ := hf
  exact ⟨_, fun x => by rw [pf_e_sc a n c, ← hc]⟩
theorem pf_P.zero (n : Nat) : pf_P n (fun _ => 0) := ⟨fun _ => 0, fun x => (pf_e_z (fun _ _ => rfl) x).symm⟩
theorem pf_P.one : pf_P 1 (fun _ => 1) := ⟨fun _ => 1, fun x => by rw [pf_e_s, pf_e_0, nb_mul_0, nb_x0]⟩
theorem pf_P.up {n : Nat} {f : nb_F → nb_F} (k : Nat) (hf : pf_P n f) : pf_P (n + k) f := by
  obtain ⟨c, hc⟩ := hf
  refine ⟨fun i => if i < n then c i else 0, fun x => ?_⟩
  rw [pf_e_up n k (fun i h1 _ => if_neg (by omega)), hc]
  exact pf_e_c (fun i hi => (if_pos hi).symm) x
theorem pf_P.le {n k : Nat} {f : nb_F → nb_F} (hf : pf_P n f) (h : n ≤ k) : pf_P k f := by
  have := hf.up (k - n)
  rwa [Nat.add_sub_cancel' h] at this
/-- times x -/
theorem pf_P.X {n : Nat} {f : nb_F → nb_F} (hf : pf_P n f) : pf_P (n + 1) (fun x => nb_mul x (f x)) := by
  obtain ⟨c, hc⟩ := hf
  refine ⟨fun i => if i = 0 then 0 else c (i - 1), fun x => ?_⟩
  rw [pf_e_s, if_pos rfl, nb_0x]
  exact nb_mc x (hc x)
/-- times x less a -/
theorem pf_P.lin {n : Nat} {f : nb_F → nb_F} (a : nb_F) (hf : pf_P n f) : pf_P (n + 1) (fun x => nb_mul (x ^^^ a) (f x)) := by
  have h := hf.X.add ((hf.sc a).up 1)
  obtain ⟨c, hc⟩ := h
  exact ⟨c, fun x => (nb_add_mul x a (f x)).trans (hc x)⟩
theorem pf_P.eq {n : Nat} {f g : nb_F → nb_F} (hf : pf_P n f) (hg : pf_P n g) (as : List nb_F) (hd : as.Nodup) (hl : n ≤ as.length) (h : ∀ a ∈ as, f a = g a) : ∀ x, f x = g x := by
  obtain ⟨c, hc⟩ := hf
  obtain ⟨d, hd'⟩ := hg
  intro x
  rw [hc, hd']
  exact pf_e_c (pf_same as hd hl (fun a ha => by rw [← hc, ← hd', h a ha])) x
