/-! NUMBERS of 64 bits as a field: what is checked by computing is little, the rest is linear -/
abbrev nb_F : Type := BitVec 64
def nb_low (k : Nat) : nb_F := match k with
  | 0 => 0x5555555555555555
  | 1 => 0x3333333333333333
  | 2 => 0x0F0F0F0F0F0F0F0F
  | 3 => 0x00FF00FF00FF00FF
  | 4 => 0x0000FFFF0000FFFF
  | _ => 0x00000000FFFFFFFF
def nb_Lof (k : Nat) (t : nb_F → nb_F) (x : nb_F) : nb_F := ((((x >>> (2 ^ k)) &&& nb_low k) ^^^ (x &&& nb_low k)) <<< (2 ^ k)) ^^^ t ((x >>> (2 ^ k)) &&& nb_low k)
/-- times half of 2 to the 2 to the k -/
def nb_T : Nat → nb_F → nb_F
  | 0, x => x
  | k + 1, x => nb_Lof k (nb_T k) (nb_T k x)
/-- times 2 to the 2 to the k -/
def nb_L (k : Nat) (x : nb_F) : nb_F := nb_Lof k (nb_T k) x
def nb_lin (f : nb_F → nb_F) : Prop := ∀ x y, f (x ^^^ y) = f x ^^^ f y
theorem nb_lin0 {f : nb_F → nb_F} (h : nb_lin f) : f 0 = 0 := by
  have := h 0 0
  rw [BitVec.xor_self, BitVec.xor_self] at this
  exact this
theorem nb_xxxx (a b c d : nb_F) : (a ^^^ b) ^^^ (c ^^^ d) = (a ^^^ c) ^^^ (b ^^^ d) := by
  ext i
  simp only [BitVec.getElem_xor]
  cases a[i] <;> cases b[i] <;> cases c[i] <;> cases d[i] <;> rfl
theorem nb_shr (n : Nat) : nb_lin (fun x => x >>> n) := fun x y => by
  ext i hi
  simp [BitVec.getElem_xor]
theorem nb_and (m : nb_F) : nb_lin (fun x => x &&& m) := fun x y => by
  ext i hi
  simp only [BitVec.getElem_and, BitVec.getElem_xor]
  cases x[i] <;> cases y[i] <;> cases m[i] <;> rfl
theorem nb_shl (n : Nat) : nb_lin (fun x => x <<< n) := fun x y => by
  ext i hi
  simp only [BitVec.getElem_shiftLeft, BitVec.getElem_xor, BitVec.getLsbD_xor]
  by_cases h : i < n
  · simp [h]
  · simp [h]
theorem nb_comp {f g : nb_F → nb_F} (hf : nb_lin f) (hg : nb_lin g) : nb_lin (fun x => f (g x)) := fun x y => by
  show f (g (x ^^^ y)) = _
  rw [hg, hf]
theorem nb_sum {f g : nb_F → nb_F} (hf : nb_lin f) (hg : nb_lin g) : nb_lin (fun x => f x ^^^ g x) := fun x y => by
  show f (x ^^^ y) ^^^ g (x ^^^ y) = _
  rw [hf, hg, nb_xxxx]
theorem nb_idl : nb_lin (fun x => x) := fun _ _ => rfl
theorem nb_hi_lin (k : Nat) : nb_lin (fun x => (x >>> (2 ^ k)) &&& nb_low k) := nb_comp (nb_and (nb_low k)) (nb_shr (2 ^ k))
theorem nb_Lof_lin {k : Nat} {t : nb_F → nb_F} (ht : nb_lin t) : nb_lin (nb_Lof k t) :=
  nb_sum (f := fun x => (((x >>> (2 ^ k)) &&& nb_low k) ^^^ (x &&& nb_low k)) <<< (2 ^ k)) (nb_comp (nb_shl (2 ^ k)) (nb_sum (nb_hi_lin k) (nb_and (nb_low k)))) (nb_comp ht (nb_hi_lin k))
theorem nb_T_lin : ∀ k, nb_lin (nb_T k)
  | 0 => nb_idl
  | k + 1 => fun x y => by
    show nb_Lof k (nb_T k) (nb_T k (x ^^^ y)) = nb_Lof k (nb_T k) (nb_T k x) ^^^ nb_Lof k (nb_T k) (nb_T k y)
    rw [nb_T_lin k, nb_Lof_lin (nb_T_lin k)]
theorem nb_L_lin (k : Nat) : nb_lin (nb_L k) := nb_Lof_lin (nb_T_lin k)
/-! bits -/
def nb_e (i : Nat) : nb_F := 1#64 <<< i
def nb_cut (n : Nat) (x : nb_F) : nb_F := x &&& BitVec.ofNat 64 (2 ^ n - 1)
theorem nb_cut_bit (n : Nat) (x : nb_F) (i : Nat) (hi : i < 64) : (nb_cut n x)[i] = (x[i] && decide (i < n)) := by
  unfold nb_cut
  rw [BitVec.getElem_and]
  congr 1
  rw [BitVec.getElem_eq_testBit_toNat, BitVec.toNat_ofNat, Nat.testBit_mod_two_pow, Nat.testBit_two_pow_sub_one]
  simp [hi]
theorem nb_e_bit (n i : Nat) (hi : i < 64) : (nb_e n)[i] = decide (i = n) := by
  unfold nb_e
  rw [BitVec.getElem_shiftLeft]
  by_cases h : i < n
  · simp [h]; omega
  · by_cases h2 : i = n
    · subst h2
      simp
    · obtain ⟨k, hk⟩ : ∃ k, i - n = k + 1 := ⟨i - n - 1, by omega⟩
      have e : (1#64)[i - n]'(by omega) = false := by
        rw [BitVec.getElem_eq_testBit_toNat, hk]
        show Nat.testBit 1 (k + 1) = false
        rw [Nat.testBit_succ]
        simp
      simp [h, h2, e]
theorem nb_cut_succ (n : Nat) (x : nb_F) : nb_cut (n + 1) x = nb_cut n x ^^^ (if x.getLsbD n then nb_e n else 0) := by
  ext i hi
  rw [BitVec.getElem_xor, nb_cut_bit, nb_cut_bit]
  by_cases hx : x.getLsbD n = true
  · rw [if_pos hx, nb_e_bit n i hi]
    by_cases h : i = n
    · subst h
      have : x[i] = true := by rw [← BitVec.getLsbD_eq_getElem]; exact hx
      simp [this]
    · have h1 : decide (i < n + 1) = decide (i < n) := by rw [decide_eq_decide]; omega
      simp [h1, h]
  · rw [if_neg hx]
    by_cases h : i = n
    · subst h
      have : x[i] = false := by rw [← BitVec.getLsbD_eq_getElem]; simpa using hx
      simp [this]
    · have h1 : decide (i < n + 1) = decide (i < n) := by rw [decide_eq_decide]; omega
      simp [h1]
theorem nb_cut_0 (x : nb_F) : nb_cut 0 x = 0 := by
  ext i hi
  rw [nb_cut_bit]
  simp
theorem nb_cut_64 (x : nb_F) : nb_cut 64 x = x := by
  ext i hi
  rw [nb_cut_bit]
  simp [hi]
/-- two linear maps that agree on bits agree -/
theorem nb_basis_lt {f g : nb_F → nb_F} (hf : nb_lin f) (hg : nb_lin g) {N : Nat} (h : ∀ i, i < N → f (nb_e i) = g (nb_e i)) (x : nb_F) : ∀ n, n ≤ N → f (nb_cut n x) = g (nb_cut n x)
  | 0, _ => by rw [nb_cut_0, nb_lin0 hf, nb_lin0 hg]
  | n + 1, hn => by
    rw [nb_cut_succ, hf, hg, nb_basis_lt hf hg h x n (by omega)]
    congr 1
    by_cases hx : x.getLsbD n = true
    · rw [if_pos hx]; exact h n (by omega)
    · rw [if_neg hx, nb_lin0 hf, nb_lin0 hg]
theorem nb_basis {f g : nb_F → nb_F} (hf : nb_lin f) (hg : nb_lin g) (h : ∀ i, i < 64 → f (nb_e i) = g (nb_e i)) (x : nb_F) : f x = g x := by
  have := nb_basis_lt hf hg h x 64 (Nat.le_refl _)
  rwa [nb_cut_64] at this
/-! the product -/
def nb_m (i k : Nat) (x : nb_F) : nb_F := if i.testBit k then nb_L k x else x
/-- times 2 to the i -/
def nb_M (i : Nat) (x : nb_F) : nb_F := nb_m i 5 (nb_m i 4 (nb_m i 3 (nb_m i 2 (nb_m i 1 (nb_m i 0 x)))))
def nb_mulN : Nat → nb_F → nb_F → nb_F
  | 0, _, _ => 0
  | n + 1, a, b => nb_mulN n a b ^^^ (if a.getLsbD n then nb_M n b else 0)
def nb_mul (a b : nb_F) : nb_F := nb_mulN 64 a b
theorem nb_m_lin (i k : Nat) : nb_lin (nb_m i k) := by
  unfold nb_m
  by_cases h : i.testBit k = true
  · simp only [h, if_true]; exact nb_L_lin k
  · simp only [h]; exact nb_idl
theorem nb_M_lin (i : Nat) : nb_lin (nb_M i) := fun x y => by
  unfold nb_M
  rw [nb_m_lin i 0, nb_m_lin i 1, nb_m_lin i 2, nb_m_lin i 3, nb_m_lin i 4, nb_m_lin i 5]
theorem nb_mulN_lin (a : nb_F) : ∀ n, nb_lin (nb_mulN n a)
  | 0 => fun _ _ => by simp [nb_mulN]
  | n + 1 => by
    have ih := nb_mulN_lin a n
    by_cases h : a.getLsbD n = true
    · intro x y
      simp only [nb_mulN, h, if_true]
      rw [ih, nb_M_lin, nb_xxxx]
    · intro x y
      simp only [nb_mulN, h]
      rw [ih]
      simp
theorem nb_mul_lin (a : nb_F) : nb_lin (nb_mul a) := nb_mulN_lin a 64
/-- commutes with all -/
def nb_com (f : nb_F → nb_F) : Prop := ∀ k, k < 6 → ∀ x, f (nb_L k x) = nb_L k (f x)
set_option maxRecDepth 100000 in
theorem nb_com_chk : (List.range 6).all (fun j => (List.range 6).all (fun k => Nat.ble k j || (List.range 64).all (fun i => decide (nb_L j (nb_L k (nb_e i)) = nb_L k (nb_L j (nb_e i)))))) = true := by decide +kernel
theorem nb_L_com (j : Nat) (hj : j < 6) : nb_com (nb_L j) := by
  have key : ∀ j k, j < k → k < 6 → ∀ x, nb_L j (nb_L k x) = nb_L k (nb_L j x) := fun j k h hk x => by
    refine nb_basis (nb_comp (nb_L_lin j) (nb_L_lin k)) (nb_comp (nb_L_lin k) (nb_L_lin j)) (fun i hi => ?_) x
    have h1 := List.all_eq_true.mp nb_com_chk j (List.mem_range.mpr (by omega))
    have h2 := List.all_eq_true.mp h1 k (List.mem_range.mpr hk)
    rcases Bool.or_eq_true_iff.mp h2 with q | q
    · have := Nat.le_of_ble_eq_true q; omega
    · exact of_decide_eq_true (List.all_eq_true.mp q i (List.mem_range.mpr hi))
  intro k hk x
  rcases Nat.lt_trichotomy j k with h | h | h
  · exact key j k h hk x
  · subst h; rfl
  · exact (key k j h hj x).symm
theorem nb_com_comp {f g : nb_F → nb_F} (hf : nb_com f) (hg : nb_com g) : nb_com (fun x => f (g x)) := fun k hk x => by
  show f (g _) = _
  rw [hg k hk, hf k hk]
theorem nb_m_com (i j : Nat) (hj : j < 6) : nb_com (nb_m i j) := by
  unfold nb_m
  by_cases h : i.testBit j = true
  · simp only [h, if_true]; exact nb_L_com j hj
  · simp only [h]; exact fun _ _ _ => rfl
theorem nb_M_com (i : Nat) : nb_com (nb_M i) := fun k hk x => by
  unfold nb_M
  rw [nb_m_com i 0 (by decide) k hk, nb_m_com i 1 (by decide) k hk, nb_m_com i 2 (by decide) k hk, nb_m_com i 3 (by decide) k hk, nb_m_com i 4 (by decide) k hk, nb_m_com i 5 (by decide) k hk]
theorem nb_mulN_com (a : nb_F) : ∀ n, nb_com (nb_mulN n a)
  | 0 => fun k _ x => by simp only [nb_mulN]; rw [nb_lin0 (nb_L_lin k)]
  | n + 1 => fun k hk x => by
    have ih := nb_mulN_com a n k hk x
    simp only [nb_mulN]
    rw [ih, nb_L_lin]
    congr 1
    by_cases h : a.getLsbD n = true
    · simp only [h, if_true]; exact nb_M_com n k hk x
    · simp only [h]; exact (nb_lin0 (nb_L_lin k)).symm
theorem nb_mul_com' (a : nb_F) : nb_com (nb_mul a) := nb_mulN_com a 64
/-- what commutes with all commutes with times 2 to the i -/
theorem nb_com_M {f : nb_F → nb_F} (hf : nb_com f) (i : Nat) (x : nb_F) : f (nb_M i x) = nb_M i (f x) := by
  have h1 : ∀ k, k < 6 → ∀ x, f (nb_m i k x) = nb_m i k (f x) := fun k hk x => by
    unfold nb_m
    by_cases h : i.testBit k = true
    · simp only [h, if_true]; exact hf k hk x
    · simp only [h]; rfl
  unfold nb_M
  rw [h1 5 (by decide), h1 4 (by decide), h1 3 (by decide), h1 2 (by decide), h1 1 (by decide), h1 0 (by decide)]
theorem nb_M_1_chk : (List.range 64).all (fun i => decide (nb_M i 1 = nb_e i)) = true := by decide +kernel
theorem nb_M_1 {i : Nat} (hi : i < 64) : nb_M i 1 = nb_e i := of_decide_eq_true (List.all_eq_true.mp nb_M_1_chk i (List.mem_range.mpr hi))
/-- a linear map that commutes with all is times its value at 1 -/
theorem nb_key {f : nb_F → nb_F} (hl : nb_lin f) (hf : nb_com f) (b : nb_F) : f b = nb_mul b (f 1) := by
  have h : ∀ n, n ≤ 64 → f (nb_cut n b) = nb_mulN n b (f 1) := by
    intro n
    induction n with
    | zero => intro _; rw [nb_cut_0, nb_lin0 hl]; rfl
    | succ n ih =>
      intro hn
      rw [nb_cut_succ, hl, ih (by omega)]
      simp only [nb_mulN]
      congr 1
      by_cases hx : b.getLsbD n = true
      · simp only [hx, if_true]; rw [← nb_M_1 (show n < 64 by omega)]; exact nb_com_M hf n 1
      · simp only [hx]; exact nb_lin0 hl
  have := h 64 (Nat.le_refl _)
  rwa [nb_cut_64] at this
theorem nb_mul_1 (a : nb_F) : nb_mul a 1 = a := (nb_key nb_idl (fun _ _ _ => rfl) a).symm
theorem nb_comm (a b : nb_F) : nb_mul a b = nb_mul b a := by
  have h := nb_key (nb_mul_lin a) (nb_mul_com' a) b
  rw [nb_mul_1] at h
  exact h
theorem nb_assoc (a b c : nb_F) : nb_mul (nb_mul a b) c = nb_mul a (nb_mul b c) := by
  have h := nb_key (nb_comp (nb_mul_lin a) (nb_mul_lin b)) (nb_com_comp (nb_mul_com' a) (nb_mul_com' b)) c
  rw [nb_mul_1] at h
  rw [h, nb_comm]
theorem nb_1_mul (a : nb_F) : nb_mul 1 a = a := by rw [nb_comm, nb_mul_1]
theorem nb_add_mul (a b c : nb_F) : nb_mul (a ^^^ b) c = nb_mul a c ^^^ nb_mul b c := by
  rw [nb_comm, nb_mul_lin c a b, nb_comm c a, nb_comm c b]
theorem nb_mul_add (a b c : nb_F) : nb_mul a (b ^^^ c) = nb_mul a b ^^^ nb_mul a c := nb_mul_lin a b c
theorem nb_mul_0 (a : nb_F) : nb_mul a 0 = 0 := nb_lin0 (nb_mul_lin a)
theorem nb_0_mul (a : nb_F) : nb_mul 0 a = 0 := by rw [nb_comm, nb_mul_0]
theorem nb_L_mul (k : Nat) (hk : k < 6) (x : nb_F) : nb_L k x = nb_mul (nb_e (2 ^ k)) x := by
  have h := nb_key (nb_L_lin k) (nb_L_com k hk) x
  rw [h, nb_comm]
  congr 1
  have : (List.range 6).all (fun k => decide (nb_L k 1 = nb_e (2 ^ k))) = true := by decide +kernel
  exact of_decide_eq_true (List.all_eq_true.mp this k (List.mem_range.mpr hk))
