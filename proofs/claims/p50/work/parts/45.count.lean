/-! how many bits -/
def pc : Nat → Nat → Nat
  | 0, _ => 0
  | f + 1, n => n % 2 + pc f (n / 2)
theorem pc_s (f n : Nat) : pc (f + 1) n = n % 2 + pc f (n / 2) := rfl
theorem pc_le : ∀ f n, pc f n ≤ f
  | 0, n => Nat.le_refl 0
  | f + 1, n => by have := pc_le f (n / 2); rw [pc_s]; omega
theorem pc_z : ∀ f, pc f 0 = 0
  | 0 => rfl
  | f + 1 => by rw [pc_s, Nat.zero_div, pc_z f]
theorem pc_pred : ∀ f n, 0 < n → n < 2 ^ f → pc f (n &&& (n - 1)) + 1 = pc f n
  | 0, n, h0, h => by rw [Nat.pow_zero] at h; omega
  | f + 1, n, h0, h => by
    rw [Nat.pow_succ] at h
    have d2 : (n &&& (n - 1)) / 2 = n / 2 &&& (n - 1) / 2 := Nat.and_div_two_pow (n := 1)
    have m2 : (n &&& (n - 1)) % 2 = (n % 2) &&& ((n - 1) % 2) := Nat.and_mod_two_pow (n := 1)
    rw [pc_s, pc_s, d2, m2]
    by_cases q : n % 2 = 1
    · have e1 : (n - 1) % 2 = 0 := by omega
      have e2 : (n - 1) / 2 = n / 2 := by omega
      rw [q, e1, e2, Nat.and_self]
      show 0 + _ + 1 = _
      omega
    · have e0 : n % 2 = 0 := by omega
      have e1 : (n - 1) % 2 = 1 := by omega
      have e2 : (n - 1) / 2 = n / 2 - 1 := by omega
      have ih := pc_pred f (n / 2) (by omega) (by omega)
      rw [e0, e1, e2]
      show 0 + _ + 1 = _
      omega
theorem pc_byte (f r q : Nat) (hr : r < 256) : pc (8 + f) (r + 256 * q) = pc 8 r + pc f q := by
  have e : 8 + f = f + 1 + 1 + 1 + 1 + 1 + 1 + 1 + 1 := by omega
  rw [e]
  simp only [pc_s]
  have h : (r + 256 * q) / 2 / 2 / 2 / 2 / 2 / 2 / 2 / 2 = q := by omega
  rw [h]
  simp only [pc]
  omega
/-! the library's way -/
/-- the same byte n times -/
def pc_M (c : Nat) : Nat → Nat
  | 0 => 0
  | n + 1 => c + 256 * pc_M c n
def pc_v : List Nat → Nat
  | [] => 0
  | r :: l => r + 256 * pc_v l
theorem pc_andS {r q c d : Nat} (hr : r < 256) (hc : c < 256) : (r + 256 * q) &&& (c + 256 * d) = (r &&& c) + 256 * (q &&& d) := by
  have h1 : ((r + 256 * q) &&& (c + 256 * d)) / 2 ^ 8 = (r + 256 * q) / 2 ^ 8 &&& (c + 256 * d) / 2 ^ 8 := Nat.and_div_two_pow
  have h2 : ((r + 256 * q) &&& (c + 256 * d)) % 2 ^ 8 = ((r + 256 * q) % 2 ^ 8) &&& ((c + 256 * d) % 2 ^ 8) := Nat.and_mod_two_pow
  rw [show (r + 256 * q) / 2 ^ 8 = q by omega, show (c + 256 * d) / 2 ^ 8 = d by omega] at h1
  rw [show (r + 256 * q) % 2 ^ 8 = r by omega, show (c + 256 * d) % 2 ^ 8 = c by omega] at h2
  have h3 : r &&& c ≤ r := Nat.and_le_left
  omega
def pc_A (m n : Nat) : Nat := n - (n / 2 &&& m)
def pc_B (m n : Nat) : Nat := (n &&& m) + (n / 4 &&& m)
def pc_C (m n : Nat) : Nat := (n + n / 16) &&& m
theorem pc_chk : (List.range 256).all (fun r => decide (pc_A 85 r < 256 ∧ pc_B 51 (pc_A 85 r) ≤ 68 ∧ pc_B 51 (pc_A 85 r) % 16 ≤ 4 ∧ pc_C 15 (pc_B 51 (pc_A 85 r)) = pc 8 r ∧ ((r / 2) &&& 85) ≤ r ∧ ((r / 2 + 128) &&& 85) = ((r / 2) &&& 85))) = true := by decide +kernel
theorem pc_chk1 {r : Nat} (h : r < 256) : pc_A 85 r < 256 ∧ pc_B 51 (pc_A 85 r) ≤ 68 ∧ pc_B 51 (pc_A 85 r) % 16 ≤ 4 ∧ pc_C 15 (pc_B 51 (pc_A 85 r)) = pc 8 r ∧ ((r / 2) &&& 85) ≤ r ∧ ((r / 2 + 128) &&& 85) = ((r / 2) &&& 85) := of_decide_eq_true (List.all_eq_true.mp pc_chk r (List.mem_range.mpr h))
theorem pc_chkB : (List.range 256).all (fun a => (List.range 4).all (fun k => decide (((a / 4 + 64 * k) &&& 51) = ((a / 4) &&& 51)))) = true := by decide +kernel
theorem pc_chkC : (List.range 69).all (fun b => (List.range 5).all (fun k => decide (((b + b / 16 + 16 * k) &&& 15) = ((b + b / 16) &&& 15)))) = true := by decide +kernel
theorem pc_A_s {r q m : Nat} (hr : r < 256) (hq : (q / 2 &&& m) ≤ q) : pc_A (85 + 256 * m) (r + 256 * q) = pc_A 85 r + 256 * pc_A m q := by
  unfold pc_A
  obtain ⟨-, -, -, -, c5, c6⟩ := pc_chk1 hr
  have e : (r + 256 * q) / 2 = (r / 2 + 128 * (q % 2)) + 256 * (q / 2) := by omega
  rw [e, pc_andS (by omega) (by omega)]
  have e2 : (r / 2 + 128 * (q % 2)) &&& 85 = (r / 2) &&& 85 := by
    by_cases h : q % 2 = 0
    · rw [h, Nat.mul_zero, Nat.add_zero]
    · rw [show q % 2 = 1 by omega]; exact c6
  rw [e2]
  omega
theorem pc_B_s {a b m : Nat} (ha : a < 256) : pc_B (51 + 256 * m) (a + 256 * b) = pc_B 51 a + 256 * pc_B m b := by
  unfold pc_B
  have e : (a + 256 * b) / 4 = (a / 4 + 64 * (b % 4)) + 256 * (b / 4) := by omega
  have c := of_decide_eq_true (List.all_eq_true.mp (List.all_eq_true.mp pc_chkB a (List.mem_range.mpr ha)) (b % 4) (List.mem_range.mpr (by omega)))
  rw [e, pc_andS ha (by omega), pc_andS (by omega) (by omega), c]
  omega
theorem pc_C_s {a b m : Nat} (ha : a ≤ 68) (hb : b % 16 ≤ 4) : pc_C (15 + 256 * m) (a + 256 * b) = pc_C 15 a + 256 * pc_C m b := by
  unfold pc_C
  have e : (a + 256 * b) + (a + 256 * b) / 16 = (a + a / 16 + 16 * (b % 16)) + 256 * (b + b / 16) := by omega
  have c := of_decide_eq_true (List.all_eq_true.mp (List.all_eq_true.mp pc_chkC a (List.mem_range.mpr (by omega))) (b % 16) (List.mem_range.mpr (by omega)))
  rw [e, pc_andS (by omega) (by omega), c]
theorem pc_all : ∀ l : List Nat, (∀ r ∈ l, r < 256) → (pc_v l / 2 &&& pc_M 85 l.length) ≤ pc_v l ∧ pc_B (pc_M 51 l.length) (pc_A (pc_M 85 l.length) (pc_v l)) % 16 ≤ 4 ∧ pc_C (pc_M 15 l.length) (pc_B (pc_M 51 l.length) (pc_A (pc_M 85 l.length) (pc_v l))) = pc_v (l.map (pc 8))
  | [], _ => by decide
  | r :: l, h => by
    obtain ⟨i1, i2, i3⟩ := pc_all l (fun x hx => h x (List.mem_cons_of_mem _ hx))
    have hr := h r List.mem_cons_self
    obtain ⟨c1, c2, c3, c4, c5, c6⟩ := pc_chk1 hr
    have eA : pc_A (pc_M 85 (r :: l).length) (pc_v (r :: l)) = pc_A 85 r + 256 * pc_A (pc_M 85 l.length) (pc_v l) := pc_A_s hr i1
    have eB : pc_B (pc_M 51 (r :: l).length) (pc_A 85 r + 256 * pc_A (pc_M 85 l.length) (pc_v l)) = pc_B 51 (pc_A 85 r) + 256 * pc_B (pc_M 51 l.length) (pc_A (pc_M 85 l.length) (pc_v l)) := pc_B_s c1
    have eC : pc_C (pc_M 15 (r :: l).length) (pc_B 51 (pc_A 85 r) + 256 * pc_B (pc_M 51 l.length) (pc_A (pc_M 85 l.length) (pc_v l))) = pc_C 15 (pc_B 51 (pc_A 85 r)) + 256 * pc_C (pc_M 15 l.length) (pc_B (pc_M 51 l.length) (pc_A (pc_M 85 l.length) (pc_v l))) := pc_C_s c2 i2
    refine ⟨?_, ?_, ?_⟩
    · show ((r + 256 * pc_v l) / 2 &&& (85 + 256 * pc_M 85 l.length)) ≤ r + 256 * pc_v l
      have h3 : ((r + 256 * pc_v l) / 2 &&& (85 + 256 * pc_M 85 l.length)) ≤ (r + 256 * pc_v l) / 2 := Nat.and_le_left
      omega
    · rw [eA, eB]
      omega
    · rw [eA, eB, eC, c4, i3]
      rfl
theorem pc_bytes (n : Nat) (h : n < 2 ^ 64) : ∃ a b c d e f g k : Nat, a < 256 ∧ b < 256 ∧ c < 256 ∧ d < 256 ∧ e < 256 ∧ f < 256 ∧ g < 256 ∧ k < 256 ∧ n = pc_v [a, b, c, d, e, f, g, k] := by
  refine ⟨n % 256, n / 256 % 256, n / 256 / 256 % 256, n / 256 / 256 / 256 % 256, n / 256 / 256 / 256 / 256 % 256, n / 256 / 256 / 256 / 256 / 256 % 256, n / 256 / 256 / 256 / 256 / 256 / 256 % 256, n / 256 / 256 / 256 / 256 / 256 / 256 / 256, ?_, ?_, ?_, ?_, ?_, ?_, ?_, ?_, ?_⟩
  · omega
  · omega
  · omega
  · omega
  · omega
  · omega
  · omega
  · omega
  · show n = n % 256 + 256 * (n / 256 % 256 + 256 * (n / 256 / 256 % 256 + 256 * (n / 256 / 256 / 256 % 256 + 256 * (n / 256 / 256 / 256 / 256 % 256 + 256 * (n / 256 / 256 / 256 / 256 / 256 % 256 + 256 * (n / 256 / 256 / 256 / 256 / 256 / 256 % 256 + 256 * (n / 256 / 256 / 256 / 256 / 256 / 256 / 256 + 256 * 0)))))))
    omega
/-- the library's steps over numbers -/
def pc_L (n : Nat) : Nat :=
  (pc_C 1085102592571150095 (pc_B 3689348814741910323 (pc_A 6148914691236517205 n)))
theorem pc_L_eq (n : Nat) (h : n < 2 ^ 64) : ∃ a b c d e f g k : Nat, a ≤ 8 ∧ b ≤ 8 ∧ c ≤ 8 ∧ d ≤ 8 ∧ e ≤ 8 ∧ f ≤ 8 ∧ g ≤ 8 ∧ k ≤ 8 ∧ pc_L n = pc_v [a, b, c, d, e, f, g, k] ∧ pc 64 n = a + b + c + d + e + f + g + k := by
  obtain ⟨a, b, c, d, e, f, g, k, h1, h2, h3, h4, h5, h6, h7, h8, hn⟩ := pc_bytes n h
  refine ⟨pc 8 a, pc 8 b, pc 8 c, pc 8 d, pc 8 e, pc 8 f, pc 8 g, pc 8 k, pc_le 8 a, pc_le 8 b, pc_le 8 c, pc_le 8 d, pc_le 8 e, pc_le 8 f, pc_le 8 g, pc_le 8 k, ?_, ?_⟩
  · have := (pc_all [a, b, c, d, e, f, g, k] (by simp only [List.mem_cons, List.not_mem_nil, or_false]; rintro r (rfl | rfl | rfl | rfl | rfl | rfl | rfl | rfl) <;> assumption)).2.2
    rw [hn]
    exact this
  · rw [hn]
    have ek : ∀ k, pc_v [k] = k + 256 * 0 := fun k => rfl
    show pc (8 + 56) (a + 256 * pc_v [b, c, d, e, f, g, k]) = _
    rw [pc_byte 56 a _ h1]
    show _ + pc (8 + 48) (b + 256 * pc_v [c, d, e, f, g, k]) = _
    rw [pc_byte 48 b _ h2]
    show _ + (_ + pc (8 + 40) (c + 256 * pc_v [d, e, f, g, k])) = _
    rw [pc_byte 40 c _ h3]
    show _ + (_ + (_ + pc (8 + 32) (d + 256 * pc_v [e, f, g, k]))) = _
    rw [pc_byte 32 d _ h4]
    show _ + (_ + (_ + (_ + pc (8 + 24) (e + 256 * pc_v [f, g, k])))) = _
    rw [pc_byte 24 e _ h5]
    show _ + (_ + (_ + (_ + (_ + pc (8 + 16) (f + 256 * pc_v [g, k]))))) = _
    rw [pc_byte 16 f _ h6]
    show _ + (_ + (_ + (_ + (_ + (_ + pc (8 + 8) (g + 256 * pc_v [k])))))) = _
    rw [pc_byte 8 g _ h7]
    have e8 : pc 8 (pc_v [k]) = pc 8 k := by rw [ek, Nat.mul_zero, Nat.add_zero]
    rw [e8]
    omega
theorem pc_fold {a b c d e f g k : Nat} (h1 : a ≤ 8) (h2 : b ≤ 8) (h3 : c ≤ 8) (h4 : d ≤ 8) (h5 : e ≤ 8) (h6 : f ≤ 8) (h7 : g ≤ 8) (h8 : k ≤ 8) (C D E : Nat) (hC : C = pc_v [a, b, c, d, e, f, g, k]) (hD : D = C + C / 256) (hE : E = D + D / 65536) : E + E / 4294967296 < 2 ^ 64 ∧ (E + E / 4294967296) % 128 = a + b + c + d + e + f + g + k := by
  have eC : C = a + 256 * b + 65536 * c + 16777216 * d + 4294967296 * e + 1099511627776 * f + 281474976710656 * g + 72057594037927936 * k := by
    rw [hC]
    simp only [pc_v]
    omega
  have eD : D = (a + b) + 256 * (b + c) + 65536 * (c + d) + 16777216 * (d + e) + 4294967296 * (e + f) + 1099511627776 * (f + g) + 281474976710656 * (g + k) + 72057594037927936 * k := by omega
  have eE : E = (a + b + c + d) + 256 * (b + c + d + e) + 65536 * (c + d + e + f) + 16777216 * (d + e + f + g) + 4294967296 * (e + f + g + k) + 1099511627776 * (f + g + k) + 281474976710656 * (g + k) + 72057594037927936 * k := by omega
  have eF : E / 4294967296 = (e + f + g + k) + 256 * (f + g + k) + 65536 * (g + k) + 16777216 * k := by clear hD hE hC eC eD; omega
  rw [eF, eE]
  clear hD hE hC eC eD eE eF
  omega
