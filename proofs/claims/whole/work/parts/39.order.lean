/-! orders -/
theorem nb_pow_1 {x : nb_F} (p : Nat) (h : nb_pow p x = 1) (q : Nat) : nb_pow (p * q) x = 1 := by rw [← nb_pow_pow, h, nb_one_pow]
theorem nb_pow_dvd {x : nb_F} {a b : Nat} (h : nb_pow a x = 1) (hd : a ∣ b) : nb_pow b x = 1 := by
  obtain ⟨q, rfl⟩ := hd
  exact nb_pow_1 a h q
theorem nb_pow_gcd {x : nb_F} (a b : Nat) : nb_pow a x = 1 → nb_pow b x = 1 → nb_pow (Nat.gcd a b) x = 1 := by
  induction a, b using Nat.gcd.induction with
  | H0 n =>
    intro _ h
    rw [Nat.gcd_zero_left]
    exact h
  | H1 a b ha ih =>
    intro h1 h2
    rw [Nat.gcd_rec]
    refine ih ?_ h1
    have e : b % a + a * (b / a) = b := Nat.mod_add_div b a
    rw [← e, nb_pow_add, nb_pow_1 a h1, nb_mul_1] at h2
    exact h2
theorem nb_pow_lev {k : Nat} (hk : k < 7) {x : nb_F} (hx : nb_in k x) (h0 : x ≠ 0) : nb_pow (2 ^ (2 ^ k) - 1) x = 1 := by
  have h1 : nb_pow (2 ^ (2 ^ k)) x = x := by rw [nb_pow_sqN, nb_frob k hk x hx]
  have h3 : 0 < 2 ^ (2 ^ k) := Nat.pow_pos (by decide)
  generalize 2 ^ (2 ^ k) = n at h1 h3
  obtain ⟨p, rfl⟩ : ∃ p, n = p + 1 := ⟨n - 1, by omega⟩
  rw [nb_pow_s] at h1
  have h2 : nb_mul (nb_pow p x ^^^ 1) x = 0 := by rw [nb_add_mul, nb_1_mul, h1, nb_xx]
  rcases nb_nz h2 with q | q
  · rw [Nat.add_sub_cancel]; exact nb_x_eq q
  · exact absurd q h0
/-- the model's primes -/
def nq (k : Nat) : Nat := [3, 5, 17, 257, 641, 65537, 6700417].getD k 1
def nq_N : Nat := 18446744073709551615
def np_ok (m : qm_M) : Prop := ∀ k, k < 7 → m.2 118 k = bn (BitVec.ofNat 64 (nq k))
/-- the product of the primes of a set, the first n of them -/
def nq_mk (s : Nat) : Nat → Nat
  | 0 => 1
  | i + 1 => if s.testBit i then nq_mk s i * nq i else nq_mk s i
def nq_rm (s k : Nat) : Nat := if s.testBit k then s - 2 ^ k else s
theorem nq_rm_mask {s k : Nat} (hs : s < 128) (hk : k < 7) : nI s &&& (qo_ishl 1 (nI k) ^^^ -1) = nI (nq_rm s k) := by
  have c : (List.range 128).all (fun s => (List.range 7).all (fun k => decide (nI s &&& (qo_ishl 1 (nI k) ^^^ -1) = nI (nq_rm s k)))) = true := by decide +kernel
  exact of_decide_eq_true (List.all_eq_true.mp (List.all_eq_true.mp c s (List.mem_range.mpr hs)) k (List.mem_range.mpr hk))
theorem nq_rm_chk : (List.range 128).all (fun s => (List.range 7).all (fun k => Nat.blt (nq_rm s k) 128 && (List.range 7).all (fun j => decide ((nq_rm s k).testBit j = (s.testBit j && !Nat.beq j k))) && (!s.testBit k || Nat.beq (Nat.gcd (nq_N / nq k) (nq_mk s 7)) (nq_mk (nq_rm s k) 7)))) = true := by decide +kernel
theorem nq_rm_ok {s k : Nat} (hs : s < 128) (hk : k < 7) : nq_rm s k < 128 ∧ (∀ j, j < 7 → (nq_rm s k).testBit j = (s.testBit j && !Nat.beq j k)) ∧ (s.testBit k = true → Nat.gcd (nq_N / nq k) (nq_mk s 7) = nq_mk (nq_rm s k) 7) := by
  have c := List.all_eq_true.mp (List.all_eq_true.mp nq_rm_chk s (List.mem_range.mpr hs)) k (List.mem_range.mpr hk)
  obtain ⟨c1, c3⟩ := Bool.and_eq_true_iff.mp c
  obtain ⟨c1, c2⟩ := Bool.and_eq_true_iff.mp c1
  refine ⟨Nat.le_of_ble_eq_true c1, fun j hj => of_decide_eq_true (List.all_eq_true.mp c2 j (List.mem_range.mpr hj)), fun q => ?_⟩
  rcases Bool.or_eq_true_iff.mp c3 with z | z
  · rw [q] at z; cases z
  · exact Nat.eq_of_beq_eq_true z
/-- what is left of the set after k primes -/
def nq_S (x : nb_F) : Nat → Nat
  | 0 => 127
  | k + 1 => if nb_pow (nq_mk (nq_rm (nq_S x k) k) 7) x = 1 then nq_rm (nq_S x k) k else nq_S x k
theorem nq_S_s (x : nb_F) (k : Nat) : nq_S x (k + 1) = if nb_pow (nq_mk (nq_rm (nq_S x k) k) 7) x = 1 then nq_rm (nq_S x k) k else nq_S x k := rfl
theorem nq_S_ok {x : nb_F} (h0 : x ≠ 0) : ∀ k, k ≤ 7 → nq_S x k < 128 ∧ nb_pow (nq_mk (nq_S x k) 7) x = 1 ∧ (∀ j, j < k → ((nq_S x k).testBit j = true ↔ ¬ nb_pow (nq_N / nq j) x = 1)) ∧ ∀ j, k ≤ j → j < 7 → (nq_S x k).testBit j = true
  | 0, _ => by
    refine ⟨by show 127 < 128; decide, ?_, fun j hj => absurd hj (Nat.not_lt_zero _), fun j _ h7 => ?_⟩
    · have e : nq_mk (nq_S x 0) 7 = 2 ^ (2 ^ 6) - 1 := by show nq_mk 127 7 = _; decide +kernel
      rw [e]
      exact nb_pow_lev (by decide) (nb_in6 x) h0
    · show (127 : Nat).testBit j = true
      have c : (List.range 7).all (fun j => (127 : Nat).testBit j) = true := by decide +kernel
      exact List.all_eq_true.mp c j (List.mem_range.mpr h7)
  | k + 1, hk => by
    obtain ⟨i1, i2, i3, i4⟩ := nq_S_ok h0 k (by omega)
    obtain ⟨r1, r2, r3⟩ := nq_rm_ok i1 (k := k) (by omega)
    have r4 := r3 (i4 k (Nat.le_refl _) (by omega))
    rw [nq_S_s]
    by_cases h : nb_pow (nq_mk (nq_rm (nq_S x k) k) 7) x = 1
    · rw [if_pos h]
      refine ⟨r1, h, fun j hj => ?_, fun j h1 h7 => ?_⟩
      · rw [r2 j (by omega)]
        by_cases q : j = k
        · have hN : nb_pow (nq_N / nq k) x = 1 := nb_pow_dvd h (by rw [← r4]; exact Nat.gcd_dvd_left _ _)
          subst q
          have e : Nat.beq j j = true := Nat.beq_refl j
          simp [e, hN]
        · have e : Nat.beq j k = false := by
            cases hb : Nat.beq j k with
            | true => exact absurd (Nat.eq_of_beq_eq_true hb) q
            | false => rfl
          rw [e, Bool.not_false, Bool.and_true]
          exact i3 j (by omega)
      · have e : Nat.beq j k = false := by
          cases hb : Nat.beq j k with
          | true => have := Nat.eq_of_beq_eq_true hb; omega
          | false => rfl
        rw [r2 j h7, i4 j (by omega) h7, e]
        rfl
    · rw [if_neg h]
      refine ⟨i1, i2, fun j hj => ?_, fun j h1 h7 => i4 j (by omega) h7⟩
      by_cases q : j = k
      · subst q
        rw [i4 j (Nat.le_refl _) (by omega)]
        exact ⟨fun _ z => h (by rw [← r4]; exact nb_pow_gcd _ _ z i2), fun _ => rfl⟩
      · exact i3 j (by omega)
theorem nq_le {s : Nat} (hs : s < 128) {i : Nat} (hi : i ≤ 7) : nq_mk s i < 2 ^ 64 := by
  have c : (List.range 128).all (fun s => (List.range 8).all (fun i => Nat.blt (nq_mk s i) (2 ^ 64))) = true := by decide +kernel
  exact Nat.le_of_ble_eq_true (List.all_eq_true.mp (List.all_eq_true.mp c s (List.mem_range.mpr hs)) i (List.mem_range.mpr (by omega)))
theorem mt_hasI {s k : Nat} (hs : s < 128) (hk : k < 7) (m : qm_M) : F_M_has (nI s).toInt64 (nI k) m = some (some (.int (if s.testBit k = true then 1 else 0)), m) := by
  rw [mt_has _ (by omega), nI_l (by omega)]
  have e : (nb (lN s)).getLsbD k = s.testBit k := by
    show (BitVec.ofNat 64 s).getLsbD k = _
    rw [BitVec.getLsbD_ofNat]
    simp [show k < 64 by omega]
  rw [e]
theorem bn_ofNat_mul (a b : Nat) : bn (BitVec.ofNat 64 a) * bn (BitVec.ofNat 64 b) = bn (BitVec.ofNat 64 (a * b)) := by
  apply nb_inj
  show BitVec.ofNat 64 a * BitVec.ofNat 64 b = BitVec.ofNat 64 (a * b)
  rw [BitVec.ofNat_mul]
theorem mt_made_loop {m : qm_M} (hp : np_ok m) {s : Nat} (hs : s < 128) (d : Nat) : ∀ (f i : Nat), 7 - i = d → i ≤ 7 → d < f → L_M_madeOf_5 f (nI s) (bn (BitVec.ofNat 64 (nq_mk s i))) (nI i) m = some (some (.long (bn (BitVec.ofNat 64 (nq_mk s 7)))), m) := by
  induction d with
  | zero =>
    intro f i h1 h2 h3
    obtain ⟨f, rfl⟩ : ∃ g, f = g + 1 := ⟨f - 1, by omega⟩
    have e : i = 7 := by omega
    subst e
    show X_M_madeOf_5 _ _ _ _ _ _ = _
    unfold X_M_madeOf_5
    rw [if_neg (by decide)]
  | succ d ih =>
    intro f i h1 h2 h3
    obtain ⟨f, rfl⟩ : ∃ g, f = g + 1 := ⟨f - 1, by omega⟩
    show X_M_madeOf_5 _ _ _ _ _ _ = _
    unfold X_M_madeOf_5
    have e1 : nI i < (7 : Int32) := nI_lt (a := i) (b := 7) (by omega) (by omega)
    have ih2 := ih f (i + 1) (by omega) (by omega) (by omega)
    rw [if_pos e1, mt_hasI hs (by omega)]
    dsimp only [qe_rI]
    rw [nI_1]
    by_cases q : s.testBit i = true
    · rw [show nq_mk s (i + 1) = nq_mk s i * nq i by simp only [nq_mk, q, if_true]] at ih2
      rw [if_pos q, if_neg (by decide), qm_in_nI (by omega) (by omega), nI_clamp (by omega), hp i (by omega), bn_ofNat_mul]
      exact ih2
    · rw [show nq_mk s (i + 1) = nq_mk s i by simp only [nq_mk, q]; rfl] at ih2
      rw [if_neg q, if_pos rfl]
      exact ih2
theorem mt_madeOf {m : qm_M} (hp : np_ok m) {s : Nat} (hs : s < 128) : F_M_madeOf (nI s) m = some (some (.long (bn (BitVec.ofNat 64 (nq_mk s 7)))), m) := by
  unfold F_M_madeOf X_M_madeOf_e
  exact mt_made_loop hp hs 7 1000000 0 rfl (by omega) (by omega)
theorem mt_order_loop {m : qm_M} (hm : nt_ok 64 m) (hp : np_ok m) {x : nb_F} (h0 : x ≠ 0) (d : Nat) : ∀ (f i : Nat), 7 - i = d → i ≤ 7 → d < f → L_M_order_14 f (bn x) (nI (nq_S x i)) (nI i) m = some (some (.long (bn (BitVec.ofNat 64 (nq_mk (nq_S x 7) 7)))), m) := by
  induction d with
  | zero =>
    intro f i h1 h2 h3
    obtain ⟨f, rfl⟩ : ∃ g, f = g + 1 := ⟨f - 1, by omega⟩
    have e : i = 7 := by omega
    subst e
    show X_M_order_14 _ _ _ _ _ _ _ = _
    unfold X_M_order_14
    rw [if_neg (by decide), mt_madeOf hp (nq_S_ok h0 7 (by omega)).1]
    rfl
  | succ d ih =>
    intro f i h1 h2 h3
    obtain ⟨f, rfl⟩ : ∃ g, f = g + 1 := ⟨f - 1, by omega⟩
    show X_M_order_14 _ _ _ _ _ _ _ = _
    unfold X_M_order_14
    have e1 : nI i < (7 : Int32) := nI_lt (a := i) (b := 7) (by omega) (by omega)
    have ih2 := ih f (i + 1) (by omega) (by omega) (by omega)
    have hS := (nq_S_ok h0 i (by omega)).1
    have hR := (nq_rm_ok hS (k := i) (by omega)).1
    rw [if_pos e1, nq_rm_mask hS (by omega), mt_madeOf hp hR]
    dsimp only [qe_rL]
    rw [mt_powerOf hm, nb_bn, nb_bn]
    dsimp only [qe_rL]
    rw [BitVec.toNat_ofNat, Nat.mod_eq_of_lt (nq_le hR (by omega)), nI_1]
    rw [nq_S_s] at ih2
    by_cases q : nb_pow (nq_mk (nq_rm (nq_S x i) i) 7) x = 1
    · rw [if_pos q] at ih2
      have c : lg_cmp (bn (nb_pow (nq_mk (nq_rm (nq_S x i) i) 7) x)) 1 = 0 := (no_cmpo _).mpr q
      rw [if_pos c]
      exact ih2
    · rw [if_neg q] at ih2
      have c : ¬ lg_cmp (bn (nb_pow (nq_mk (nq_rm (nq_S x i) i) 7) x)) 1 = 0 := fun z => q ((no_cmpo _).mp z)
      rw [if_neg c]
      exact ih2
/-! the class's is the same -/
/-- the class's places of the primes -/
def nq_p (i : Nat) : Nat := if i = 4 then 5 else if i = 5 then 4 else i
def nq_cl (b : Nat → Bool) : Nat → Int64
  | 0 => 1
  | i + 1 => if b i then nq_cl b i * bn (BitVec.ofNat 64 (nw_p i)) else nq_cl b i
theorem nq_cl_c {b c : Nat → Bool} : ∀ n, (∀ i, i < n → b i = c i) → nq_cl b n = nq_cl c n
  | 0, _ => rfl
  | n + 1, h => by
    simp only [nq_cl]
    rw [h n (by omega), nq_cl_c n (fun i hi => h i (by omega))]
theorem nq_cl_up {b : Nat → Bool} (n : Nat) : ∀ k, (∀ i, n ≤ i → i < n + k → b i = false) → nq_cl b (n + k) = nq_cl b n
  | 0, _ => rfl
  | k + 1, h => by
    show nq_cl b (n + k + 1) = _
    simp only [nq_cl]
    rw [h (n + k) (by omega) (by omega)]
    exact nq_cl_up n k (fun i h1 h2 => h i h1 (by omega))
theorem nq_cl_all {s : Nat} (hs : s < 128) : nq_cl (fun i => s.testBit (nq_p i)) 7 = bn (BitVec.ofNat 64 (nq_mk s 7)) := by
  have c : (List.range 128).all (fun s => decide (nq_cl (fun i => s.testBit (nq_p i)) 7 = bn (BitVec.ofNat 64 (nq_mk s 7)))) = true := by decide +kernel
  exact of_decide_eq_true (List.all_eq_true.mp c s (List.mem_range.mpr hs))
/-- the product of a level's primes -/
def nw_all : Nat → Nat
  | 0 => 1
  | i + 1 => nw_all i * nw_p i
theorem nw_chk : (List.range 7).all (fun k => Nat.beq (nw_all (nw_pn k)) (2 ^ (2 ^ k) - 1) && (List.range 7).all (fun i => bif Nat.blt i (nw_pn k) then Nat.beq (Nat.gcd (nq_N / nq (nq_p i)) (nw_all (nw_pn k))) (nw_wo i (nw_pn k)) else Nat.beq (nq_N / nq (nq_p i) % nw_all (nw_pn k)) 0)) = true := by decide +kernel
theorem nw_wo_iff {k : Nat} (hk : k < 7) {x : nb_F} (hx : nb_in k x) (h0 : x ≠ 0) {i : Nat} (hi : i < 7) : (i < nw_pn k → (nb_pow (nw_wo i (nw_pn k)) x = 1 ↔ nb_pow (nq_N / nq (nq_p i)) x = 1)) ∧ (nw_pn k ≤ i → nb_pow (nq_N / nq (nq_p i)) x = 1) := by
  have c := List.all_eq_true.mp nw_chk k (List.mem_range.mpr hk)
  obtain ⟨c1, c2⟩ := Bool.and_eq_true_iff.mp c
  have c3 := List.all_eq_true.mp c2 i (List.mem_range.mpr hi)
  have hN := nb_pow_lev hk hx h0
  rw [← Nat.eq_of_beq_eq_true c1] at hN
  constructor
  · intro hl
    have e : Nat.blt i (nw_pn k) = true := Nat.ble_eq_true_of_le hl
    rw [e, cond_true] at c3
    have g := Nat.eq_of_beq_eq_true c3
    constructor
    · intro h
      exact nb_pow_dvd h (by rw [← g]; exact Nat.gcd_dvd_left _ _)
    · intro h
      rw [← g]
      exact nb_pow_gcd _ _ h hN
  · intro hl
    have e : Nat.blt i (nw_pn k) = false := by
      cases hb : Nat.blt i (nw_pn k) with
      | true => have := Nat.le_of_ble_eq_true hb; omega
      | false => rfl
    rw [e, cond_false] at c3
    exact nb_pow_dvd hN (Nat.dvd_of_mod_eq_zero (Nat.eq_of_beq_eq_true c3))
theorem nw_ord_cl (n : Nat) (x : nb_F) : ∀ i, nw_ord n x i = nq_cl (fun i => decide (¬ nb_pow (nw_wo i n) x = 1)) i
  | 0 => rfl
  | i + 1 => by
    rw [nw_ord_s, nw_ord_cl n x i]
    simp only [nq_cl]
    by_cases h : nb_pow (nw_wo i n) x = 1
    · rw [if_pos h, if_neg (fun z : decide (¬ nb_pow (nw_wo i n) x = 1) = true => (of_decide_eq_true z : ¬ nb_pow (nw_wo i n) x = 1) h)]
    · rw [if_neg h, if_pos (decide_eq_true h)]
/-- the class's order is the model's -/
theorem nw_ord_eq {k : Nat} (hk : k < 7) {x : nb_F} (hx : nb_in k x) (h0 : x ≠ 0) : nw_ord (nw_pn k) x (nw_pn k) = bn (BitVec.ofNat 64 (nq_mk (nq_S x 7) 7)) := by
  obtain ⟨s1, s2, s3, -⟩ := nq_S_ok h0 7 (by omega)
  have hp : ∀ i, i < 7 → nq_p i < 7 := fun i hi => by unfold nq_p; split; omega; split <;> omega
  rw [nw_ord_cl, ← nq_cl_all s1]
  have h7 := nw_pn_le k
  have e1 : nq_cl (fun i => (nq_S x 7).testBit (nq_p i)) (nw_pn k + (7 - nw_pn k)) = nq_cl (fun i => (nq_S x 7).testBit (nq_p i)) (nw_pn k) := nq_cl_up _ _ (fun i h1 h2 => by
    have h3 := (nw_wo_iff hk hx h0 (i := i) (by omega)).2 h1
    have h4 := s3 (nq_p i) (hp i (by omega))
    cases hb : (nq_S x 7).testBit (nq_p i) with
    | true => exact absurd h3 (h4.mp hb)
    | false => rfl)
  rw [show nw_pn k + (7 - nw_pn k) = 7 by omega] at e1
  rw [e1]
  refine nq_cl_c _ (fun i hi => ?_)
  have h3 := (nw_wo_iff hk hx h0 (i := i) (by omega)).1 hi
  have h4 := s3 (nq_p i) (hp i (by omega))
  by_cases q : nb_pow (nw_wo i (nw_pn k)) x = 1
  · have h5 : ¬ (nq_S x 7).testBit (nq_p i) = true := fun z => h4.mp z (h3.mp q)
    simp only [q, not_true, decide_false]
    simpa using h5
  · have h5 : (nq_S x 7).testBit (nq_p i) = true := h4.mpr (fun z => q (h3.mpr z))
    simp only [q, not_false_iff, decide_true]
    exact h5.symm
/-- the order -/
def nw_order (x : nb_F) : Int64 := if x = 0 then 0 else bn (BitVec.ofNat 64 (nq_mk (nq_S x 7) 7))
theorem nu_orderOfE (x : Int64) (m : qm_M) : F_Nu_orderOf x m = some (some (.long (nw_order (nb x))), m) := by
  rw [nu_orderOf]
  unfold nw_order
  by_cases h : nb x = 0
  · rw [if_pos h, if_pos h]
  · rw [if_neg h, if_neg h, nw_ord_eq (nb_lev_lt _) (nb_lev_in _) h]
theorem tw_order (x : Int64) (m : qm_M) : F_T_order x m = some (some (.long (nw_order (nb x))), m) := by
  unfold F_T_order X_T_order_e
  rw [nu_orderOfE]
  rfl
theorem mw_order {m : qm_M} (hm : nt_ok 64 m) (hp : np_ok m) (x : Int64) : F_M_order x m = some (some (.long (nw_order (nb x))), m) := by
  unfold F_M_order X_M_order_e nw_order
  by_cases h : nb x = 0
  · rw [if_pos ((no_cmpz x).mpr h), if_pos h]
  · rw [if_neg (fun z => h ((no_cmpz x).mp z)), if_neg h]
    exact mt_order_loop hm hp h 7 1000000 0 rfl (by omega) (by omega)
