/-! how long games last -/
theorem le_Le_measured_30 (K7 : Int32 → Int32 → Int32 → Int32 → qm_M → Option qm_R) (n : Nat) (v1 : Int32) (v2 : Int32) (v3 : Int32) (v4 : Int32) (v5 : Int32) (m : qm_M) : L_Le_measured_30 K7 (n + 1) v1 v2 v3 v4 v5 m = X_Le_measured_30 K7 (L_Le_measured_30 K7 n) v1 v2 v3 v4 v5 m := rfl
theorem le_Le_measured_7  (n : Nat) (v1 : Int32) (v2 : Int32) (v3 : Int32) (v4 : Int32) (m : qm_M) : L_Le_measured_7 (n + 1) v1 v2 v3 v4 m = X_Le_measured_7 (L_Le_measured_30 (L_Le_measured_7 n) 1000000) v1 v2 v3 v4 m := rfl
def stp (w : Nat × Nat) (x : Nat) : Nat × Nat := if x % 2 = 0 then (w.1, max w.2 x) else (if w.1 = 0 then x else min w.1 x, w.2)
def fd (l : List Nat) (w : Nat × Nat) : Nat × Nat := l.foldl stp w
def fin (w : Nat × Nat) : Nat := if 0 < w.1 then w.1 else w.2
theorem fd_app (l k : List Nat) (w : Nat × Nat) : fd (l ++ k) w = fd k (fd l w) := List.foldl_append
theorem fd_1 (x : Nat) (w : Nat × Nat) : fd [x] w = stp w x := rfl
theorem fd_le {M : Nat} : ∀ (l : List Nat) (w : Nat × Nat), (∀ x, x ∈ l → x ≤ M) → w.1 ≤ M → w.2 ≤ M → (fd l w).1 ≤ M ∧ (fd l w).2 ≤ M
  | [], w, _, h1, h2 => ⟨h1, h2⟩
  | x :: l, w, h, h1, h2 => by
    have hx := h x List.mem_cons_self
    refine fd_le l (stp w x) (fun y hy => h y (List.mem_cons_of_mem _ hy)) ?_ ?_
    · unfold stp
      split
      · exact h1
      · show (if w.1 = 0 then x else min w.1 x) ≤ M
        split
        · exact hx
        · omega
    · unfold stp
      split
      · show max w.2 x ≤ M
        omega
      · exact h2
theorem fd_par : ∀ (l : List Nat) (w : Nat × Nat), (w.1 = 0 ∨ w.1 % 2 = 1) → w.2 % 2 = 0 → ((fd l w).1 = 0 ∨ (fd l w).1 % 2 = 1) ∧ (fd l w).2 % 2 = 0
  | [], w, h1, h2 => ⟨h1, h2⟩
  | x :: l, w, h1, h2 => by
    refine fd_par l (stp w x) ?_ ?_
    · unfold stp
      split
      · exact h1
      · show (if w.1 = 0 then x else min w.1 x) = 0 ∨ (if w.1 = 0 then x else min w.1 x) % 2 = 1
        split
        · omega
        · rcases Nat.le_total w.1 x with z | z
          · rw [Nat.min_eq_left z]; exact h1
          · rw [Nat.min_eq_right z]; omega
    · unfold stp
      split
      · show max w.2 x % 2 = 0
        rcases Nat.le_total w.2 x with z | z
        · rw [Nat.max_eq_right z]; assumption
        · rw [Nat.max_eq_left z]; exact h2
      · exact h2
def mxl (l : List Nat) : Nat := l.foldl max 0
theorem mxl_app (l : List Nat) (x : Nat) : mxl (l ++ [x]) = max (mxl l) x := by
  unfold mxl
  rw [List.foldl_append]
  rfl
theorem fd_mxl : ∀ (l : List Nat) (w : Nat × Nat), (fd l w).1 = 0 → w.1 = 0 ∧ (fd l w).2 = l.foldl max w.2
  | [], w, h => ⟨h, rfl⟩
  | x :: l, w, h => by
    obtain ⟨h1, h2⟩ := fd_mxl l (stp w x) h
    unfold stp at h1
    by_cases q : x % 2 = 0
    · rw [if_pos q] at h1
      refine ⟨h1, ?_⟩
      have e : (stp w x).2 = max w.2 x := by unfold stp; rw [if_pos q]
      show (fd l (stp w x)).2 = _
      rw [h2, e]
      rfl
    · rw [if_neg q] at h1
      exfalso
      have h1' : (if w.1 = 0 then x else min w.1 x) = 0 := h1
      by_cases z : w.1 = 0
      · rw [if_pos z] at h1'
        omega
      · rw [if_neg z] at h1'
        omega
/-- lengths after the moves of one cell -/
def chl (tab : Nat → Nat) (K L : Nat → Nat) (r c B : Nat) : Nat → List Nat := fun p => if B.testBit p = true then rg (fun t => [1 + tab (B ^^^ (mvq K L r c p).getD t 0)]) (mvq K L r c p).length else []
theorem chl_c {tab tab2 : Nat → Nat} {K L : Nat → Nat} {r c B p : Nat} (h : ∀ t, t < (mvq K L r c p).length → B.testBit p = true → tab (B ^^^ (mvq K L r c p).getD t 0) = tab2 (B ^^^ (mvq K L r c p).getD t 0)) : chl tab K L r c B p = chl tab2 K L r c B p := by
  unfold chl
  by_cases q : B.testBit p = true
  · rw [if_pos q, if_pos q]
    have key : ∀ n, n ≤ (mvq K L r c p).length → rg (fun t => [1 + tab (B ^^^ (mvq K L r c p).getD t 0)]) n = rg (fun t => [1 + tab2 (B ^^^ (mvq K L r c p).getD t 0)]) n := fun n => by
      induction n with
      | zero => intro _; rfl
      | succ n ih =>
        intro hn
        rw [rg_s, rg_s, ih (by omega), h n (by omega) q]
    exact key _ (Nat.le_refl _)
  · rw [if_neg q, if_neg q]
theorem rg_c {α : Type} {f g : Nat → List α} : ∀ n, (∀ i, i < n → f i = g i) → rg f n = rg g n
  | 0, _ => rfl
  | n + 1, h => by rw [rg_s, rg_s, rg_c n (fun i hi => h i (by omega)), h n (by omega)]
def ltb (K L : Nat → Nat) (r c : Nat) : Nat → Nat → Nat
  | 0 => fun _ => 0
  | B + 1 => fun i => if i = B then fin (fd (rg (chl (ltb K L r c B) K L r c B) (r * c)) (0, 0)) else ltb K L r c B i
theorem ltb_s (K L : Nat → Nat) (r c B i : Nat) : ltb K L r c (B + 1) i = if i = B then fin (fd (rg (chl (ltb K L r c B) K L r c B) (r * c)) (0, 0)) else ltb K L r c B i := rfl
def ln (K L : Nat → Nat) (r c B : Nat) : Nat := ltb K L r c (B + 1) B
theorem ltb_ln (K L : Nat → Nat) (r c : Nat) {i : Nat} : ∀ B, i < B → ltb K L r c B i = ln K L r c i
  | 0, h => absurd h (Nat.not_lt_zero _)
  | B + 1, h => by
    by_cases q : i = B
    · rw [q]
      rfl
    · rw [ltb_s, if_neg q]
      exact ltb_ln K L r c B (by omega)
theorem sC_rowE {R C i : Nat} (hC : C < 64) (hi : i < 6) : sRow (sC R C 6) i = if R.testBit i = true then C else 0 := by
  apply Nat.eq_of_testBit_eq
  intro j
  rw [sRow_bit]
  by_cases q : j < 6
  · rw [sC_bit6 hC hi q, decide_eq_true q, Bool.true_and]
    by_cases z : R.testBit i = true
    · rw [if_pos z, z, Bool.true_and]
    · have z2 : R.testBit i = false := by simpa using z
      rw [if_neg z, z2, Bool.false_and, Nat.zero_testBit]
  · rw [decide_eq_false q, Bool.false_and]
    by_cases z : R.testBit i = true
    · rw [if_pos z, Nat.testBit_lt_two_pow (Nat.lt_of_lt_of_le hC (show 2 ^ 6 ≤ 2 ^ j from Nat.pow_le_pow_right (by omega) (by omega)))]
    · rw [if_neg z, Nat.zero_testBit]
/-- a move's packed cells: its greatest is on top -/
theorem pv_top {r c i j S U : Nat} (hr : r ≤ 6) (hc : c ≤ 6) (hi : i < r) (hj : j < c) (hS : S < 2 ^ i) (hU : U < 2 ^ j) : 2 ^ (c * i + j) ≤ pv r c (2 ^ i + S) (2 ^ j + U) ∧ pv r c (2 ^ i + S) (2 ^ j + U) < 2 ^ (c * i + j + 1) := by
  have pj := pow_6 (n := j) (by omega)
  have hC : 2 ^ j + U < 64 := by omega
  have hCc : 2 ^ j + U < 2 ^ c := Nat.lt_of_lt_of_le (show 2 ^ j + U < 2 ^ (j + 1) by rw [Nat.pow_succ]; omega) (Nat.pow_le_pow_right (by omega) hj)
  have hrow := sC_row (r := r) (R := 2 ^ i + S) hCc hc
  have hz : ∀ d, i + 1 + d ≤ r → pkR c (sC (2 ^ i + S) (2 ^ j + U) 6) (i + 1 + d) = pkR c (sC (2 ^ i + S) (2 ^ j + U) 6) (i + 1) := fun d => by
    induction d with
    | zero => intro _; rfl
    | succ d ih =>
      intro hd
      have e : (2 ^ i + S).testBit (i + 1 + d) = false := Nat.testBit_lt_two_pow (Nat.lt_of_lt_of_le (show 2 ^ i + S < 2 ^ (i + 1) by rw [Nat.pow_succ]; omega) (Nat.pow_le_pow_right (by omega) (by omega)))
      rw [← Nat.add_assoc, pkR_s, ih (by omega), sC_rowE hC (by omega), e, if_neg (by decide), Nat.mul_zero, Nat.add_zero]
  have e1 := hz (r - (i + 1)) (by omega)
  rw [show i + 1 + (r - (i + 1)) = r by omega] at e1
  have e2 : (2 ^ i + S).testBit i = true := by
    rw [Nat.testBit_two_pow_add_eq, Nat.testBit_lt_two_pow hS]
    rfl
  have hlt := pkR_lt hrow i
  unfold pv
  rw [e1, pkR_s, sC_rowE hC (by omega), e2, if_pos rfl, Nat.pow_succ, Nat.pow_add, Nat.mul_add]
  have hU2 : 2 ^ (c * i) * U ≤ 2 ^ (c * i) * (2 ^ j - 1) := Nat.mul_le_mul_left _ (by omega)
  have hp := mul_p1 (2 ^ (c * i)) (Nat.two_pow_pos j)
  have := Nat.two_pow_pos (c * i)
  constructor <;> omega
theorem mvq_top {K L : Nat → Nat} {r c p : Nat} (hr : r ≤ 6) (hc : c ≤ 6) (hp : p < r * c) {t : Nat} (ht : t ∈ mvq K L r c p) : 2 ^ p ≤ t ∧ t < 2 ^ (p + 1) := by
  have hc0 : 0 < c := by
    rcases Nat.eq_zero_or_pos c with z | z
    · rw [z, Nat.mul_zero] at hp
      omega
    · exact z
  have hi : p / c < r := (Nat.div_lt_iff_lt_mul hc0).mpr hp
  have hj : p % c < c := Nat.mod_lt _ hc0
  have hpe : c * (p / c) + p % c = p := Nat.div_add_mod p c
  obtain ⟨S, hS, h⟩ := rg_mem.mp ht
  obtain ⟨U, hU, h⟩ := rg_mem.mp h
  unfold mvU at h
  by_cases q : (al (K 0) (L 0) (2 ^ (p / c) + S) && al (K 1) (L 1) (2 ^ (p % c) + U)) = true
  · rw [if_pos q] at h
    rw [List.mem_singleton.mp h]
    have := pv_top hr hc hi hj hS hU
    rw [hpe] at this
    exact this
  · rw [if_neg q] at h
    cases h
theorem xor_lt {B t p : Nat} (hB : B.testBit p = true) (h1 : 2 ^ p ≤ t) (h2 : t < 2 ^ (p + 1)) : B ^^^ t < B := by
  have e : t.testBit p = true := by
    obtain ⟨u, rfl⟩ : ∃ u, t = 2 ^ p + u := ⟨t - 2 ^ p, by omega⟩
    rw [Nat.pow_succ] at h2
    have hu : u < 2 ^ p := by omega
    rw [Nat.testBit_two_pow_add_eq, Nat.testBit_lt_two_pow hu]
    rfl
  have q1 : (B ^^^ t) / 2 ^ (p + 1) = B / 2 ^ (p + 1) := by rw [Nat.xor_div_two_pow, Nat.div_eq_of_lt h2, Nat.xor_zero]
  have m1 := mod_s (B ^^^ t) p
  have m2 := mod_s B p
  have d1 := Nat.div_add_mod (B ^^^ t) (2 ^ (p + 1))
  have d2 := Nat.div_add_mod B (2 ^ (p + 1))
  have l1 : (B ^^^ t) % 2 ^ p < 2 ^ p := Nat.mod_lt _ (Nat.two_pow_pos p)
  rw [Nat.testBit_xor, hB, e, if_neg (by decide), Nat.add_zero] at m1
  rw [hB, if_pos rfl] at m2
  rw [q1, m1] at d1
  rw [m2] at d2
  generalize 2 ^ (p + 1) * (B / 2 ^ (p + 1)) = Q at d1 d2
  generalize (B ^^^ t) % 2 ^ p = a at d1 l1
  generalize B % 2 ^ p = b at d2
  generalize 2 ^ p = z at d2 l1
  generalize B ^^^ t = y at d1 ⊢
  omega
theorem getD_mem {l : List Nat} {t : Nat} (h : t < l.length) : l.getD t 0 ∈ l := by
  rw [List.getD_eq_getElem?_getD, List.getElem?_eq_getElem h]
  exact List.getElem_mem h
theorem ln_eq {K L : Nat → Nat} {r c : Nat} (hr : r ≤ 6) (hc : c ≤ 6) (B : Nat) : ln K L r c B = fin (fd (rg (chl (ln K L r c) K L r c B) (r * c)) (0, 0)) := by
  have e : ln K L r c B = fin (fd (rg (chl (ltb K L r c B) K L r c B) (r * c)) (0, 0)) := if_pos rfl
  rw [e]
  congr 2
  refine rg_c _ (fun p hp => chl_c (fun t ht hb => ?_))
  obtain ⟨h1, h2⟩ := mvq_top hr hc hp (getD_mem ht)
  exact ltb_ln K L r c B (xor_lt hb h1 h2)
theorem chl_mem {tab : Nat → Nat} {K L : Nat → Nat} {r c B p x : Nat} (h : x ∈ chl tab K L r c B p) : B.testBit p = true ∧ ∃ t, t < (mvq K L r c p).length ∧ x = 1 + tab (B ^^^ (mvq K L r c p).getD t 0) := by
  unfold chl at h
  by_cases q : B.testBit p = true
  · rw [if_pos q] at h
    obtain ⟨t, ht, h⟩ := rg_mem.mp h
    exact ⟨q, t, ht, List.mem_singleton.mp h⟩
  · rw [if_neg q] at h
    cases h
theorem ln_le {K L : Nat → Nat} {r c : Nat} (hr : r ≤ 6) (hc : c ≤ 6) : ∀ B, ln K L r c B ≤ B := fun B => by
  induction B using Nat.strongRecOn with
  | _ B ih =>
    rw [ln_eq hr hc B]
    have hx : ∀ x, x ∈ rg (chl (ln K L r c) K L r c B) (r * c) → x ≤ B := fun x hx => by
      obtain ⟨p, hp, h⟩ := rg_mem.mp hx
      obtain ⟨hb, t, ht, rfl⟩ := chl_mem h
      obtain ⟨h1, h2⟩ := mvq_top hr hc hp (getD_mem ht)
      have h3 := xor_lt hb h1 h2
      have := ih _ h3
      omega
    obtain ⟨h1, h2⟩ := fd_le (M := B) _ (0, 0) hx (Nat.zero_le _) (Nat.zero_le _)
    unfold fin
    split
    · exact h1
    · exact h2
theorem ln_par {K L : Nat → Nat} {r c : Nat} (hr : r ≤ 6) (hc : c ≤ 6) (B : Nat) : (fd (rg (chl (ln K L r c) K L r c B) (r * c)) (0, 0)).1 = 0 ∧ ln K L r c B % 2 = 0 ∨ (fd (rg (chl (ln K L r c) K L r c B) (r * c)) (0, 0)).1 ≠ 0 ∧ ln K L r c B % 2 = 1 := by
  rw [ln_eq hr hc B]
  obtain ⟨h1, h2⟩ := fd_par (rg (chl (ln K L r c) K L r c B) (r * c)) (0, 0) (Or.inl rfl) rfl
  unfold fin
  by_cases q : 0 < (fd (rg (chl (ln K L r c) K L r c B) (r * c)) (0, 0)).1
  · rw [if_pos q]
    exact Or.inr ⟨by omega, by omega⟩
  · rw [if_neg q]
    exact Or.inl ⟨by omega, h2⟩
/-- a segment of the list -/
theorem tl_seg {K L : Nat → Nat} {r c p t : Nat} (hp : p < r * c) (ht : t < (mvq K L r c p).length) : (tl K L r c p).length + t < (tl K L r c (r * c)).length ∧ (tl K L r c (r * c)).getD ((tl K L r c p).length + t) 0 = (mvq K L r c p).getD t 0 := by
  obtain ⟨l, e⟩ := rg_pre (mvq K L r c) (p + 1) (r * c - (p + 1))
  rw [show p + 1 + (r * c - (p + 1)) = r * c by omega] at e
  have e2 : tl K L r c (r * c) = tl K L r c p ++ (mvq K L r c p ++ l) := by
    unfold tl
    rw [e, rg_s, List.append_assoc]
  rw [e2, List.length_append, List.length_append]
  refine ⟨by omega, ?_⟩
  rw [List.getD_eq_getElem?_getD, List.getD_eq_getElem?_getD, List.getElem?_append_right (by omega), Nat.add_sub_cancel_left, List.getElem?_append_left ht]
theorem nI_maxx {a b : Nat} (ha : a < 2 ^ 31) (hb : b < 2 ^ 31) : qo_max (nI a) (nI b) = nI (max a b) := by
  unfold qo_max
  by_cases q : a < b
  · rw [if_pos (nI_lt q hb), Nat.max_eq_right (by omega)]
  · rw [if_neg (nI_nlt (by omega) ha), Nat.max_eq_left (by omega)]
theorem nI_minn {a b : Nat} (ha : a < 2 ^ 31) (hb : b < 2 ^ 31) : qo_min (nI a) (nI b) = nI (min a b) := by
  unfold qo_min
  by_cases q : b < a
  · rw [if_pos (nI_lt q ha), Nat.min_eq_right (by omega)]
  · rw [if_neg (nI_nlt (by omega) hb), Nat.min_eq_left (by omega)]
theorem nu_measured {m : qm_M} {K L : Nat → Nat} {r c B : Nat} (h4 : m.1 60 4 = nI r) (h5 : m.1 60 5 = nI c) (hr : r ≤ 6) (hc : c ≤ 6) (hrc : r * c ≤ 12) (hT : lsT m K L r c) (hB : B < 4096) (hl : ∀ i, i < B → m.1 61 i = nI (ln K L r c i)) : F_Le_measured (nI B) m = some (some (.int (nI (ln K L r c B))), m) := by
  obtain ⟨t1, t2⟩ := hT
  have tlen : (tl K L r c (r * c)).length ≤ 189 := Nat.le_trans (tl_len K L r c _) (cnt_le hr hc hrc (Nat.le_refl _))
  have hsegA : ∀ {p : Nat}, p < r * c → (tl K L r c p).length + (mvq K L r c p).length ≤ 189 := fun {p} hp => by
    have h1 := tl_len K L r c (p + 1)
    rw [tl_s, List.length_append] at h1
    have h2 := cnt_le hr hc hrc (show p + 1 ≤ r * c by omega)
    omega
  have bnd : ∀ {p : Nat} {l : List Nat}, p ≤ r * c → (∀ x, x ∈ l → x ∈ rg (chl (ln K L r c) K L r c B) (r * c)) → (fd l (0, 0)).1 ≤ B ∧ (fd l (0, 0)).2 ≤ B := fun {p l} _ hsub => fd_le l (0, 0) (fun x hx => by
    obtain ⟨p, hp, h⟩ := rg_mem.mp (hsub x hx)
    obtain ⟨hb, t, ht, rfl⟩ := chl_mem h
    obtain ⟨h1, h2⟩ := mvq_top hr hc hp (getD_mem ht)
    have h3 := xor_lt hb h1 h2
    have := ln_le (K := K) (L := L) hr hc (B ^^^ (mvq K L r c p).getD t 0)
    omega) (Nat.zero_le _) (Nat.zero_le _)
  have hN : nI r * nI c = nI (r * c) := pk_mul r c
  obtain ⟨w1, h1, e⟩ := lpU (fun f p (w : Nat × Nat) => L_Le_measured_7 f (nI B) (nI w.1) (nI w.2) (nI p) m) (r * c) (fun p w => w = fd (rg (chl (ln K L r c) K L r c B) p) (0, 0)) (fun w => some (some (.int (nI (fin w))), m)) (fun f p w hp hw => by
      have hL7 : L_Le_measured_7 (f + 1) (nI B) (nI w.1) (nI w.2) (nI p) m = L_Le_measured_30 (L_Le_measured_7 f) 1000000 (nI B) (nI w.1) (nI w.2) (nI p) (nI ((tl K L r c p).length + 0)) m := by
        rw [le_Le_measured_7]
        unfold X_Le_measured_7
        rw [h4, h5, hN, if_pos (nI_lt hp (by omega)), qm_in_nI (show p < 13 by omega) (by omega), qe_b_e, nI_clamp (by omega), t2 p (by omega)]
        rfl
      have hbit := (nI_bit1 (a := B) (k := p) (by omega) (by omega)).2
      have ep : nI p + 1 = nI (p + 1) := nI_add p 1
      refine ⟨fd (rg (chl (ln K L r c) K L r c B) (p + 1)) (0, 0), rfl, ?_⟩
      show L_Le_measured_7 (f + 1) (nI B) (nI w.1) (nI w.2) (nI p) m = _
      rw [hL7, rg_s, fd_app, ← hw]
      unfold chl
      by_cases q : B.testBit p = true
      · rw [if_pos q]
        have nz : ¬ (qo_ishr (nI B) (nI p) &&& 1) = 0 := fun z => by rw [hbit.mp z] at q; cases q
        obtain ⟨w2, h2, e⟩ := lpU (fun f2 t (v : Nat × Nat) => L_Le_measured_30 (L_Le_measured_7 f) f2 (nI B) (nI v.1) (nI v.2) (nI p) (nI ((tl K L r c p).length + t)) m) (mvq K L r c p).length (fun t v => v = fd (rg (fun t => [1 + ln K L r c (B ^^^ (mvq K L r c p).getD t 0)]) t) w) (fun v => L_Le_measured_7 f (nI B) (nI v.1) (nI v.2) (nI (p + 1)) m) (fun f2 t v ht hv => by
            obtain ⟨s1, s2⟩ := tl_seg hp ht
            obtain ⟨g1, g2⟩ := mvq_top hr hc hp (getD_mem ht)
            have hlt := xor_lt q g1 g2
            have hsg := hsegA hp
            have hle := ln_le (K := K) (L := L) hr hc (B ^^^ (mvq K L r c p).getD t 0)
            refine ⟨fd (rg (fun t => [1 + ln K L r c (B ^^^ (mvq K L r c p).getD t 0)]) (t + 1)) w, rfl, ?_⟩
            have hvb : v.1 ≤ B ∧ v.2 ≤ B := by
              rw [hv, hw, ← fd_app]
              refine bnd (p := p) (by omega) (fun x hx => ?_)
              rcases List.mem_append.mp hx with hx | hx
              · obtain ⟨p2, hp2, h⟩ := rg_mem.mp hx
                exact rg_mem.mpr ⟨p2, by omega, h⟩
              · obtain ⟨t3, ht3, h⟩ := rg_mem.mp hx
                refine rg_mem.mpr ⟨p, hp, ?_⟩
                unfold chl
                rw [if_pos q]
                exact rg_mem.mpr ⟨t3, by omega, h⟩
            rw [rg_s, fd_app, ← hv, fd_1]
            have e1 : m.1 62 ((tl K L r c p).length + t) = nI ((mvq K L r c p).getD t 0) := by rw [t1 _ s1, s2]
            have hg12 : (mvq K L r c p).getD t 0 < 4096 := by
              have := pow_12b (n := p + 1) (by omega)
              omega
            have ex : nI B ^^^ nI ((mvq K L r c p).getD t 0) = nI (B ^^^ (mvq K L r c p).getD t 0) := nI_xor (by omega) (by omega)
            have ea : nI ((tl K L r c p).length + t) + 1 = nI ((tl K L r c p).length + (t + 1)) := nI_add _ 1
            have e1p : (1 : Int32) + nI (ln K L r c (B ^^^ (mvq K L r c p).getD t 0)) = nI (1 + ln K L r c (B ^^^ (mvq K L r c p).getD t 0)) := nI_add 1 _
            have els : m.1 63 (p + 1) = nI ((tl K L r c p).length + (mvq K L r c p).length) := by
              rw [t2 (p + 1) (by omega), tl_s, List.length_append]
            show L_Le_measured_30 (L_Le_measured_7 f) (f2 + 1) (nI B) (nI v.1) (nI v.2) (nI p) (nI ((tl K L r c p).length + t)) m = _
            rw [le_Le_measured_30]
            unfold X_Le_measured_30
            rw [if_neg nz, ep, qm_in_nI (show p + 1 < 13 by omega) (by omega), qe_b_e, nI_clamp (by omega), els, if_pos (nI_lt (by omega) (by omega)), qm_in_nI (show (tl K L r c p).length + t < 256 by omega) (by omega), qe_b_e, nI_clamp (by omega), e1, ex, qm_in_nI (show B ^^^ (mvq K L r c p).getD t 0 < 4096 by omega) (by omega), qe_b_e, nI_clamp (by omega), hl _ hlt, e1p, ea]
            dsimp only
            have hx31 : 1 + ln K L r c (B ^^^ (mvq K L r c p).getD t 0) ≤ B := by omega
            generalize 1 + ln K L r c (B ^^^ (mvq K L r c p).getD t 0) = x at *
            have hx2 : nI x &&& 1 = nI (x % 2) := nI_and1 (by omega)
            rw [hx2]
            unfold stp
            by_cases z : x % 2 = 0
            · rw [z, if_pos (show nI 0 = 0 from rfl), nI_maxx (by omega) (by omega), if_pos rfl]
            · rw [if_neg (nI_ne0 (show 0 < x % 2 by omega) (by omega)), if_neg z]
              by_cases y : v.1 = 0
              · rw [y, if_pos (show nI 0 = 0 from rfl), if_pos rfl]
              · rw [if_neg (nI_ne0 (show 0 < v.1 by omega) (by omega)), nI_minn (by omega) (by omega), if_neg y]) (fun f2 v _ => by
            have els : m.1 63 (p + 1) = nI ((tl K L r c p).length + (mvq K L r c p).length) := by
              rw [t2 (p + 1) (by omega), tl_s, List.length_append]
            have hseg : (tl K L r c p).length + (mvq K L r c p).length ≤ 189 := by
              have h1 := tl_len K L r c (p + 1)
              rw [tl_s, List.length_append] at h1
              have h2 := cnt_le hr hc hrc (show p + 1 ≤ r * c by omega)
              omega
            show L_Le_measured_30 (L_Le_measured_7 f) (f2 + 1) (nI B) (nI v.1) (nI v.2) (nI p) (nI ((tl K L r c p).length + (mvq K L r c p).length)) m = _
            rw [le_Le_measured_30]
            unfold X_Le_measured_30
            rw [if_neg nz, ep, qm_in_nI (show p + 1 < 13 by omega) (by omega), qe_b_e, nI_clamp (by omega), els, if_neg (nI_nlt (Nat.le_refl _) (by omega))]) 1000000 0 w (Nat.zero_le _) (by
              have h1 := tl_len K L r c (p + 1)
              rw [tl_s, List.length_append] at h1
              have h2 := cnt_le hr hc hrc (show p + 1 ≤ r * c by omega)
              omega) rfl
        rw [h2] at e
        exact e
      · rw [if_neg q]
        have zz : (qo_ishr (nI B) (nI p) &&& 1) = 0 := hbit.mpr (by simpa using q)
        rw [show (1000000 : Nat) = 999999 + 1 from rfl, le_Le_measured_30]
        unfold X_Le_measured_30
        rw [if_pos zz, ep]
        rfl) (fun f w hw => by
      have hwb : w.1 ≤ B ∧ w.2 ≤ B := by
        rw [hw]
        exact bnd (p := r * c) (Nat.le_refl _) (fun x hx => hx)
      show L_Le_measured_7 (f + 1) (nI B) (nI w.1) (nI w.2) (nI (r * c)) m = _
      rw [le_Le_measured_7]
      unfold X_Le_measured_7 fin
      rw [h4, h5, hN, if_neg (nI_nlt (Nat.le_refl _) (by omega))]
      by_cases z : 0 < w.1
      · have e0 : (0 : Int32) < nI w.1 := nI_lt (a := 0) z (by omega)
        rw [if_pos e0, if_pos z]
      · have e0 : ¬ (0 : Int32) < nI w.1 := nI_nlt (a := 0) (by omega) (by omega)
        rw [if_neg e0, if_neg z]) 1000000 0 (0, 0) (Nat.zero_le _) (by omega) rfl
  rw [h1, ← ln_eq hr hc B] at e
  exact e
def gmM (m : qm_M) (K L : Nat → Nat) (r c N : Nat) : Prop := ∀ i, i < N → m.1 137 i = nI (ln K L r c i % 2) ∧ m.1 138 i = nI (ln K L r c i)
