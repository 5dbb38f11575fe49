/-! counts -/
/-- heads of rows, of columns, as bits -/
def sRow (x : nb_F) (r : Nat) : Nat := (x.toNat / 2 ^ (6 * r)) % 64
def sRows (x : nb_F) : Nat → Nat
  | 0 => 0
  | r + 1 => if sRow x r = 0 then sRows x r else sRows x r + 2 ^ r
def sCols (x : nb_F) : Nat → Nat
  | 0 => 0
  | r + 1 => sCols x r ||| sRow x r
theorem sRow_bit (x : nb_F) (r c : Nat) : (sRow x r).testBit c = (decide (c < 6) && x.getLsbD (6 * r + c)) := by
  show (x.toNat / 2 ^ (6 * r) % 2 ^ 6).testBit c = _
  rw [Nat.testBit_mod_two_pow, Nat.testBit_div_two_pow, Nat.add_comm (6 * r) c]
  rfl
theorem sRows_lt (x : nb_F) : ∀ r, sRows x r < 2 ^ r
  | 0 => by show 0 < 1; decide
  | r + 1 => by
    have := sRows_lt x r
    rw [Nat.pow_succ]
    show (if sRow x r = 0 then sRows x r else sRows x r + 2 ^ r) < _
    split <;> omega
theorem sCols_lt (x : nb_F) : ∀ r, sCols x r < 64
  | 0 => by show 0 < 64; decide
  | r + 1 => Nat.or_lt_two_pow (n := 6) (sCols_lt x r) (Nat.mod_lt _ (by decide))
theorem nu_headsOfRow {m : qm_M} {s : sT} (h : cs m s) {r : Nat} (hr : r < 6) : F_Ps_headsOfRow 1 (nI r) m = some (some (.int (nI (sRow (nb (s.1 6)) r))), m) := by
  unfold F_Ps_headsOfRow X_Ps_headsOfRow_e
  have e6 : (6 : Int32) * nI r = nI (6 * r) := pk_mul 6 r
  rw [(po_f po_1).1.1, qe_b_e, cs_h h, e6]
  obtain ⟨n, hn, hx⟩ : ∃ n, n < 2 ^ 64 ∧ s.1 6 = lN n := ⟨_, (nb (s.1 6)).isLt, lN_ofnb _⟩
  have e63 : lN (n / 2 ^ (6 * r)) &&& 63 = lN (n / 2 ^ (6 * r) % 64) := by
    have e1 : lN (n / 2 ^ (6 * r)) &&& 63 = lN (n / 2 ^ (6 * r) &&& 63) := lN_and _ 63
    have e2 : n / 2 ^ (6 * r) &&& 63 = n / 2 ^ (6 * r) % 64 := Nat.and_two_pow_sub_one_eq_mod _ 6
    rw [e1, e2]
  unfold sRow
  rw [hx, lN_shr hn (by omega), e63, lN_i, nb_lN hn]
theorem nI_or {a b : Nat} (ha : a < 2 ^ 31) (hb : b < 2 ^ 31) : nI a ||| nI b = nI (a ||| b) := by
  apply Int32.toBitVec_inj.1
  show BitVec.ofNat 32 a ||| BitVec.ofNat 32 b = BitVec.ofNat 32 (a ||| b)
  apply BitVec.eq_of_toNat_eq
  rw [BitVec.toNat_or, BitVec.toNat_ofNat, BitVec.toNat_ofNat, BitVec.toNat_ofNat, Nat.or_mod_two_pow]
theorem nb_orp {a k : Nat} (h : a < 2 ^ k) : a ||| 2 ^ k = a + 2 ^ k := by
  rw [Nat.or_comm, Nat.add_comm]
  have := Nat.two_pow_add_eq_or_of_lt h 1
  rw [Nat.mul_one] at this
  exact this.symm
theorem nu_rows_loop {m : qm_M} {s : sT} (h : cs m s) {R : Nat} (hR : R ≤ 6) (e0 : s.1 0 = lN R) (d : Nat) : ∀ (f r : Nat), R - r = d → r ≤ R → d < f → L_Ps_rowsWithHeads_4 f 1 (nI (sRows (nb (s.1 6)) r)) (nI r) m = some (some (.int (nI (sRows (nb (s.1 6)) R))), m) := by
  have f0 := cs_i h (k := 0) (by omega) e0
  induction d with
  | zero =>
    intro f r h1 h2 h3
    obtain ⟨f, rfl⟩ : ∃ g, f = g + 1 := ⟨f - 1, by omega⟩
    have e : r = R := by omega
    subst e
    show X_Ps_rowsWithHeads_4 _ _ _ _ _ _ = _
    unfold X_Ps_rowsWithHeads_4
    rw [(po_f po_1).1.1, qe_b_e, f0, if_neg (nI_nlt (Nat.le_refl _) (by omega))]
  | succ d ih =>
    intro f r h1 h2 h3
    obtain ⟨f, rfl⟩ : ∃ g, f = g + 1 := ⟨f - 1, by omega⟩
    have ih2 := ih f (r + 1) (by omega) (by omega) (by omega)
    have hl := sRows_lt (nb (s.1 6)) r
    have hp : 2 ^ r ≤ 2 ^ 6 := Nat.pow_le_pow_right (by decide) (by omega)
    show X_Ps_rowsWithHeads_4 _ _ _ _ _ _ = _
    unfold X_Ps_rowsWithHeads_4
    rw [(po_f po_1).1.1, qe_b_e, f0, if_pos (nI_lt (by omega) (by omega)), qe_b_e, nu_headsOfRow h (by omega), qe_rI_e, nI_1]
    have hs64 : sRow (nb (s.1 6)) r < 64 := Nat.mod_lt _ (by decide)
    have ez : (nI (sRow (nb (s.1 6)) r) = 0) ↔ sRow (nb (s.1 6)) r = 0 := nI_eq (a := sRow (nb (s.1 6)) r) (b := 0) (by omega) (by omega)
    by_cases q : sRow (nb (s.1 6)) r = 0
    · have er : sRows (nb (s.1 6)) (r + 1) = sRows (nb (s.1 6)) r := by
        show (if sRow (nb (s.1 6)) r = 0 then _ else _) = _
        rw [if_pos q]
      rw [er] at ih2
      have eo : nI (sRows (nb (s.1 6)) r) ||| 0 = nI (sRows (nb (s.1 6)) r) := by
        have := nI_or (a := sRows (nb (s.1 6)) r) (b := 0) (by omega) (by omega)
        rw [Nat.or_zero] at this
        exact this
      rw [if_pos (ez.mpr q), eo]
      exact ih2
    · have er : sRows (nb (s.1 6)) (r + 1) = sRows (nb (s.1 6)) r + 2 ^ r := by
        show (if sRow (nb (s.1 6)) r = 0 then _ else _) = _
        rw [if_neg q]
      rw [er] at ih2
      rw [if_neg (fun z => q (ez.mp z)), no_ishl1 (by omega), nI_or (by omega) (by omega), nb_orp hl]
      exact ih2
theorem nu_cols_loop {m : qm_M} {s : sT} (h : cs m s) {R : Nat} (hR : R ≤ 6) (e0 : s.1 0 = lN R) (d : Nat) : ∀ (f r : Nat), R - r = d → r ≤ R → d < f → L_Ps_columnsWithHeads_4 f 1 (nI (sCols (nb (s.1 6)) r)) (nI r) m = some (some (.int (nI (sCols (nb (s.1 6)) R))), m) := by
  have f0 := cs_i h (k := 0) (by omega) e0
  induction d with
  | zero =>
    intro f r h1 h2 h3
    obtain ⟨f, rfl⟩ : ∃ g, f = g + 1 := ⟨f - 1, by omega⟩
    have e : r = R := by omega
    subst e
    show X_Ps_columnsWithHeads_4 _ _ _ _ _ _ = _
    unfold X_Ps_columnsWithHeads_4
    rw [(po_f po_1).1.1, qe_b_e, f0, if_neg (nI_nlt (Nat.le_refl _) (by omega))]
  | succ d ih =>
    intro f r h1 h2 h3
    obtain ⟨f, rfl⟩ : ∃ g, f = g + 1 := ⟨f - 1, by omega⟩
    have ih2 := ih f (r + 1) (by omega) (by omega) (by omega)
    have hl := sCols_lt (nb (s.1 6)) r
    have hs64 : sRow (nb (s.1 6)) r < 64 := Nat.mod_lt _ (by decide)
    show X_Ps_columnsWithHeads_4 _ _ _ _ _ _ = _
    unfold X_Ps_columnsWithHeads_4
    rw [(po_f po_1).1.1, qe_b_e, f0, if_pos (nI_lt (by omega) (by omega)), qe_b_e, nu_headsOfRow h (by omega), qe_rI_e, nI_1, nI_or (by omega) (by omega)]
    exact ih2
/-- no heads in rows that are not there -/
theorem sRow_z {P : sP} {R C : Nat} (h : ∀ i, (nb (P 6)).getLsbD i = true → i / 6 < R ∧ i % 6 < C) {r : Nat} (hr : R ≤ r) : sRow (nb (P 6)) r = 0 := by
  apply Nat.eq_of_testBit_eq
  intro c
  rw [sRow_bit, Nat.zero_testBit]
  by_cases q : c < 6
  · cases hb : (nb (P 6)).getLsbD (6 * r + c) with
    | true => have := (h _ hb).1; omega
    | false => simp
  · simp [q]
theorem sRows_up {P : sP} {R C : Nat} (h : ∀ i, (nb (P 6)).getLsbD i = true → i / 6 < R ∧ i % 6 < C) : ∀ k, sRows (nb (P 6)) (R + k) = sRows (nb (P 6)) R
  | 0 => rfl
  | k + 1 => by
    show (if sRow (nb (P 6)) (R + k) = 0 then sRows (nb (P 6)) (R + k) else sRows (nb (P 6)) (R + k) + 2 ^ (R + k)) = _
    rw [if_pos (sRow_z h (by omega)), sRows_up h k]
theorem sCols_up {P : sP} {R C : Nat} (h : ∀ i, (nb (P 6)).getLsbD i = true → i / 6 < R ∧ i % 6 < C) : ∀ k, sCols (nb (P 6)) (R + k) = sCols (nb (P 6)) R
  | 0 => rfl
  | k + 1 => by
    show sCols (nb (P 6)) (R + k) ||| sRow (nb (P 6)) (R + k) = _
    rw [sRow_z h (by omega), Nat.or_zero, sCols_up h k]
/-- what a row of cells gives: its bit, or its cells -/
def sAdd (byRows : Bool) (x : nb_F) (r : Nat) : Nat → Nat → Nat
  | 0, v => v
  | c + 1, v => if (sRow x r).testBit c then (if byRows then sAdd byRows x r c v ||| 2 ^ r else sAdd byRows x r c v ||| 2 ^ c) else sAdd byRows x r c v
theorem sAdd_lt (b : Bool) (x : nb_F) {r v : Nat} (hr : r < 6) (hv : v < 64) : ∀ c, c ≤ 6 → sAdd b x r c v < 64
  | 0, _ => hv
  | c + 1, hc => by
    have ih := sAdd_lt b x hr hv c (by omega)
    have p1 : 2 ^ r < 2 ^ 6 := Nat.pow_lt_pow_right (by decide) hr
    have p2 : 2 ^ c < 2 ^ 6 := Nat.pow_lt_pow_right (by decide) (by omega)
    show (if (sRow x r).testBit c then (if b then sAdd b x r c v ||| 2 ^ r else sAdd b x r c v ||| 2 ^ c) else sAdd b x r c v) < 64
    cases (sRow x r).testBit c with
    | false => simpa using ih
    | true =>
      cases b with
      | true => exact Nat.or_lt_two_pow (n := 6) ih p1
      | false => exact Nat.or_lt_two_pow (n := 6) ih p2
/-- all rows -/
def sAll (b : Bool) (x : nb_F) : Nat → Nat
  | 0 => 0
  | r + 1 => sAdd b x r 6 (sAll b x r)
theorem sAll_lt (b : Bool) (x : nb_F) : ∀ r, r ≤ 6 → sAll b x r < 64
  | 0, _ => by show 0 < 64; decide
  | r + 1, h => sAdd_lt b x (by omega) (sAll_lt b x r (by omega)) 6 (by omega)
theorem sAdd_bit (b : Bool) (x : nb_F) (r v : Nat) : ∀ c, c ≤ 6 → ∀ i, (sAdd b x r c v).testBit i = (v.testBit i || if b then (decide (i = r) && (List.range c).any (fun c => (sRow x r).testBit c)) else (decide (i < c) && (sRow x r).testBit i))
  | 0, _, i => by
    show v.testBit i = _
    cases b <;> simp
  | c + 1, hc, i => by
    have ih := sAdd_bit b x r v c (by omega) i
    show (if (sRow x r).testBit c then (if b then sAdd b x r c v ||| 2 ^ r else sAdd b x r c v ||| 2 ^ c) else sAdd b x r c v).testBit i = _
    cases b with
    | true =>
      simp only [if_true] at ih ⊢
      rw [List.range_succ, List.any_append]
      cases hb : (sRow x r).testBit c with
      | false =>
        simp only [List.any_cons, List.any_nil, hb, Bool.or_false]
        exact ih
      | true =>
        simp only [List.any_cons, List.any_nil, hb, if_true, Bool.or_true, Nat.testBit_or, ih, Nat.testBit_two_pow]
        by_cases q : i = r
        · subst q; simp
        · have q2 : ¬ r = i := fun z => q z.symm
          simp [q, q2]
    | false =>
      have e : ∀ (p : Bool), (if false = true then p else p) = p := fun p => by cases p <;> rfl
      simp only [Bool.false_eq_true, if_false] at ih ⊢
      cases hb : (sRow x r).testBit c with
      | false =>
        simp only [Bool.false_eq_true, if_false, ih]
        by_cases q : i = c
        · subst q; simp [hb]
        · have : decide (i < c + 1) = decide (i < c) := by rw [decide_eq_decide]; omega
          rw [this]
      | true =>
        simp only [if_true, Nat.testBit_or, ih, Nat.testBit_two_pow]
        by_cases q : i = c
        · subst q; simp [hb]
        · have q2 : ¬ c = i := fun z => q z.symm
          have : decide (i < c + 1) = decide (i < c) := by rw [decide_eq_decide]; omega
          rw [this]
          simp [q2]
