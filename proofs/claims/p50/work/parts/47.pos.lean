/-! positions of the class, as rows of 33 longs -/
def po_l : List Nat := [1, 6, 9, 12, 15, 18, 21, 24, 27, 30, 33, 37, 40, 45]
def po (o : Nat) : Prop := o ∈ po_l
def px_c (m : qm_M) (o k : Nat) : Int64 := if k < 6 then (m.1 o k).toInt64 else if k = 6 then m.2 o 6 else if k < 15 then m.2 (o + 1) (k - 7) else if k < 17 then (m.1 o (k - 7)).toInt64 else m.2 (o + 2) (k - 17)
theorem po_f {o : Nat} (h : po o) : (qm_isO o 5 = true ∧ qm_rf o 7 = o + 1 ∧ qm_rf o 10 = o + 2 ∧ o ≤ 45) ∧ (Nat.ble (qm_gk (o + 1)).1 6 = true ∧ qm_n (o + 1) = 8 ∧ qm_isA (o + 1) 1 = true ∧ qm_isL (o + 1) 1 = true ∧ qm_nl (o + 1) = 8) ∧ (Nat.ble (qm_gk (o + 2)).1 6 = true ∧ qm_n (o + 2) = 16 ∧ qm_isA (o + 2) 1 = true ∧ qm_isL (o + 2) 1 = true ∧ qm_nl (o + 2) = 16) := by
  have c : po_l.all (fun o => decide ((qm_isO o 5 = true ∧ qm_rf o 7 = o + 1 ∧ qm_rf o 10 = o + 2 ∧ o ≤ 45) ∧ (Nat.ble (qm_gk (o + 1)).1 6 = true ∧ qm_n (o + 1) = 8 ∧ qm_isA (o + 1) 1 = true ∧ qm_isL (o + 1) 1 = true ∧ qm_nl (o + 1) = 8) ∧ (Nat.ble (qm_gk (o + 2)).1 6 = true ∧ qm_n (o + 2) = 16 ∧ qm_isA (o + 2) 1 = true ∧ qm_isL (o + 2) 1 = true ∧ qm_nl (o + 2) = 16))) = true := by decide +kernel
  exact of_decide_eq_true (List.all_eq_true.mp c o h)
theorem po_dis {a b : Nat} (ha : po a) (hb : po b) (h : a ≠ b) : a + 2 < b ∨ b + 2 < a := by
  have c : po_l.all (fun a => po_l.all (fun b => decide (a ≠ b → a + 2 < b ∨ b + 2 < a))) = true := by decide +kernel
  exact of_decide_eq_true (List.all_eq_true.mp (List.all_eq_true.mp c a ha) b hb) h
theorem qm_gL_o {o : Nat} (h : o < 1000000) (m : qm_M) (i : Nat) : qm_gL m o i = m.2 o i := by
  unfold qm_gL
  have e : Nat.ble 1000000 o = false := by
    cases hb : Nat.ble 1000000 o with
    | true => have := Nat.le_of_ble_eq_true hb; omega
    | false => rfl
  rw [e, cond_false]
theorem qm_gI_o {o : Nat} (h : o < 1000000) (m : qm_M) (i : Nat) : qm_gI m o i = m.1 o i := by
  unfold qm_gI
  have e : Nat.ble 1000000 o = false := by
    cases hb : Nat.ble 1000000 o with
    | true => have := Nat.le_of_ble_eq_true hb; omega
    | false => rfl
  rw [e, cond_false]
/-- what stands elsewhere is as it was -/
def px_fr (a : Nat) (m m1 : qm_M) : Prop := (∀ x, x ≠ a → m1.1 x = m.1 x) ∧ ∀ x, x ≠ a → x ≠ a + 1 → x ≠ a + 2 → m1.2 x = m.2 x
theorem px_fr.c {a : Nat} {m m1 : qm_M} (g : px_fr a m m1) {o : Nat} (ha : po a) (ho : po o) (h : o ≠ a) (k : Nat) : px_c m1 o k = px_c m o k := by
  have hd := po_dis ha ho (Ne.symm h)
  unfold px_c
  rw [g.1 o h, g.2 o h (by omega) (by omega), g.2 (o + 1) (by omega) (by omega) (by omega), g.2 (o + 2) (by omega) (by omega) (by omega)]
theorem nu_becomeBoard {a b : Nat} (ha : po a) (hb : po b) (hab : a ≠ b) (m : qm_M) : ∃ m1, F_Ps_becomeBoard a b m = some (none, m1) ∧ (∀ i, m1.1 a i = if i < 6 then m.1 b i else m.1 a i) ∧ (∀ x, x ≠ a → m1.1 x = m.1 x) ∧ (m1.2 a 6 = m.2 b 6) ∧ (∀ x, x ≠ a → m1.2 x = m.2 x) := by
  obtain ⟨⟨fa, -, -, -⟩, -, -⟩ := po_f ha
  obtain ⟨⟨fb, -, -, -⟩, -, -⟩ := po_f hb
  have hba : ¬ b = a := fun z => hab z.symm
  unfold F_Ps_becomeBoard X_Ps_becomeBoard_e
  rw [fa, fb]
  refine ⟨_, rfl, fun i => ?_, fun x hx => ?_, ?_, fun x hx => ?_⟩
  · simp only [me_1L, me_1I, me_2I, if_neg hba, if_true]
    by_cases h0 : i = 0
    · subst h0; simp
    · by_cases h1 : i = 1
      · subst h1; simp
      · by_cases h2 : i = 2
        · subst h2; simp
        · by_cases h3 : i = 3
          · subst h3; simp
          · by_cases h4 : i = 4
            · subst h4; simp
            · by_cases h5 : i = 5
              · subst h5; simp
              · rw [if_neg h5, if_neg h4, if_neg h3, if_neg h2, if_neg h1, if_neg h0, if_neg (by omega)]
  · funext i
    simp only [me_1L, me_1I, if_neg hx]
  · simp only [me_2L, me_2I, if_true]
  · funext i
    simp only [me_2L, me_2I, if_neg hx]
theorem nu_become52 {a b : Nat} (ha : po a) (hb : po b) (hab : a ≠ b) (m0 : qm_M) (d : Nat) : ∀ (f k : Nat) (m : qm_M), 16 - k = d → k ≤ 16 → d < f → (∀ j, j < k → m.2 (a + 2) j = m0.2 (b + 2) j) → m.1 = m0.1 → (∀ x, x ≠ a + 2 → m.2 x = m0.2 x) →
    ∃ m1, L_Ps_become_52 f a b (nI k) m = some (none, m1) ∧ (∀ j, j < 16 → m1.2 (a + 2) j = m0.2 (b + 2) j) ∧ m1.1 = m0.1 ∧ (∀ x, x ≠ a + 2 → m1.2 x = m0.2 x) := by
  obtain ⟨⟨fa, -, fa10, -⟩, -, ⟨ga1, ga2, ga3, ga4, ga5⟩⟩ := po_f ha
  obtain ⟨⟨fb, -, fb10, fb45⟩, -, ⟨gb1, gb2, gb3, gb4, gb5⟩⟩ := po_f hb
  induction d with
  | zero =>
    intro f k m h1 h2 h3 q1 q2 q3
    obtain ⟨f, rfl⟩ : ∃ g, f = g + 1 := ⟨f - 1, by omega⟩
    have e : k = 16 := by omega
    subst e
    refine ⟨m, ?_, q1, q2, q3⟩
    show X_Ps_become_52 _ _ _ _ _ _ = _
    unfold X_Ps_become_52
    rw [fa, fa10, ga1, ga2]
    dsimp only [qe_b, cond_true]
    rw [if_neg (by decide)]
  | succ d ih =>
    intro f k m h1 h2 h3 q1 q2 q3
    obtain ⟨f, rfl⟩ : ∃ g, f = g + 1 := ⟨f - 1, by omega⟩
    obtain ⟨m1, r1, r2, r3, r4⟩ := ih f (k + 1) (qm_sL m (a + 2) k (m.2 (b + 2) k)) (by omega) (by omega) (by omega) (fun j hj => by
      rw [me_2L, if_pos rfl]
      by_cases q : j = k
      · rw [if_pos q, q, q3 (b + 2) (by omega)]
      · rw [if_neg q]; exact q1 j (by omega)) q2 (fun x hx => by rw [(qm_sL_other x hx).2]; exact q3 x hx)
    refine ⟨m1, ?_, r2, r3, r4⟩
    show X_Ps_become_52 _ _ _ _ _ _ = _
    unfold X_Ps_become_52
    rw [fa, fb, fa10, fb10, ga1, ga2, ga4, ga5, gb2, gb3]
    dsimp only [qe_b, cond_true]
    have e1 : nI k < Int32.ofNat 16 := nI_lt (a := k) (b := 16) (by omega) (by omega)
    rw [if_pos e1, qm_in_nI (by omega) (by omega), nI_clamp (by omega), nI_1, qm_gL_o (by omega)]
    exact r1
theorem nu_become7 {a b : Nat} (ha : po a) (hb : po b) (hab : a ≠ b) (m0 : qm_M) (d : Nat) : ∀ (f k : Nat) (m : qm_M), 8 - k = d → k ≤ 8 → d < f → (∀ j, j < k → m.2 (a + 1) j = m0.2 (b + 1) j) → m.1 = m0.1 → (∀ x, x ≠ a + 1 → m.2 x = m0.2 x) →
    ∃ m1, L_Ps_become_7 f a b (nI k) m = some (none, m1) ∧ (∀ j, j < 8 → m1.2 (a + 1) j = m0.2 (b + 1) j) ∧ (∀ j, j < 16 → m1.2 (a + 2) j = m0.2 (b + 2) j) ∧ (∀ i, m1.1 a i = if i = 8 ∨ i = 9 then m0.1 b i else m0.1 a i) ∧ (∀ x, x ≠ a → m1.1 x = m0.1 x) ∧ (∀ x, x ≠ a + 1 → x ≠ a + 2 → m1.2 x = m0.2 x) := by
  obtain ⟨⟨fa, fa7, fa10, -⟩, ⟨ga1, ga2, ga3, ga4, ga5⟩, -⟩ := po_f ha
  obtain ⟨⟨fb, fb7, fb10, fb45⟩, ⟨gb1, gb2, gb3, gb4, gb5⟩, -⟩ := po_f hb
  have hba : ¬ b = a := fun z => hab z.symm
  have hdis := po_dis ha hb hab
  induction d with
  | zero =>
    intro f k m h1 h2 h3 q1 q2 q3
    obtain ⟨f, rfl⟩ : ∃ g, f = g + 1 := ⟨f - 1, by omega⟩
    have e : k = 8 := by omega
    subst e
    obtain ⟨m1, r1, r2, r3, r4⟩ := nu_become52 ha hb hab (qm_sI (qm_sI m a 8 (m.1 b 8)) a 9 ((qm_sI m a 8 (m.1 b 8)).1 b 9)) 16 1000000 0 _ rfl (by omega) (by omega) (fun j hj => absurd hj (Nat.not_lt_zero _)) rfl (fun x _ => rfl)
    refine ⟨m1, ?_, fun j hj => ?_, fun j hj => ?_, fun i => ?_, fun x hx => ?_, fun x h1 h2 => ?_⟩
    · show X_Ps_become_7 _ _ _ _ _ _ _ = _
      unfold X_Ps_become_7
      rw [fa, fb, fa7, ga1, ga2]
      dsimp only [qe_b, cond_true]
      rw [if_neg (by decide)]
      exact r1
    · rw [r4 (a + 1) (by omega)]
      exact q1 j hj
    · rw [r2 j hj, me_2I, me_2I, q3 (b + 2) (by omega)]
    · rw [r3]
      simp only [me_1I, if_neg hba, if_true, q2]
      by_cases h9 : i = 9
      · subst h9; simp
      · by_cases h8 : i = 8
        · subst h8; simp
        · rw [if_neg h9, if_neg h8, if_neg (by omega)]
    · rw [r3]
      funext i
      simp only [me_1I, if_neg hx, q2]
    · rw [r4 x h2]
      exact q3 x h1
  | succ d ih =>
    intro f k m h1 h2 h3 q1 q2 q3
    obtain ⟨f, rfl⟩ : ∃ g, f = g + 1 := ⟨f - 1, by omega⟩
    obtain ⟨m1, r1, r2⟩ := ih f (k + 1) (qm_sL m (a + 1) k (m.2 (b + 1) k)) (by omega) (by omega) (by omega) (fun j hj => by
      rw [me_2L, if_pos rfl]
      by_cases q : j = k
      · rw [if_pos q, q, q3 (b + 1) (by omega)]
      · rw [if_neg q]; exact q1 j (by omega)) q2 (fun x hx => by rw [(qm_sL_other x hx).2]; exact q3 x hx)
    refine ⟨m1, ?_, r2⟩
    show X_Ps_become_7 _ _ _ _ _ _ _ = _
    unfold X_Ps_become_7
    rw [fa, fb, fa7, fb7, ga1, ga2, ga4, ga5, gb2, gb3]
    dsimp only [qe_b, cond_true]
    have e1 : nI k < Int32.ofNat 8 := nI_lt (a := k) (b := 8) (by omega) (by omega)
    rw [if_pos e1, qm_in_nI (by omega) (by omega), nI_clamp (by omega), nI_1, qm_gL_o (by omega)]
    exact r1
/-- one becomes the other -/
theorem nu_become {a b : Nat} (ha : po a) (hb : po b) (hab : a ≠ b) (m : qm_M) : ∃ m1, F_Ps_become a b m = some (none, m1) ∧ (∀ k, k < 33 → px_c m1 a k = px_c m b k) ∧ m1.1 a 11 = m.1 a 11 ∧ px_fr a m m1 := by
  obtain ⟨m1, p1, p2, p3, p4, p5⟩ := nu_becomeBoard ha hb hab m
  obtain ⟨m2, r1, r2, r3, r4, r5, r6⟩ := nu_become7 ha hb hab m1 8 1000000 0 m1 rfl (by omega) (by omega) (fun j hj => absurd hj (Nat.not_lt_zero _)) rfl (fun x _ => rfl)
  have hdis := po_dis ha hb hab
  obtain ⟨⟨fa, -, -, -⟩, -, -⟩ := po_f ha
  refine ⟨m2, ?_, fun k hk => ?_, ?_, fun x hx => ?_, fun x h1 h2 h3 => ?_⟩
  · unfold F_Ps_become X_Ps_become_e
    rw [fa, p1]
    exact r1
  · unfold px_c
    by_cases c1 : k < 6
    · rw [if_pos c1, if_pos c1, r4, if_neg (by omega), p2, if_pos c1]
    · rw [if_neg c1, if_neg c1]
      by_cases c2 : k = 6
      · rw [if_pos c2, if_pos c2, r6 a (by omega) (by omega), p4]
      · rw [if_neg c2, if_neg c2]
        by_cases c3 : k < 15
        · rw [if_pos c3, if_pos c3, r2 (k - 7) (by omega), p5 (b + 1) (by omega)]
        · rw [if_neg c3, if_neg c3]
          by_cases c4 : k < 17
          · rw [if_pos c4, if_pos c4, r4, if_pos (by omega), p3 b (by omega)]
          · rw [if_neg c4, if_neg c4, r3 (k - 17) (by omega), p5 (b + 2) (by omega)]
  · rw [r4, if_neg (by omega), p2, if_neg (by omega)]
  · rw [r5 x hx, p3 x hx]
  · rw [r6 x h2 h3, p5 x h1]
