/-! one state for both: the position; acts that can be undone; shelves; the tape -/
abbrev sP : Type := Nat → Int64
abbrev sT : Type := sP × (Nat × (Nat → sP)) × ((Nat → Bool) × (Nat → sP)) × (Nat × (Nat → Int32))
/-- a position as there may be -/
def px_ok (P : sP) : Prop := ∃ r c k1 k2 l1 l2 g1 g2 : Nat, (1 ≤ r ∧ r ≤ 6 ∧ 1 ≤ c ∧ c ≤ 6 ∧ k1 ≤ 3 ∧ k2 ≤ 3 ∧ 1 ≤ l1 ∧ l1 ≤ 8 ∧ 1 ≤ l2 ∧ l2 ≤ 8 ∧ 1 ≤ g1 ∧ g1 ≤ 4 ∧ 1 ≤ g2 ∧ g2 ≤ 4) ∧
  (P 0 = lN r ∧ P 1 = lN c ∧ P 2 = lN k1 ∧ P 3 = lN k2 ∧ P 4 = lN l1 ∧ P 5 = lN l2 ∧ P 15 = lN g1 ∧ P 16 = lN g2) ∧ ∀ i, (nb (P 6)).getLsbD i = true → i / 6 < r ∧ i % 6 < c
theorem px_ok.c {P Q : sP} (h : px_ok P) (e : ∀ k, k < 7 ∨ k = 15 ∨ k = 16 → Q k = P k) : px_ok Q := by
  obtain ⟨r, c, k1, k2, l1, l2, g1, g2, h1, h2, h3⟩ := h
  refine ⟨r, c, k1, k2, l1, l2, g1, g2, h1, ?_, ?_⟩
  · rw [e 0 (by omega), e 1 (by omega), e 2 (by omega), e 3 (by omega), e 4 (by omega), e 5 (by omega), e 15 (by omega), e 16 (by omega)]
    exact h2
  · rw [e 6 (by omega)]
    exact h3
/-- the state as there may be -/
def gd (s : sT) : Prop := px_ok s.1 ∧ s.2.1.1 ≤ 10 ∧ (∀ i, i < s.2.1.1 → px_ok (s.2.1.2 i)) ∧ (∀ z, z < 2 → s.2.2.1.1 z = true → px_ok (s.2.2.1.2 z)) ∧ s.2.2.2.1 ≤ 120 ∧ ∀ k, k < s.2.2.2.1 → ((s.2.2.2.2 k).toInt8).toInt32 = s.2.2.2.2 k
/-- the acts behind one more -/
def st_past (P : sP) (h : Nat × (Nat → sP)) : Nat × (Nat → sP) := if h.1 < 10 then (h.1 + 1, fun i => if i = h.1 then P else h.2 i) else (10, fun i => if i = 9 then P else h.2 (i + 1))
/-- an act -/
def st_act (s : sT) (P : sP) : sT := (P, st_past s.1 s.2.1, s.2.2)
theorem gd.act {s : sT} (h : gd s) {P : sP} (hP : px_ok P) : gd (st_act s P) := by
  obtain ⟨h1, h2, h3, h4, h5, h6⟩ := h
  refine ⟨hP, ?_, ?_, h4, h5, h6⟩
  · show (st_past s.1 s.2.1).1 ≤ 10
    unfold st_past
    by_cases q : s.2.1.1 < 10
    · rw [if_pos q]; exact q
    · rw [if_neg q]; exact Nat.le_refl 10
  · intro i hi
    show px_ok ((st_past s.1 s.2.1).2 i)
    have hi' : i < (st_past s.1 s.2.1).1 := hi
    unfold st_past at hi' ⊢
    by_cases q : s.2.1.1 < 10
    · rw [if_pos q] at hi' ⊢
      dsimp only at hi' ⊢
      by_cases e : i = s.2.1.1
      · rw [if_pos e]; exact h1
      · rw [if_neg e]; exact h3 i (by omega)
    · rw [if_neg q] at hi' ⊢
      dsimp only at hi' ⊢
      by_cases e : i = 9
      · rw [if_pos e]; exact h1
      · rw [if_neg e]; exact h3 (i + 1) (by omega)
/-! the class's -/
def cs_past (m : qm_M) (h : Nat × (Nat → sP)) : Prop := ∃ x, x < 10 ∧ m.1 4 1 = nI x ∧ m.1 4 2 = nI h.1 ∧ ∀ i, i < h.1 → ∀ k, k < 33 → px_c m (6 + 3 * ((x + 10 - h.1 + i) % 10)) k = h.2 i k
def cs_shelf (m : qm_M) (h : (Nat → Bool) × (Nat → sP)) : Prop := ∀ z, z < 2 → (m.1 (37 + 3 * z) 11 = if h.1 z then 1 else 0) ∧ (h.1 z = true → ∀ k, k < 33 → px_c m (37 + 3 * z) k = h.2 z k)
def cs_tape (m : qm_M) (h : Nat × (Nat → Int32)) : Prop := m.1 43 2 = nI h.1 ∧ ∀ k, k < h.1 → m.1 44 k = h.2 k
def cs (m : qm_M) (s : sT) : Prop := (∀ k, k < 33 → px_c m 1 k = s.1 k) ∧ cs_past m s.2.1 ∧ cs_shelf m s.2.2.1 ∧ cs_tape m s.2.2.2
theorem po_1 : po 1 := by
  show 1 ∈ po_l
  decide
theorem po_ring {j : Nat} (h : j < 10) : po (6 + 3 * j) ∧ 6 + 3 * j ≠ 1 ∧ qm_rf 5 j = 6 + 3 * j := by
  have c : (List.range 10).all (fun j => decide (6 + 3 * j ∈ po_l ∧ 6 + 3 * j ≠ 1 ∧ qm_rf 5 j = 6 + 3 * j)) = true := by decide +kernel
  exact (show 6 + 3 * j ∈ po_l ∧ 6 + 3 * j ≠ 1 ∧ qm_rf 5 j = 6 + 3 * j from of_decide_eq_true (List.all_eq_true.mp c j (List.mem_range.mpr h)))
theorem po_shelf {z : Nat} (h : z < 2) : po (37 + 3 * z) ∧ 37 + 3 * z ≠ 1 ∧ qm_rf 36 z = 37 + 3 * z := by
  have c : (List.range 2).all (fun z => decide (37 + 3 * z ∈ po_l ∧ 37 + 3 * z ≠ 1 ∧ qm_rf 36 z = 37 + 3 * z)) = true := by decide +kernel
  exact (show 37 + 3 * z ∈ po_l ∧ 37 + 3 * z ≠ 1 ∧ qm_rf 36 z = 37 + 3 * z from of_decide_eq_true (List.all_eq_true.mp c z (List.mem_range.mpr h)))
/-- nothing of a position is changed -/
theorem px_c_eq {m m1 : qm_M} {o : Nat} (h1 : m1.1 o = m.1 o) (h2 : m1.2 o = m.2 o) (h3 : m1.2 (o + 1) = m.2 (o + 1)) (h4 : m1.2 (o + 2) = m.2 (o + 2)) (k : Nat) : px_c m1 o k = px_c m o k := by
  unfold px_c
  rw [h1, h2, h3, h4]
/-- the class's other cells: those of its state are as they were -/
theorem cs.fr {m m1 : qm_M} {s : sT} (h : cs m s) (h1 : ∀ a, a ≤ 44 → m1.1 a = m.1 a) (h2 : ∀ a, a ≤ 44 → m1.2 a = m.2 a) : cs m1 s := by
  obtain ⟨c1, ⟨x, hx, c2, c3, c4⟩, c5, c6, c7⟩ := h
  have e : ∀ o, o ≤ 42 → ∀ k, px_c m1 o k = px_c m o k := fun o ho k => px_c_eq (h1 o (by omega)) (h2 o (by omega)) (h2 _ (by omega)) (h2 _ (by omega)) k
  refine ⟨fun k hk => (e 1 (by omega) k).trans (c1 k hk), ⟨x, hx, by rw [h1 4 (by omega)]; exact c2, by rw [h1 4 (by omega)]; exact c3, fun i hi k hk => (e _ (by omega) k).trans (c4 i hi k hk)⟩, fun z hz => ?_, by rw [h1 43 (by omega)]; exact c6, fun k hk => by rw [h1 44 (by omega)]; exact c7 k hk⟩
  obtain ⟨d1, d2⟩ := c5 z hz
  exact ⟨by rw [h1 _ (by omega)]; exact d1, fun q k hk => (e _ (by omega) k).trans (d2 q k hk)⟩
/-- only the position is another one -/
theorem cs.now {m m1 : qm_M} {s : sT} (h : cs m s) (g : px_fr 1 m m1) {P : sP} (hP : ∀ k, k < 33 → px_c m1 1 k = P k) : cs m1 (P, s.2) := by
  obtain ⟨c1, ⟨x, hx, c2, c3, c4⟩, c5, c6, c7⟩ := h
  refine ⟨hP, ⟨x, hx, by rw [g.1 4 (by omega)]; exact c2, by rw [g.1 4 (by omega)]; exact c3, fun i hi k hk => ?_⟩, fun z hz => ?_, by rw [g.1 43 (by omega)]; exact c6, fun k hk => by rw [g.1 44 (by omega)]; exact c7 k hk⟩
  · have hp := po_ring (j := (x + 10 - s.2.1.1 + i) % 10) (Nat.mod_lt _ (by omega))
    exact (g.c po_1 hp.1 hp.2.1 k).trans (c4 i hi k hk)
  · obtain ⟨d1, d2⟩ := c5 z hz
    have hp := po_shelf hz
    exact ⟨by rw [g.1 _ hp.2.1]; exact d1, fun q k hk => (g.c po_1 hp.1 hp.2.1 k).trans (d2 q k hk)⟩
/-- cells behind the class's state stay -/
def hi_fr (m m1 : qm_M) : Prop := (∀ a, 45 < a → m1.1 a = m.1 a) ∧ ∀ a, 45 < a → m1.2 a = m.2 a
theorem hi_fr.tr {m m1 m2 : qm_M} (h : hi_fr m m1) (g : hi_fr m1 m2) : hi_fr m m2 := ⟨fun a q => (g.1 a q).trans (h.1 a q), fun a q => (g.2 a q).trans (h.2 a q)⟩
theorem hi_fr.rf (m : qm_M) : hi_fr m m := ⟨fun _ _ => rfl, fun _ _ => rfl⟩
theorem px_fr.hi {a : Nat} (ha : a + 2 ≤ 45) {m m1 : qm_M} (g : px_fr a m m1) : hi_fr m m1 := ⟨fun x hx => g.1 x (by omega), fun x hx => g.2 x (by omega) (by omega) (by omega)⟩
theorem hi_fr.I (m : qm_M) {o j : Nat} {x : Int32} (ho : o ≤ 45) : hi_fr m (qm_sI m o j x) := ⟨fun a q => (qm_sI_other a (by omega)).1, fun _ _ => rfl⟩
theorem hi_fr.L (m : qm_M) {o j : Nat} {x : Int64} (ho : o ≤ 45) : hi_fr m (qm_sL m o j x) := ⟨fun _ _ => rfl, fun a q => (qm_sL_other a (by omega)).2⟩
/-- an act is kept by the class -/
theorem nu_push {m : qm_M} {s : sT} (h : cs m s) (hd : s.2.1.1 ≤ 10) : ∃ m1, F_Pa_push m = some (none, m1) ∧ cs m1 (s.1, st_past s.1 s.2.1, s.2.2) ∧ hi_fr m m1 := by
  obtain ⟨c1, ⟨x, hx, c2, c3, c4⟩, c5, c6, c7⟩ := h
  obtain ⟨r1, r2, r3⟩ := po_ring hx
  obtain ⟨m1, b1, b2, b3, b4⟩ := nu_become r1 po_1 r2 m
  obtain ⟨⟨fo, -, -, -⟩, -, -⟩ := po_f r1
  have ring : ∀ j, j < 10 → j ≠ x → ∀ k, px_c m1 (6 + 3 * j) k = px_c m (6 + 3 * j) k := fun j hj hne k => b4.c r1 (po_ring hj).1 (by omega) k
  have a4 : m1.1 4 = m.1 4 := b4.1 4 (by omega)
  -- the new places of the ring
  generalize hxn : (if x + 1 < 10 then x + 1 else 0) = xn
  generalize hdn : (if s.2.1.1 < 10 then s.2.1.1 + 1 else 10) = dn
  have hxn10 : xn < 10 := by rw [← hxn]; split <;> omega
  have e4 : F_Pa_push m = some (none, qm_sI (qm_sI m1 4 1 (nI xn)) 4 2 (nI dn)) := by
    unfold F_Pa_push X_Pa_push_e
    rw [c2, qm_in_nI hx (by omega), nI_clamp (by omega), r3, fo, b1]
    dsimp only [qe_b, cond_true, qe_rV]
    rw [a4, c2, nI_1]
    have fin : ∀ y, L_Pa_push_35 (nI y) m1 = some (none, qm_sI (qm_sI m1 4 1 (nI y)) 4 2 (nI dn)) := fun y => by
      unfold L_Pa_push_35 X_Pa_push_35
      simp only [me_1I, if_true]
      rw [if_neg (show ¬ (2 : Nat) = 1 by decide), a4, c3, nI_1]
      by_cases q : s.2.1.1 < 10
      · have e1 : nI s.2.1.1 < (10 : Int32) := nI_lt (a := s.2.1.1) (b := 10) q (by omega)
        rw [if_pos e1, ← hdn, if_pos q]
      · have e1 : ¬ nI s.2.1.1 < (10 : Int32) := nI_nlt (a := s.2.1.1) (b := 10) (by omega) (by omega)
        rw [if_neg e1, ← hdn, if_neg q]
        rfl
    by_cases q : x + 1 < 10
    · have e1 : nI (x + 1) < (10 : Int32) := nI_lt (a := x + 1) (b := 10) q (by omega)
      rw [if_pos e1, fin, ← hxn, if_pos q]
    · have e1 : ¬ nI (x + 1) < (10 : Int32) := nI_nlt (a := x + 1) (b := 10) (by omega) (by omega)
      rw [if_neg e1, ← hxn, if_neg q]
      exact fin 0
  have hpx : ∀ o k, o ≠ 4 → px_c (qm_sI (qm_sI m1 4 1 (nI xn)) 4 2 (nI dn)) o k = px_c m1 o k := fun o k ho => px_c_eq (m := m1) (m1 := qm_sI (qm_sI m1 4 1 (nI xn)) 4 2 (nI dn)) (o := o) (by funext i; simp only [me_1I, if_neg ho]) rfl rfl rfl k
  refine ⟨_, e4, ⟨fun k hk => ?_, ⟨xn, hxn10, ?_, ?_, fun i hi k hk => ?_⟩, fun z hz => ?_, ?_, fun k hk => ?_⟩, ((b4.hi (by omega)).tr (hi_fr.I _ (by omega))).tr (hi_fr.I _ (by omega))⟩
  · rw [hpx 1 k (by omega), b4.c r1 po_1 (Ne.symm r2) k]
    exact c1 k hk
  · simp only [me_1I, if_true]
    rw [if_neg (show ¬ (1 : Nat) = 2 by decide)]
  · simp only [me_1I, if_true]
    unfold st_past
    rw [← hdn]
    by_cases q : s.2.1.1 < 10
    · rw [if_pos q, if_pos q]
    · rw [if_neg q, if_neg q]
  · rw [hpx _ k (by omega)]
    unfold st_past at hi ⊢
    by_cases q : s.2.1.1 < 10
    · rw [if_pos q] at hi ⊢
      dsimp only at hi ⊢
      have ej : (xn + 10 - (s.2.1.1 + 1) + i) % 10 = (x + 10 - s.2.1.1 + i) % 10 := by rw [← hxn]; split <;> omega
      rw [ej]
      by_cases e : i = s.2.1.1
      · have ex : (x + 10 - s.2.1.1 + i) % 10 = x := by omega
        rw [if_pos e, ex, b2 k hk]
        exact c1 k hk
      · have ex : (x + 10 - s.2.1.1 + i) % 10 ≠ x := by omega
        rw [if_neg e, ring _ (Nat.mod_lt _ (by omega)) ex]
        exact c4 i (by omega) k hk
    · rw [if_neg q] at hi ⊢
      dsimp only at hi ⊢
      have hd10 : s.2.1.1 = 10 := by omega
      have ej : (xn + 10 - 10 + i) % 10 = (x + 10 - s.2.1.1 + (i + 1)) % 10 := by rw [← hxn]; split <;> omega
      rw [ej]
      by_cases e : i = 9
      · have ex : (x + 10 - s.2.1.1 + (i + 1)) % 10 = x := by omega
        rw [if_pos e, ex, b2 k hk]
        exact c1 k hk
      · have ex : (x + 10 - s.2.1.1 + (i + 1)) % 10 ≠ x := by omega
        rw [if_neg e, ring _ (Nat.mod_lt _ (by omega)) ex]
        exact c4 (i + 1) (by omega) k hk
  · obtain ⟨d1, d2⟩ := c5 z hz
    obtain ⟨z1, z2, -⟩ := po_shelf hz
    refine ⟨?_, fun q k hk => ?_⟩
    · simp only [me_1I, if_neg (show ¬ 37 + 3 * z = 4 by omega)]
      rw [b4.1 _ (by omega)]
      exact d1
    · rw [hpx _ k (by omega), b4.c r1 z1 (by omega) k]
      exact d2 q k hk
  · simp only [me_1I, if_neg (show ¬ 43 = 4 by omega)]
    rw [b4.1 43 (by omega)]
    exact c6
  · simp only [me_1I, if_neg (show ¬ 44 = 4 by omega)]
    rw [b4.1 44 (by omega)]
    exact c7 k hk
