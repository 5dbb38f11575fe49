/-! undone, kept, back: the class -/
def sH (P : sP) : Int32 := nI (pc 64 (nb (P 6)).toNat)
theorem nu_headsShown {m : qm_M} {s : sT} (h : cs m s) : F_Ps_headsShown 1 m = some (some (.int (sH s.1)), m) := by
  unfold F_Ps_headsShown X_Ps_headsShown_e
  have e : qm_isO 1 5 = true := (po_f po_1).1.1
  have e2 : m.2 1 6 = s.1 6 := h.1 6 (by omega)
  rw [e, nu_bitCount, e2]
  rfl
def st_undo (s : sT) : sT := (s.2.1.2 (s.2.1.1 - 1), (s.2.1.1 - 1, s.2.1.2), s.2.2)
theorem nu_pop {m : qm_M} {s : sT} (h : cs m s) (hd : s.2.1.1 ≤ 10) (h0 : 0 < s.2.1.1) : ∃ m1, F_Pa_pop m = some (none, m1) ∧ cs m1 (st_undo s) ∧ hi_fr m m1 := by
  obtain ⟨c1, ⟨x, hx, c2, c3, c4⟩, c5, c6, c7⟩ := h
  generalize hy : (if 0 < x then x - 1 else 9) = y
  have hy10 : y < 10 := by rw [← hy]; split <;> omega
  obtain ⟨r1, r2, r3⟩ := po_ring hy10
  have hpx0 : ∀ o k, o ≠ 4 → px_c (qm_sI (qm_sI m 4 1 (nI y)) 4 2 (nI (s.2.1.1 - 1))) o k = px_c m o k := fun o k ho => px_c_eq (m := m) (m1 := qm_sI (qm_sI m 4 1 (nI y)) 4 2 (nI (s.2.1.1 - 1))) (o := o) (by funext i; simp only [me_1I, if_neg ho]) rfl rfl rfl k
  obtain ⟨m1, b1, b2, b3, b4⟩ := nu_become po_1 r1 (Ne.symm r2) (qm_sI (qm_sI m 4 1 (nI y)) 4 2 (nI (s.2.1.1 - 1)))
  have a4 : ∀ i, m1.1 4 i = (qm_sI (qm_sI m 4 1 (nI y)) 4 2 (nI (s.2.1.1 - 1))).1 4 i := fun i => by rw [b4.1 4 (by omega)]
  refine ⟨m1, ?_, ⟨fun k hk => ?_, ⟨y, hy10, ?_, ?_, fun i hi k hk => ?_⟩, fun z hz => ?_, ?_, fun k hk => ?_⟩, ((hi_fr.I _ (by omega)).tr (hi_fr.I _ (by omega))).tr (b4.hi (by omega))⟩
  · unfold F_Pa_pop X_Pa_pop_e
    have e1 : (0 : Int32) < nI s.2.1.1 := nI_lt (a := 0) (b := s.2.1.1) h0 (by omega)
    have e2 : F_Pa_newest m = some (some (.int (nI y)), m) := by
      unfold F_Pa_newest X_Pa_newest_e
      rw [c2]
      by_cases q : 0 < x
      · have e3 : (0 : Int32) < nI x := nI_lt (a := 0) (b := x) q (by omega)
        have e4 : nI x - 1 = nI (x - 1) := pk_sub (a := x) (b := 1) (by omega)
        rw [if_pos e3, e4, ← hy, if_pos q]
      · have e3 : ¬ (0 : Int32) < nI x := nI_nlt (a := 0) (b := x) (by omega) (by omega)
        rw [if_neg e3, ← hy, if_neg q]
        rfl
    have e5 : nI s.2.1.1 - 1 = nI (s.2.1.1 - 1) := pk_sub (a := s.2.1.1) (b := 1) (by omega)
    rw [c3, if_pos e1, e2]
    dsimp only [qe_rI]
    have e6 : (qm_sI m 4 1 (nI y)).1 4 2 = nI s.2.1.1 := by
      rw [me_1I, if_pos rfl, if_neg (show ¬ (2 : Nat) = 1 by decide), c3]
    rw [e6, e5]
    have e7 : (qm_sI (qm_sI m 4 1 (nI y)) 4 2 (nI (s.2.1.1 - 1))).1 4 1 = nI y := by
      rw [me_1I, if_pos rfl, if_neg (show ¬ (1 : Nat) = 2 by decide), me_1I, if_pos rfl, if_pos rfl]
    rw [e7, qm_in_nI hy10 (by omega), nI_clamp (by omega), r3, b1]
    rfl
  · rw [b2 k hk, hpx0 _ k (by omega)]
    have ex : (x + 10 - s.2.1.1 + (s.2.1.1 - 1)) % 10 = y := by rw [← hy]; split <;> omega
    have := c4 (s.2.1.1 - 1) (by omega) k hk
    rw [ex] at this
    exact this
  · rw [a4, me_1I, if_pos rfl, if_neg (show ¬ (1 : Nat) = 2 by decide), me_1I, if_pos rfl, if_pos rfl]
  · rw [a4, me_1I, if_pos rfl, if_pos rfl]
    rfl
  · have hi' : i < s.2.1.1 - 1 := hi
    have ej : (y + 10 - (s.2.1.1 - 1) + i) % 10 = (x + 10 - s.2.1.1 + i) % 10 := by rw [← hy]; split <;> omega
    have hp := po_ring (j := (x + 10 - s.2.1.1 + i) % 10) (Nat.mod_lt _ (by omega))
    show px_c m1 (6 + 3 * ((y + 10 - (s.2.1.1 - 1) + i) % 10)) k = s.2.1.2 i k
    rw [ej, b4.c po_1 hp.1 hp.2.1 k, hpx0 _ k (by omega)]
    exact c4 i (by omega) k hk
  · obtain ⟨d1, d2⟩ := c5 z hz
    obtain ⟨z1, z2, -⟩ := po_shelf hz
    refine ⟨?_, fun q k hk => ?_⟩
    · rw [b4.1 _ z2, me_1I, if_neg (by omega), me_1I, if_neg (by omega)]
      exact d1
    · rw [b4.c po_1 z1 z2 k, hpx0 _ k (by omega)]
      exact d2 q k hk
  · rw [b4.1 43 (by omega), me_1I, if_neg (by omega), me_1I, if_neg (by omega)]
    exact c6
  · rw [b4.1 44 (by omega), me_1I, if_neg (by omega), me_1I, if_neg (by omega)]
    exact c7 k hk
theorem gd.undo {s : sT} (h : gd s) (h0 : 0 < s.2.1.1) : gd (st_undo s) := by
  obtain ⟨h1, h2, h3, h4, h5, h6⟩ := h
  exact ⟨h3 _ (by omega), (by show s.2.1.1 - 1 ≤ 10; omega), fun i hi => h3 i (by have : i < s.2.1.1 - 1 := hi; omega), h4, h5, h6⟩
theorem tw_undo {m : qm_M} {s : sT} (h : cs m s) (g : gd s) : ∃ m1, F_T_undo m = some (some (.int (if s.2.1.1 = 0 then -1 else nI (s.2.1.1 - 1))), m1) ∧ cs m1 (if s.2.1.1 = 0 then s else st_undo s) ∧ hi_fr m m1 := by
  unfold F_T_undo X_T_undo_e
  have c3 := h.2.1
  obtain ⟨x, hx, c2, c3, c4⟩ := c3
  rw [c3]
  by_cases q : s.2.1.1 = 0
  · rw [q, if_pos (by rfl), if_pos rfl, if_pos rfl]
    exact ⟨m, rfl, h, hi_fr.rf m⟩
  · have hd := g.2.1
    obtain ⟨m1, p1, p2, p3⟩ := nu_pop h hd (by omega)
    rw [if_neg (nI_ne0 (by omega) (by omega)), p1, if_neg q, if_neg q]
    dsimp only [qe_rV]
    have e : m1.1 4 2 = nI (s.2.1.1 - 1) := by
      obtain ⟨-, ⟨y, hy, d2, d3, d4⟩, -⟩ := p2
      exact d3
    rw [e]
    exact ⟨m1, rfl, p2, p3⟩
def st_keep (s : sT) (z : Nat) : sT := (s.1, s.2.1, (fun w => if w = z then true else s.2.2.1.1 w, fun w => if w = z then s.1 else s.2.2.1.2 w), s.2.2.2)
theorem gd.keep {s : sT} (h : gd s) (z : Nat) : gd (st_keep s z) := by
  obtain ⟨h1, h2, h3, h4, h5, h6⟩ := h
  refine ⟨h1, h2, h3, fun w hw q => ?_, h5, h6⟩
  show px_ok (if w = z then s.1 else s.2.2.1.2 w)
  by_cases e : w = z
  · rw [if_pos e]; exact h1
  · rw [if_neg e]
    refine h4 w hw ?_
    have q2 : (if w = z then true else s.2.2.1.1 w) = true := q
    rwa [if_neg e] at q2
/-- which shelf: 0 or 1, or none -/
theorem nw_shelf (v : Int32) : (∃ z, z < 2 ∧ v = nI z) ∨ (v < 0 ∨ ¬ v < 2) := by
  by_cases h1 : v < 0
  · exact Or.inr (Or.inl h1)
  · by_cases h2 : v < 2
    · obtain ⟨j, hj, rfl⟩ := nw_ex v h1
      refine Or.inl ⟨j, ?_, rfl⟩
      by_cases q : j < 2
      · exact q
      · exact absurd h2 (nI_nlt (a := j) (b := 2) (by omega) hj)
    · exact Or.inr (Or.inr h2)
theorem nu_hasShelf1 {z : Nat} (hz : z < 2) (m : qm_M) : F_T_hasShelf (nI z) m = some (some (.int 1), m) := by
  unfold F_T_hasShelf X_T_hasShelf_e
  have e1 : nI z < (2 : Int32) := nI_lt (a := z) (b := 2) hz (by omega)
  rw [if_neg (nI_pos (by omega)), if_pos e1]
theorem nu_hasShelf0 {v : Int32} (h : v < 0 ∨ ¬ v < 2) (m : qm_M) : F_T_hasShelf v m = some (some (.int 0), m) := by
  unfold F_T_hasShelf X_T_hasShelf_e
  by_cases h1 : v < 0
  · rw [if_pos h1]
  · rw [if_neg h1, if_neg (h.resolve_left h1)]
theorem tw_keep {m : qm_M} {s : sT} (h : cs m s) {z : Nat} (hz : z < 2) : ∃ m1, F_T_keep (nI z) m = some (some (.int (sH s.1)), m1) ∧ cs m1 (st_keep s z) ∧ hi_fr m m1 := by
  obtain ⟨z1, z2, z3⟩ := po_shelf hz
  obtain ⟨m1, b1, b2, b3, b4⟩ := nu_become z1 po_1 z2 m
  obtain ⟨⟨fo, -, -, -⟩, -, -⟩ := po_f z1
  obtain ⟨c1, ⟨x, hx, c2, c3, c4⟩, c5, c6, c7⟩ := h
  have hpx : ∀ o k, px_c (qm_sI m1 (37 + 3 * z) 11 1) o k = px_c m1 o k := fun o k => by
    unfold px_c
    simp only [me_1I, me_2I]
    by_cases ho : o = 37 + 3 * z
    · rw [if_pos ho]
      by_cases e1 : k < 6
      · rw [if_pos e1, if_pos e1, if_neg (by omega)]
      · rw [if_neg e1, if_neg e1]
        by_cases e2 : k = 6
        · rw [if_pos e2, if_pos e2]
        · rw [if_neg e2, if_neg e2]
          by_cases e3 : k < 15
          · rw [if_pos e3, if_pos e3]
          · rw [if_neg e3, if_neg e3]
            by_cases e4 : k < 17
            · rw [if_pos e4, if_pos e4, if_pos ho, if_neg (by omega)]
            · rw [if_neg e4, if_neg e4]
    · rw [if_neg ho, if_neg ho]
  have hcs : cs (qm_sI m1 (37 + 3 * z) 11 1) (st_keep s z) := by
    refine ⟨fun k hk => ?_, ⟨x, hx, ?_, ?_, fun i hi k hk => ?_⟩, fun w hw => ?_, ?_, fun k hk => ?_⟩
    · rw [hpx, b4.c z1 po_1 (Ne.symm z2) k]
      exact c1 k hk
    · rw [me_1I, if_neg (by omega), b4.1 4 (by omega)]
      exact c2
    · rw [me_1I, if_neg (by omega), b4.1 4 (by omega)]
      exact c3
    · have hp := po_ring (j := (x + 10 - s.2.1.1 + i) % 10) (Nat.mod_lt _ (by omega))
      rw [hpx]
      show px_c m1 (6 + 3 * ((x + 10 - s.2.1.1 + i) % 10)) k = _
      rw [b4.c z1 hp.1 (by omega) k]
      exact c4 i hi k hk
    · obtain ⟨w1, w2, -⟩ := po_shelf hw
      obtain ⟨d1, d2⟩ := c5 w hw
      show (qm_sI m1 (37 + 3 * z) 11 1).1 (37 + 3 * w) 11 = (if (if w = z then true else s.2.2.1.1 w) = true then 1 else 0) ∧ ((if w = z then true else s.2.2.1.1 w) = true → ∀ k, k < 33 → px_c (qm_sI m1 (37 + 3 * z) 11 1) (37 + 3 * w) k = (if w = z then s.1 else s.2.2.1.2 w) k)
      by_cases e : w = z
      · rw [if_pos e, if_pos e, e, if_pos rfl]
        refine ⟨?_, fun _ k hk => ?_⟩
        · rw [me_1I, if_pos rfl, if_pos rfl]
        · rw [hpx, b2 k hk]
          exact c1 k hk
      · rw [if_neg e, if_neg e]
        refine ⟨?_, fun q k hk => ?_⟩
        · rw [me_1I, if_neg (by omega), b4.1 _ (by omega)]
          exact d1
        · rw [hpx, b4.c z1 w1 (by omega) k]
          exact d2 q k hk
    · rw [me_1I, if_neg (by omega), b4.1 43 (by omega)]
      exact c6
    · rw [me_1I, if_neg (by omega), b4.1 44 (by omega)]
      exact c7 k hk
  refine ⟨_, ?_, hcs, (b4.hi (by omega)).tr (hi_fr.I _ (by omega))⟩
  unfold F_T_keep X_T_keep_e
  rw [nu_hasShelf1 hz]
  dsimp only [qe_rI]
  rw [if_neg (by decide), qm_in_nI hz (by omega), nI_clamp (by omega), z3, fo, b1]
  dsimp only [qe_b, cond_true, qe_rV]
  rw [nu_headsShown hcs]
  rfl
theorem tw_keep0 {v : Int32} (h : v < 0 ∨ ¬ v < 2) (m : qm_M) : F_T_keep v m = some (some (.int (-1)), m) := by
  unfold F_T_keep X_T_keep_e
  rw [nu_hasShelf0 h]
  rfl
theorem tw_back {m : qm_M} {s : sT} (h : cs m s) (g : gd s) {z : Nat} (hz : z < 2) : ∃ m1, F_T_back (nI z) m = some (some (.int (if s.2.2.1.1 z = true then sH (s.2.2.1.2 z) else -2)), m1) ∧ cs m1 (if s.2.2.1.1 z = true then st_act s (s.2.2.1.2 z) else s) ∧ hi_fr m m1 := by
  obtain ⟨z1, z2, z3⟩ := po_shelf hz
  obtain ⟨⟨fo, -, -, -⟩, -, -⟩ := po_f z1
  have c5 := h.2.2.1 z hz
  unfold F_T_back X_T_back_e
  rw [nu_hasShelf1 hz]
  dsimp only [qe_rI]
  rw [if_neg (by decide), qm_in_nI hz (by omega), nI_clamp (by omega), z3, fo]
  dsimp only [qe_b, cond_true]
  rw [c5.1]
  by_cases q : s.2.2.1.1 z = true
  · obtain ⟨m1, p1, p2, p3⟩ := nu_push h g.2.1
    obtain ⟨m2, b1, b2, b3, b4⟩ := nu_become po_1 z1 (Ne.symm z2) m1
    have hcs : cs m2 (st_act s (s.2.2.1.2 z)) := p2.now b4 (fun k hk => (b2 k hk).trans ((p2.2.2.1 z hz).2 q k hk))
    rw [if_pos q, if_neg (by decide), p1, if_pos q, if_pos q]
    dsimp only [qe_rV]
    rw [b1]
    dsimp only [qe_rV]
    rw [nu_headsShown hcs]
    exact ⟨m2, rfl, hcs, p3.tr (b4.hi (by omega))⟩
  · rw [if_neg q, if_pos rfl, if_neg q, if_neg q]
    exact ⟨m, rfl, h, hi_fr.rf m⟩
theorem tw_back0 {v : Int32} (h : v < 0 ∨ ¬ v < 2) (m : qm_M) : F_T_back v m = some (some (.int (-1)), m) := by
  unfold F_T_back X_T_back_e
  rw [nu_hasShelf0 h]
  rfl
