/-! tell -/
/-! both -/
/-- a board told -/
def sB (P : sP) (r k l c kc lc : Nat) (H : nb_F) : sP := fun j => if j = 0 then lN r else if j = 1 then lN c else if j = 2 then lN k else if j = 3 then lN kc else if j = 4 then lN l else if j = 5 then lN lc else if j = 6 then bn H else P j
theorem px_ok.board {P : sP} (h : px_ok P) {r k l c kc lc : Nat} {H : nb_F} (h1 : 1 ≤ r ∧ r ≤ 6 ∧ k ≤ 3 ∧ 1 ≤ l ∧ l ≤ 8) (h2 : 1 ≤ c ∧ c ≤ 6 ∧ kc ≤ 3 ∧ 1 ≤ lc ∧ lc ≤ 8) (h3 : hbd r c H) : px_ok (sB P r k l c kc lc H) := by
  obtain ⟨r0, c0, k1, k2, l1, l2, g1, g2, a1, a2, a3⟩ := h
  exact ⟨r, c, k, kc, l, lc, g1, g2, by omega, ⟨rfl, rfl, rfl, rfl, rfl, rfl, a2.2.2.2.2.2.2.1, a2.2.2.2.2.2.2.2⟩, h3⟩
theorem cs.tape0 {m m1 : qm_M} {s : sT} (h : cs m s) (g : tq m m1) : cs (qm_sI m1 43 2 0) (s.1, s.2.1, s.2.2.1, (0, s.2.2.2.2)) := by
  obtain ⟨c1, ⟨x, hx, c2, c3, c4⟩, c5, c6, c7⟩ := h
  have e1 : ∀ a, a ≤ 42 → (qm_sI m1 43 2 0).1 a = m.1 a := fun a ha => by rw [(qm_sI_other a (by omega)).1]; exact g.1 a (by omega) (by omega)
  have e : ∀ o, o ≤ 40 → ∀ k, px_c (qm_sI m1 43 2 0) o k = px_c m o k := fun o ho k => px_c_eq (e1 o (by omega)) (g.2.2 o (by omega)) (g.2.2 (o + 1) (by omega)) (g.2.2 (o + 2) (by omega)) k
  refine ⟨fun k hk => (e 1 (by omega) k).trans (c1 k hk), ⟨x, hx, by rw [e1 4 (by omega)]; exact c2, by rw [e1 4 (by omega)]; exact c3, fun i hi k hk => (e _ (by omega) k).trans (c4 i hi k hk)⟩, fun z hz => ?_, me_self _ _ _ _, fun k hk => absurd hk (Nat.not_lt_zero _)⟩
  obtain ⟨d1, d2⟩ := c5 z hz
  exact ⟨by rw [e1 _ (by omega)]; exact d1, fun q k hk => (e _ (by omega) k).trans (d2 q k hk)⟩
theorem ms.tape0 {m m1 : qm_M} {s : sT} (h : ms m s) (g : mq m m1) : ms (qm_sI m1 112 24 0) (s.1, s.2.1, s.2.2.1, (0, s.2.2.2.2)) := by
  obtain ⟨⟨a1, a2⟩, a3, ⟨a4, a5⟩, a6, ⟨a7, a8⟩⟩ := h
  have eL : ∀ a, a ≠ 112 → (qm_sI m1 112 24 0).2 a = m.2 a := fun a ha => g.2.2 a ha
  refine ⟨⟨fun a b ha hb => ?_, fun k hk => ?_⟩, fun k hk => ?_, ⟨?_, fun i hi k hk => ?_⟩, fun z hz => ?_, me_self _ _ _ _, fun k hk => absurd hk (Nat.not_lt_zero _)⟩
  · rw [eL 117 (by omega)]; exact a1 a b ha hb
  · rw [eL 118 (by omega)]; exact a2 k hk
  · rw [eL 113 (by omega)]; exact a3 k hk
  · rw [me_oth _ _ _ _ (Or.inr (by decide)), g.2.1 2 (by omega)]; exact a4
  · rw [eL 114 (by omega)]; exact a5 i hi k hk
  · rw [eL 115 (by omega), me_oth _ _ _ _ (Or.inl (by decide)), g.1 116 (by omega) (by omega) (by omega) (by omega)]; exact a6 z hz
/-- what an act's keeping leaves -/
theorem nu_push45 {m : qm_M} {s : sT} (h : cs m s) {m1 : qm_M} (e : F_Pa_push m = some (none, m1)) : m1.1 45 = m.1 45 ∧ m1.2 45 = m.2 45 := by
  obtain ⟨c1, ⟨x, hx, c2, c3, c4⟩, c5, c6, c7⟩ := h
  obtain ⟨r1, r2, r3⟩ := po_ring hx
  obtain ⟨m2, b1, b2, b3, b4⟩ := nu_become r1 po_1 r2 m
  obtain ⟨⟨fo, -, -, -⟩, -, -⟩ := po_f r1
  have fin : ∀ y, ∃ u v, L_Pa_push_35 (nI y) m2 = some (none, qm_sI (qm_sI m2 4 1 u) 4 2 v) := fun y => by
    unfold L_Pa_push_35 X_Pa_push_35
    dsimp only
    split
    · exact ⟨_, _, rfl⟩
    · exact ⟨_, _, rfl⟩
  unfold F_Pa_push X_Pa_push_e at e
  rw [c2, qm_in_nI hx (by omega), nI_clamp (by omega), r3, fo, b1] at e
  dsimp only [qe_b, cond_true, qe_rV] at e
  rw [show m2.1 4 1 = nI x by rw [b4.1 4 (by omega)]; exact c2, nI_1] at e
  have done : ∀ u v : Int32, m1 = qm_sI (qm_sI m2 4 1 u) 4 2 v → m1.1 45 = m.1 45 ∧ m1.2 45 = m.2 45 := fun u v q => by
    subst q
    refine ⟨?_, ?_⟩
    · rw [(qm_sI_other 45 (by decide)).1, (qm_sI_other 45 (by decide)).1]
      exact b4.1 45 (by omega)
    · exact b4.2 45 (by omega) (by omega) (by omega)
  split at e
  · obtain ⟨u, v, q⟩ := fin (x + 1)
    rw [q] at e
    exact done u v (congrArg Prod.snd (Option.some.inj e)).symm
  · obtain ⟨u, v, q⟩ := fin 0
    have q' : L_Pa_push_35 0 m2 = _ := q
    rw [q'] at e
    exact done u v (congrArg Prod.snd (Option.some.inj e)).symm
/-- the model writes the board -/
theorem tq.hi {m m1 : qm_M} (g : tq m m1) : hi_fr m m1 := ⟨fun a h => g.1 a (by omega) (by omega), fun a h => g.2.2 a (by omega)⟩
theorem mq.lo {m m1 : qm_M} (g : mq m m1) : lo_fr m m1 := ⟨fun a h => g.1 a (by omega) (by omega) (by omega) (by omega), fun a h => g.2.2 a (by omega)⟩
