/-! calls on both sides: entries told; counts; the tape fed and cut -/
/-! the tape -/
/-- a byte of five ints -/
def st_byte (x : Int32) (k : Nat) : Int32 := Int8.toInt32 (Int32.toInt8 (Int8.toInt32 (Int32.toInt8 (qo_ishr x (nI (24 - 8 * k))))))
def st_arg (a b c d e : Int32) (k : Nat) : Int32 := if k < 4 then a else if k < 8 then b else if k < 12 then c else if k < 16 then d else e
def st_feed (s : sT) (a b c d e : Int32) : sT := (s.1, s.2.1, s.2.2.1, (s.2.2.2.1 + 20, fun k => if s.2.2.2.1 ≤ k then st_byte (st_arg a b c d e (k - s.2.2.2.1)) ((k - s.2.2.2.1) % 4) else s.2.2.2.2 k))
theorem gd.feed {s : sT} (h : gd s) (ht : s.2.2.2.1 ≤ 100) (a b c d e : Int32) : gd (st_feed s a b c d e) := by
  obtain ⟨h1, h2, h3, h4, h5, h6⟩ := h
  refine ⟨h1, h2, h3, h4, (by show s.2.2.2.1 + 20 ≤ 120; omega), fun k hk => ?_⟩
  show ((if s.2.2.2.1 ≤ k then st_byte (st_arg a b c d e (k - s.2.2.2.1)) ((k - s.2.2.2.1) % 4) else s.2.2.2.2 k).toInt8).toInt32 = if s.2.2.2.1 ≤ k then st_byte (st_arg a b c d e (k - s.2.2.2.1)) ((k - s.2.2.2.1) % 4) else s.2.2.2.2 k
  by_cases q : s.2.2.2.1 ≤ k
  · rw [if_pos q]
    unfold st_byte
    rw [Int8.toInt8_toInt32]
  · rw [if_neg q]
    exact h6 k (by omega)
/-- the class's tape alone changes -/
theorem cs.tp {m m1 : qm_M} {s : sT} (h : cs m s) {t : Nat × (Nat → Int32)} (h1 : ∀ a, a ≠ 43 → a ≠ 44 → m1.1 a = m.1 a) (h2 : m1.2 = m.2) (ht : cs_tape m1 t) : cs m1 (s.1, s.2.1, s.2.2.1, t) := by
  obtain ⟨c1, ⟨x, hx, c2, c3, c4⟩, c5, c6⟩ := h
  have e : ∀ o, o ≤ 42 → ∀ k, px_c m1 o k = px_c m o k := fun o ho k => px_c_eq (h1 o (by omega) (by omega)) (by rw [h2]) (by rw [h2]) (by rw [h2]) k
  refine ⟨fun k hk => (e 1 (by omega) k).trans (c1 k hk), ⟨x, hx, by rw [h1 4 (by omega) (by omega)]; exact c2, by rw [h1 4 (by omega) (by omega)]; exact c3, fun i hi k hk => (e _ (by omega) k).trans (c4 i hi k hk)⟩, fun z hz => ?_, ht⟩
  obtain ⟨d1, d2⟩ := c5 z hz
  exact ⟨by rw [h1 _ (by omega) (by omega)]; exact d1, fun q k hk => (e _ (by omega) k).trans (d2 q k hk)⟩
theorem ms.tp {m m1 : qm_M} {s : sT} (h : ms m s) {t : Nat × (Nat → Int32)} (h1 : ∀ a, a ≠ 129 → a ≠ 112 → m1.1 a = m.1 a) (h12 : m1.1 112 2 = m.1 112 2) (h2 : m1.2 = m.2) (ht : ms_tape m1 t) : ms m1 (s.1, s.2.1, s.2.2.1, t) := by
  obtain ⟨⟨a1, a2⟩, a3, ⟨a4, a5⟩, a6, a7⟩ := h
  refine ⟨⟨fun a b ha hb => by rw [h2]; exact a1 a b ha hb, fun k hk => by rw [h2]; exact a2 k hk⟩, fun k hk => by rw [h2]; exact a3 k hk, ⟨by rw [h12]; exact a4, fun i hi k hk => by rw [h2]; exact a5 i hi k hk⟩, fun z hz => by rw [h1 116 (by omega) (by omega), h2]; exact a6 z hz, ht⟩
theorem nu_append {t : Nat} (ht : t + 4 ≤ 120) (x : Int32) (m : qm_M) (hm : m.1 43 2 = nI t) : ∃ m1, F_Ta_append x m = some (none, m1) ∧ m1.1 43 2 = nI (t + 4) ∧ m1.2 = m.2 ∧ (∀ a, a ≠ 43 → a ≠ 44 → m1.1 a = m.1 a) ∧ ∀ k, m1.1 44 k = if t ≤ k ∧ k < t + 4 then st_byte x (k - t) else m.1 44 k := by
  have step : ∀ (f k : Nat) (m : qm_M), k < 4 → m.1 43 2 = nI (t + k) → L_Ta_append_3 (f + 1) x (nI (24 - 8 * k)) m = L_Ta_append_3 f x (nI (24 - 8 * k) + (-8)) (qm_sI (qm_sI m 44 (t + k) (st_byte x k)) 43 2 (nI (t + k + 1))) := by
    intro f k m hk hm
    show X_Ta_append_3 _ _ _ _ = _
    unfold X_Ta_append_3
    have e1 : nI (t + k) < (120 : Int32) := nI_lt (a := t + k) (b := 120) (by omega) (by omega)
    rw [if_neg (nI_pos (by omega)), hm, if_pos e1, qm_in_nI (by omega) (by omega), nI_clamp (by omega), qe_b_e]
    dsimp only
    rw [me_1I, if_neg (by decide), hm, nI_1]
    rfl
  have e24 : ∀ k, k < 3 → nI (24 - 8 * k) + (-8) = nI (24 - 8 * (k + 1)) := fun k hk => by
    have c : (List.range 3).all (fun k => decide (nI (24 - 8 * k) + (-8) = nI (24 - 8 * (k + 1)))) = true := by decide +kernel
    exact of_decide_eq_true (List.all_eq_true.mp c k (List.mem_range.mpr hk))
  have g : ∀ (m : qm_M) (k : Nat) (y : Int32), (qm_sI (qm_sI m 44 (t + k) y) 43 2 (nI (t + k + 1))).1 43 2 = nI (t + (k + 1)) := fun m k y => by rw [me_1I, if_pos rfl, if_pos rfl]; rfl
  have h0 := step 999999 0 m (by omega) hm
  have h1 := step 999998 1 (qm_sI (qm_sI m 44 (t + 0) (st_byte x 0)) 43 2 (nI (t + 0 + 1))) (by omega) (g m 0 (st_byte x 0))
  have h2 := step 999997 2 (qm_sI (qm_sI (qm_sI (qm_sI m 44 (t + 0) (st_byte x 0)) 43 2 (nI (t + 0 + 1))) 44 (t + 1) (st_byte x 1)) 43 2 (nI (t + 1 + 1))) (by omega) (g (qm_sI (qm_sI m 44 (t + 0) (st_byte x 0)) 43 2 (nI (t + 0 + 1))) 1 (st_byte x 1))
  have h3 := step 999996 3 (qm_sI (qm_sI (qm_sI (qm_sI (qm_sI (qm_sI m 44 (t + 0) (st_byte x 0)) 43 2 (nI (t + 0 + 1))) 44 (t + 1) (st_byte x 1)) 43 2 (nI (t + 1 + 1))) 44 (t + 2) (st_byte x 2)) 43 2 (nI (t + 2 + 1))) (by omega) (g (qm_sI (qm_sI (qm_sI (qm_sI m 44 (t + 0) (st_byte x 0)) 43 2 (nI (t + 0 + 1))) 44 (t + 1) (st_byte x 1)) 43 2 (nI (t + 1 + 1))) 2 (st_byte x 2))
  rw [e24 0 (by omega)] at h0
  rw [e24 1 (by omega)] at h1
  rw [e24 2 (by omega)] at h2
  refine ⟨qm_sI (qm_sI (qm_sI (qm_sI (qm_sI (qm_sI (qm_sI (qm_sI m 44 (t + 0) (st_byte x 0)) 43 2 (nI (t + 0 + 1))) 44 (t + 1) (st_byte x 1)) 43 2 (nI (t + 1 + 1))) 44 (t + 2) (st_byte x 2)) 43 2 (nI (t + 2 + 1))) 44 (t + 3) (st_byte x 3)) 43 2 (nI (t + 3 + 1)), ?_, ?_, rfl, fun a q1 q2 => ?_, fun k => ?_⟩
  · unfold F_Ta_append X_Ta_append_e
    have e : L_Ta_append_3 1000000 x 24 m = L_Ta_append_3 (999999 + 1) x (nI (24 - 8 * 0)) m := rfl
    rw [e, h0]
    have e2 : ∀ v m, L_Ta_append_3 999999 x v m = L_Ta_append_3 (999998 + 1) x v m := fun _ _ => rfl
    rw [e2, h1]
    have e3 : ∀ v m, L_Ta_append_3 999998 x v m = L_Ta_append_3 (999997 + 1) x v m := fun _ _ => rfl
    rw [e3, h2]
    have e4 : ∀ v m, L_Ta_append_3 999997 x v m = L_Ta_append_3 (999996 + 1) x v m := fun _ _ => rfl
    rw [e4, h3]
    have e5 : ∀ v m, L_Ta_append_3 999996 x v m = X_Ta_append_3 (L_Ta_append_3 999995) x v m := fun _ _ => rfl
    rw [e5]
    unfold X_Ta_append_3
    rw [if_pos (by decide)]
  · rw [me_1I, if_pos rfl, if_pos rfl]
  · funext i
    simp only [me_1I, if_neg q1, if_neg q2]
  · simp only [me_1I, if_neg (show ¬ (44 : Nat) = 43 by decide), if_true]
    by_cases c3 : k = t + 3
    · rw [if_pos c3, if_pos (by omega), c3, Nat.add_sub_cancel_left]
    · rw [if_neg c3]
      by_cases c2 : k = t + 2
      · rw [if_pos c2, if_pos (by omega), c2, Nat.add_sub_cancel_left]
      · rw [if_neg c2]
        by_cases c1 : k = t + 1
        · rw [if_pos c1, if_pos (by omega), c1, Nat.add_sub_cancel_left]
        · rw [if_neg c1]
          by_cases c0 : k = t + 0
          · rw [if_pos c0, if_pos (by omega), c0, Nat.add_sub_cancel_left]
          · rw [if_neg c0, if_neg (by omega)]
theorem gd.cut {s : sT} (h : gd s) {n : Nat} (hn : n ≤ s.2.2.2.1) : gd (s.1, s.2.1, s.2.2.1, (n, s.2.2.2.2)) := by
  obtain ⟨h1, h2, h3, h4, h5, h6⟩ := h
  exact ⟨h1, h2, h3, h4, (by show n ≤ 120; omega), fun k hk => h6 k (by have : k < n := hk; omega)⟩
