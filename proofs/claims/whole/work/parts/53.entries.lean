/-! calls on both sides: entries told; counts; the tape fed and cut -/
theorem nu_hasEntry {m : qm_M} {s : sT} (h : cs m s) {r c : Nat} (e0 : s.1 15 = lN r) (e1 : s.1 16 = lN c) (hr : 0 < r ∧ r ≤ 4) (hc : 0 < c ∧ c ≤ 4) (v w : Int32) : (∃ i j, i < r ∧ j < c ∧ v = nI i ∧ w = nI j ∧ F_Ps_hasEntry 1 v w m = some (some (.int 1), m)) ∨ (F_Ps_hasEntry 1 v w m = some (some (.int 0), m) ∧ ((v < nI 0 ∨ nI (r - 1) < v) ∨ (w < nI 0 ∨ nI (c - 1) < w) ∧ ∃ i, i < r ∧ v = nI i)) := by
  have f0 : m.1 1 8 = nI r := cs_g h (k := 0) (by omega) e0
  have f1 : m.1 1 9 = nI c := cs_g h (k := 1) (by omega) e1
  have e : qm_isO 1 5 = true := (po_f po_1).1.1
  unfold F_Ps_hasEntry X_Ps_hasEntry_e
  rw [e, f0, f1]
  dsimp only [qe_b, cond_true]
  rcases nw_lt v (N := r) (by omega) (by omega) with ⟨i, hi, rfl⟩ | ⟨h1, h2⟩
  · rw [if_neg (nI_pos (by omega)), if_pos (nI_lt hi (by omega))]
    rcases nw_lt w (N := c) (by omega) (by omega) with ⟨j, hj, rfl⟩ | ⟨k1, k2⟩
    · rw [if_neg (nI_pos (by omega)), if_pos (nI_lt hj (by omega))]
      exact Or.inl ⟨i, j, hi, hj, rfl, rfl, rfl⟩
    · refine Or.inr ⟨?_, Or.inr ⟨k2, i, hi, rfl⟩⟩
      by_cases q : w < 0
      · rw [if_pos q]
      · rw [if_neg q, if_neg (k1.resolve_left q)]
  · refine Or.inr ⟨?_, Or.inl h2⟩
    by_cases q : v < 0
    · rw [if_pos q]
    · rw [if_neg q, if_neg (h1.resolve_left q)]
theorem nu_entryAt1 {m : qm_M} {s : sT} (h : cs m s) {i j : Nat} (hi : i < 4) (hj : j < 4) (e : F_Ps_hasEntry 1 (nI i) (nI j) m = some (some (.int 1), m)) : F_Ps_entryAt 1 (nI i) (nI j) m = some (some (.long (s.1 (17 + (4 * i + j)))), m) := by
  obtain ⟨⟨fa, -, fa10, -⟩, -, ⟨ga1, ga2, ga3, ga4, ga5⟩⟩ := po_f po_1
  unfold F_Ps_entryAt X_Ps_entryAt_e
  rw [fa, qe_b_e, e, qe_rI_e, if_neg n10, qe_b_e, fa10, ga3, ga2, qe_b_e, nI_4, qm_in_nI (by omega) (by omega), nI_clamp (by omega), qe_b_e, qm_gL_o (by omega), cs_e h (by omega)]
theorem mt_entryOf {m : qm_M} {P : sP} (h : ms_now m P) {i j : Nat} (hi : i < 4) (hj : j < 4) : F_M_entryOf (nI i) (nI j) m = some (some (.long (P (17 + (4 * i + j)))), m) := by
  unfold F_M_entryOf X_M_entryOf_e
  have e : (17 : Int32) + (4 : Int32) * nI i + nI j = nI (17 + (4 * i + j)) := by
    have e4 : (4 : Int32) * nI i = nI (4 * i) := pk_mul 4 i
    have e17 : (17 : Int32) + nI (4 * i) = nI (17 + 4 * i) := nI_add 17 (4 * i)
    rw [e4, e17, nI_add, Nat.add_assoc]
  rw [e, qm_in_nI (by omega) (by omega), nI_clamp (by omega), h _ (by omega)]
  rfl
theorem mt_isEntry1 {m : qm_M} {P : sP} (h : ms_now m P) {r c : Nat} (e0 : P 15 = lN r) (e1 : P 16 = lN c) (hr : 0 < r ∧ r ≤ 4) (hc : 0 < c ∧ c ≤ 4) {i j : Nat} (hi : i < r) (hj : j < c) : F_M_isEntry (nI i) (nI j) m = some (some (.int 1), m) := by
  unfold F_M_isEntry X_M_isEntry_e
  have d0 : m.2 113 15 - 1 = lN (r - 1) := by rw [h 15 (by omega), e0]; exact lN_sub (b := 1) (by omega)
  have d1 : m.2 113 16 - 1 = lN (c - 1) := by rw [h 16 (by omega), e1]; exact lN_sub (b := 1) (by omega)
  rw [d0, mt_in1 (j := i) (a := 0) (n := 0) (k := r - 1) rfl rfl rfl (by omega) (by omega) (by omega), qe_rI_e, if_neg n10, d1, mt_in1 (j := j) (a := 0) (n := 0) (k := c - 1) rfl rfl rfl (by omega) (by omega) (by omega), qe_rI_e, if_neg n10]
theorem mt_isEntry0 {m : qm_M} {P : sP} (h : ms_now m P) {r c : Nat} (e0 : P 15 = lN r) (e1 : P 16 = lN c) (hr : 0 < r ∧ r ≤ 4) (hc : 0 < c ∧ c ≤ 4) {v w : Int32} (q : (v < nI 0 ∨ nI (r - 1) < v) ∨ (w < nI 0 ∨ nI (c - 1) < w) ∧ ∃ i, i < r ∧ v = nI i) : F_M_isEntry v w m = some (some (.int 0), m) := by
  unfold F_M_isEntry X_M_isEntry_e
  have d0 : m.2 113 15 - 1 = lN (r - 1) := by rw [h 15 (by omega), e0]; exact lN_sub (b := 1) (by omega)
  have d1 : m.2 113 16 - 1 = lN (c - 1) := by rw [h 16 (by omega), e1]; exact lN_sub (b := 1) (by omega)
  rw [d0]
  rcases q with q | ⟨q, i, hi, rfl⟩
  · rw [mt_in0 (a := 0) (n := 0) (k := r - 1) rfl rfl (by omega) (by omega) q, qe_rI_e, if_pos rfl]
  · rw [mt_in1 (j := i) (a := 0) (n := 0) (k := r - 1) rfl rfl rfl (by omega) (by omega) (by omega), qe_rI_e, if_neg n10, d1, mt_in0 (a := 0) (n := 0) (k := c - 1) rfl rfl (by omega) (by omega) q, qe_rI_e, if_pos rfl]
theorem nu_setEntry {m : qm_M} {s : sT} (h : cs m s) {r c : Nat} (e0 : s.1 15 = lN r) (e1 : s.1 16 = lN c) (hr : 0 < r ∧ r ≤ 4) (hc : 0 < c ∧ c ≤ 4) {i j : Nat} (hi : i < r) (hj : j < c) (x : Int64) : F_Ps_setEntry 1 (nI i) (nI j) x m = some (none, qm_sL m 3 (4 * i + j) x) := by
  obtain ⟨⟨fa, -, fa10, -⟩, -, ⟨ga1, ga2, ga3, ga4, ga5⟩⟩ := po_f po_1
  have f0 : m.1 1 8 = nI r := cs_g h (k := 0) (by omega) e0
  have f1 : m.1 1 9 = nI c := cs_g h (k := 1) (by omega) e1
  have e : F_Ps_hasEntry 1 (nI i) (nI j) m = some (some (.int 1), m) := by
    unfold F_Ps_hasEntry X_Ps_hasEntry_e
    rw [fa, f0, f1, if_neg (nI_pos (by omega)), qe_b_e, if_pos (nI_lt hi (by omega)), if_neg (nI_pos (by omega)), qe_b_e, if_pos (nI_lt hj (by omega))]
  unfold F_Ps_setEntry X_Ps_setEntry_e
  rw [fa, qe_b_e, e, qe_rI_e, if_neg n10, qe_b_e, fa10, ga4, ga5, qe_b_e, nI_4, qm_in_nI (by omega) (by omega), nI_clamp (by omega), qe_b_e]
theorem w_enter (v w : Int32) (x : Int64) : act2 (F_T_enter v w x) (F_M_enter v w x) := by
  intro mc mm s hc hm g
  obtain ⟨r0, c0, k1, k2, l1, l2, r, c, h1, h2, h3⟩ := id g.1
  have h15 := h2.2.2.2.2.2.2.1
  have h16 := h2.2.2.2.2.2.2.2
  unfold F_T_enter X_T_enter_e F_M_enter X_M_enter_e
  rcases nu_hasEntry hc h15 h16 (by omega) (by omega) v w with ⟨i, j, hi, hj, rfl, rfl, e⟩ | ⟨e, q⟩
  · rw [e, qe_rI_e, if_neg n10, nu_entryAt1 hc (by omega) (by omega) e, qe_rL_e, mt_isEntry1 hm.2.1 h15 h16 (by omega) (by omega) hi hj, qe_rI_e, if_neg n10, mt_entryOf hm.2.1 (by omega) (by omega), qe_rL_e]
    by_cases q : lg_cmp (s.1 (17 + (4 * i + j))) x = 0
    · rw [if_pos q, if_pos q]
      exact act2.no hc hm g rfl rfl
    · obtain ⟨mc1, p1, p2, p3⟩ := nu_push hc g.2.1
      obtain ⟨mm1, q1, q2, q3, q4⟩ := mt_keepsAct hm g.2.1
      have e17 : (17 : Int32) + (4 : Int32) * nI i + nI j = nI (17 + (4 * i + j)) := by
        have e4 : (4 : Int32) * nI i = nI (4 * i) := pk_mul 4 i
        have e17 : (17 : Int32) + nI (4 * i) = nI (17 + 4 * i) := nI_add 17 (4 * i)
        rw [e4, e17, nI_add, Nat.add_assoc]
      rw [if_neg q, if_neg q, p1, qe_rV_e, q1, qe_rV_e, nu_setEntry p2 h15 h16 (by omega) (by omega) hi hj x, qe_rV_e, e17, qm_in_nI (by omega) (by omega), nI_clamp (by omega), qe_b_e]
      exact ⟨1, st_act s (sS s.1 (17 + (4 * i + j)) x), _, _, rfl, rfl, p2.setE (by omega) x, q2.set x, g.act (g.1.set (Or.inr (by omega)) x), p3.tr (hi_fr.L _ (by omega)), (mt_keepsAct_lo q3 q4).tr (lo_fr.L _ (by omega))⟩
  · rw [e, mt_isEntry0 hm.2.1 h15 h16 (by omega) (by omega) q]
    exact act2.no hc hm g rfl rfl
/-! the tape -/
/-- a byte of five ints -/
def st_byte (x : Int32) (k : Nat) : Int32 := Int8.toInt32 (Int32.toInt8 (Int8.toInt32 (Int32.toInt8 (qo_ishr x (nI (24 - 8 * k))))))
def st_arg (a b c d e : Int32) (k : Nat) : Int32 := if k < 4 then a else if k < 8 then b else if k < 12 then c else if k < 16 then d else e
def st_feed (s : sT) (a b c d e : Int32) : sT := (s.1, s.2.1, s.2.2.1, (s.2.2.2.1 + 20, fun k => if s.2.2.2.1 ≤ k then st_byte (st_arg a b c d e (k - s.2.2.2.1)) ((k - s.2.2.2.1) % 4) else s.2.2.2.2 k))
theorem gd.feed {s : sT} (h : gd s) (ht : s.2.2.2.1 ≤ 100) (a b c d e : Int32) : gd (st_feed s a b c d e) := by
  obtain ⟨h1, h2, h3, h4, h5, h6⟩ := h
  refine ⟨h1, h2, h3, h4, (by show s.2.2.2.1 + 20 ≤ 120; omega), fun k hk => ?_⟩
  show ((if s.2.2.2.1 ≤ k then st_byte (st_arg a b c d e (k - s.2.2.2.1)) ((k - s.2.2.2.1) % 4) else s.2.2.2.2 k).toInt8).toInt32 = if s.2.2.2.1 ≤ k then st_byte (st_arg a b c d e (k - s.2.2.2.1)) ((k - s.2.2.2.1) % 4) else s.2.2.2.2 k
  by_cases q : s.2.2.2.1 ≤ k
  · rw [if_pos q]
    unfold st_byte
    rw [Int8.toInt8_toInt32]
  · rw [if_neg q]
    exact h6 k (by omega)
/-- the class's tape alone changes -/
theorem cs.tp {m m1 : qm_M} {s : sT} (h : cs m s) {t : Nat × (Nat → Int32)} (h1 : ∀ a, a ≠ 43 → a ≠ 44 → m1.1 a = m.1 a) (h2 : m1.2 = m.2) (ht : cs_tape m1 t) : cs m1 (s.1, s.2.1, s.2.2.1, t) := by
  obtain ⟨c1, ⟨x, hx, c2, c3, c4⟩, c5, c6⟩ := h
  have e : ∀ o, o ≤ 42 → ∀ k, px_c m1 o k = px_c m o k := fun o ho k => px_c_eq (h1 o (by omega) (by omega)) (by rw [h2]) (by rw [h2]) (by rw [h2]) k
  refine ⟨fun k hk => (e 1 (by omega) k).trans (c1 k hk), ⟨x, hx, by rw [h1 4 (by omega) (by omega)]; exact c2, by rw [h1 4 (by omega) (by omega)]; exact c3, fun i hi k hk => (e _ (by omega) k).trans (c4 i hi k hk)⟩, fun z hz => ?_, ht⟩
  obtain ⟨d1, d2⟩ := c5 z hz
  exact ⟨by rw [h1 _ (by omega) (by omega)]; exact d1, fun q k hk => (e _ (by omega) k).trans (d2 q k hk)⟩
theorem ms.tp {m m1 : qm_M} {s : sT} (h : ms m s) {t : Nat × (Nat → Int32)} (h1 : ∀ a, a ≠ 129 → a ≠ 112 → m1.1 a = m.1 a) (h12 : m1.1 112 2 = m.1 112 2) (h2 : m1.2 = m.2) (ht : ms_tape m1 t) : ms m1 (s.1, s.2.1, s.2.2.1, t) := by
  obtain ⟨⟨a1, a2⟩, a3, ⟨a4, a5⟩, a6, a7⟩ := h
  refine ⟨⟨fun a b ha hb => by rw [h2]; exact a1 a b ha hb, fun k hk => by rw [h2]; exact a2 k hk⟩, fun k hk => by rw [h2]; exact a3 k hk, ⟨by rw [h12]; exact a4, fun i hi k hk => by rw [h2]; exact a5 i hi k hk⟩, fun z hz => by rw [h1 116 (by omega) (by omega), h2]; exact a6 z hz, ht⟩
theorem nu_append {t : Nat} (ht : t + 4 ≤ 120) (x : Int32) (m : qm_M) (hm : m.1 43 2 = nI t) : ∃ m1, F_Ta_append x m = some (none, m1) ∧ m1.1 43 2 = nI (t + 4) ∧ m1.2 = m.2 ∧ (∀ a, a ≠ 43 → a ≠ 44 → m1.1 a = m.1 a) ∧ ∀ k, m1.1 44 k = if t ≤ k ∧ k < t + 4 then st_byte x (k - t) else m.1 44 k := by
  have step : ∀ (f k : Nat) (m : qm_M), k < 4 → m.1 43 2 = nI (t + k) → L_Ta_append_3 (f + 1) x (nI (24 - 8 * k)) m = L_Ta_append_3 f x (nI (24 - 8 * k) + (-8)) (qm_sI (qm_sI m 44 (t + k) (st_byte x k)) 43 2 (nI (t + k + 1))) := by
    intro f k m hk hm
    show X_Ta_append_3 _ _ _ _ = _
    unfold X_Ta_append_3
    have e1 : nI (t + k) < (120 : Int32) := nI_lt (a := t + k) (b := 120) (by omega) (by omega)
    rw [if_neg (nI_pos (by omega)), hm, if_pos e1, qm_in_nI (by omega) (by omega), nI_clamp (by omega), qe_b_e]
    dsimp only
    rw [me_1I, if_neg (by decide), hm, nI_1]
    rfl
  have e24 : ∀ k, k < 3 → nI (24 - 8 * k) + (-8) = nI (24 - 8 * (k + 1)) := fun k hk => by
    have c : (List.range 3).all (fun k => decide (nI (24 - 8 * k) + (-8) = nI (24 - 8 * (k + 1)))) = true := by decide +kernel
    exact of_decide_eq_true (List.all_eq_true.mp c k (List.mem_range.mpr hk))
  have g : ∀ (m : qm_M) (k : Nat) (y : Int32), (qm_sI (qm_sI m 44 (t + k) y) 43 2 (nI (t + k + 1))).1 43 2 = nI (t + (k + 1)) := fun m k y => by rw [me_1I, if_pos rfl, if_pos rfl]; rfl
  have h0 := step 999999 0 m (by omega) hm
  have h1 := step 999998 1 (qm_sI (qm_sI m 44 (t + 0) (st_byte x 0)) 43 2 (nI (t + 0 + 1))) (by omega) (g m 0 (st_byte x 0))
  have h2 := step 999997 2 (qm_sI (qm_sI (qm_sI (qm_sI m 44 (t + 0) (st_byte x 0)) 43 2 (nI (t + 0 + 1))) 44 (t + 1) (st_byte x 1)) 43 2 (nI (t + 1 + 1))) (by omega) (g (qm_sI (qm_sI m 44 (t + 0) (st_byte x 0)) 43 2 (nI (t + 0 + 1))) 1 (st_byte x 1))
  have h3 := step 999996 3 (qm_sI (qm_sI (qm_sI (qm_sI (qm_sI (qm_sI m 44 (t + 0) (st_byte x 0)) 43 2 (nI (t + 0 + 1))) 44 (t + 1) (st_byte x 1)) 43 2 (nI (t + 1 + 1))) 44 (t + 2) (st_byte x 2)) 43 2 (nI (t + 2 + 1))) (by omega) (g (qm_sI (qm_sI (qm_sI (qm_sI m 44 (t + 0) (st_byte x 0)) 43 2 (nI (t + 0 + 1))) 44 (t + 1) (st_byte x 1)) 43 2 (nI (t + 1 + 1))) 2 (st_byte x 2))
  rw [e24 0 (by omega)] at h0
  rw [e24 1 (by omega)] at h1
  rw [e24 2 (by omega)] at h2
  refine ⟨qm_sI (qm_sI (qm_sI (qm_sI (qm_sI (qm_sI (qm_sI (qm_sI m 44 (t + 0) (st_byte x 0)) 43 2 (nI (t + 0 + 1))) 44 (t + 1) (st_byte x 1)) 43 2 (nI (t + 1 + 1))) 44 (t + 2) (st_byte x 2)) 43 2 (nI (t + 2 + 1))) 44 (t + 3) (st_byte x 3)) 43 2 (nI (t + 3 + 1)), ?_, ?_, rfl, fun a q1 q2 => ?_, fun k => ?_⟩
  · unfold F_Ta_append X_Ta_append_e
    have e : L_Ta_append_3 1000000 x 24 m = L_Ta_append_3 (999999 + 1) x (nI (24 - 8 * 0)) m := rfl
    rw [e, h0]
    have e2 : ∀ v m, L_Ta_append_3 999999 x v m = L_Ta_append_3 (999998 + 1) x v m := fun _ _ => rfl
    rw [e2, h1]
    have e3 : ∀ v m, L_Ta_append_3 999998 x v m = L_Ta_append_3 (999997 + 1) x v m := fun _ _ => rfl
    rw [e3, h2]
    have e4 : ∀ v m, L_Ta_append_3 999997 x v m = L_Ta_append_3 (999996 + 1) x v m := fun _ _ => rfl
    rw [e4, h3]
    have e5 : ∀ v m, L_Ta_append_3 999996 x v m = X_Ta_append_3 (L_Ta_append_3 999995) x v m := fun _ _ => rfl
    rw [e5]
    unfold X_Ta_append_3
    rw [if_pos (by decide)]
  · rw [me_1I, if_pos rfl, if_pos rfl]
  · funext i
    simp only [me_1I, if_neg q1, if_neg q2]
  · simp only [me_1I, if_neg (show ¬ (44 : Nat) = 43 by decide), if_true]
    by_cases c3 : k = t + 3
    · rw [if_pos c3, if_pos (by omega), c3, Nat.add_sub_cancel_left]
    · rw [if_neg c3]
      by_cases c2 : k = t + 2
      · rw [if_pos c2, if_pos (by omega), c2, Nat.add_sub_cancel_left]
      · rw [if_neg c2]
        by_cases c1 : k = t + 1
        · rw [if_pos c1, if_pos (by omega), c1, Nat.add_sub_cancel_left]
        · rw [if_neg c1]
          by_cases c0 : k = t + 0
          · rw [if_pos c0, if_pos (by omega), c0, Nat.add_sub_cancel_left]
          · rw [if_neg c0, if_neg (by omega)]
theorem w_feed (a b c d e : Int32) : act2 (F_T_feed a b c d e) (F_M_feed a b c d e) := by
  intro mc mm s hc hm g
  have ht := g.2.2.2.2.1
  obtain ⟨t1, t2⟩ := hc.2.2.2
  obtain ⟨u1, u2⟩ := hm.2.2.2.2
  unfold F_T_feed X_T_feed_e F_M_feed X_M_feed_e
  by_cases q : s.2.2.2.1 ≤ 100
  · have eT : F_Ta_hasRoom 20 mc = some (some (.int 1), mc) := by
      unfold F_Ta_hasRoom X_Ta_hasRoom_e
      have e1 : nI s.2.2.2.1 + (20 : Int32) = nI (s.2.2.2.1 + 20) := nI_add _ 20
      have e2 : ¬ (120 : Int32) < nI (s.2.2.2.1 + 20) := nI_nlt (a := 120) (b := s.2.2.2.1 + 20) (by omega) (by omega)
      rw [t1, e1, if_neg e2]
    obtain ⟨m1, p1, p2, p3, p4, p5⟩ := nu_append (t := s.2.2.2.1) (by omega) a mc t1
    obtain ⟨m2, r1, r2, r3, r4, r5⟩ := nu_append (t := s.2.2.2.1 + 4) (by omega) b m1 p2
    obtain ⟨m3, v1, v2, v3, v4, v5⟩ := nu_append (t := s.2.2.2.1 + 4 + 4) (by omega) c m2 r2
    obtain ⟨m4, w1, w2, w3, w4, w5⟩ := nu_append (t := s.2.2.2.1 + 4 + 4 + 4) (by omega) d m3 v2
    obtain ⟨m5, x1, x2, x3, x4, x5⟩ := nu_append (t := s.2.2.2.1 + 4 + 4 + 4 + 4) (by omega) e m4 w2
    have hcs : cs m5 (st_feed s a b c d e) := hc.tp (fun k h1 h2 => by rw [x4 k h1 h2, w4 k h1 h2, v4 k h1 h2, r4 k h1 h2, p4 k h1 h2]) (by rw [x3, w3, v3, r3, p3]) ⟨x2, fun k hk => by
      show m5.1 44 k = if s.2.2.2.1 ≤ k then st_byte (st_arg a b c d e (k - s.2.2.2.1)) ((k - s.2.2.2.1) % 4) else s.2.2.2.2 k
      have hk' : k < s.2.2.2.1 + 20 := hk
      rw [x5, w5, v5, r5, p5]
      unfold st_arg
      by_cases z : s.2.2.2.1 ≤ k
      · rw [if_pos z]
        by_cases y4 : s.2.2.2.1 + 4 + 4 + 4 + 4 ≤ k
        · rw [if_pos (by omega), if_neg (by omega), if_neg (by omega), if_neg (by omega), if_neg (by omega), show (k - s.2.2.2.1) % 4 = k - (s.2.2.2.1 + 4 + 4 + 4 + 4) by omega]
        · rw [if_neg (by omega)]
          by_cases y3 : s.2.2.2.1 + 4 + 4 + 4 ≤ k
          · rw [if_pos (by omega), if_neg (by omega), if_neg (by omega), if_neg (by omega), if_pos (by omega), show (k - s.2.2.2.1) % 4 = k - (s.2.2.2.1 + 4 + 4 + 4) by omega]
          · rw [if_neg (by omega)]
            by_cases y2 : s.2.2.2.1 + 4 + 4 ≤ k
            · rw [if_pos (by omega), if_neg (by omega), if_neg (by omega), if_pos (by omega), show (k - s.2.2.2.1) % 4 = k - (s.2.2.2.1 + 4 + 4) by omega]
            · rw [if_neg (by omega)]
              by_cases y1 : s.2.2.2.1 + 4 ≤ k
              · rw [if_pos (by omega), if_neg (by omega), if_pos (by omega), show (k - s.2.2.2.1) % 4 = k - (s.2.2.2.1 + 4) by omega]
              · rw [if_neg (by omega), if_pos (by omega), if_pos (by omega), show (k - s.2.2.2.1) % 4 = k - s.2.2.2.1 by omega]
      · rw [if_neg (by omega), if_neg (by omega), if_neg (by omega), if_neg (by omega), if_neg (by omega), if_neg z]
        exact t2 k (by omega)⟩
    -- the model
    have hM : ∀ (n f k : Nat) (m : qm_M), 20 - k = n → k ≤ 20 → n < f → (∀ a, a ≠ 129 → m.1 a = mm.1 a) → m.2 = mm.2 → (∀ i, m.1 129 i = if s.2.2.2.1 ≤ i ∧ i < s.2.2.2.1 + k then st_byte (st_arg a b c d e (i - s.2.2.2.1)) ((i - s.2.2.2.1) % 4) else mm.1 129 i) →
        ∃ m1, L_M_feed_14 f a b c d e (nI k) m = some (some (.int (nI (s.2.2.2.1 + 20))), m1) ∧ (∀ a, a ≠ 129 → a ≠ 112 → m1.1 a = mm.1 a) ∧ m1.1 112 2 = mm.1 112 2 ∧ m1.2 = mm.2 ∧ m1.1 112 24 = nI (s.2.2.2.1 + 20) ∧ (∀ i, m1.1 129 i = if s.2.2.2.1 ≤ i ∧ i < s.2.2.2.1 + 20 then st_byte (st_arg a b c d e (i - s.2.2.2.1)) ((i - s.2.2.2.1) % 4) else mm.1 129 i) := by
      intro n
      induction n with
      | zero =>
        intro f k m h1 h2 h3 q1 q2 q3
        obtain ⟨f, rfl⟩ : ∃ g, f = g + 1 := ⟨f - 1, by omega⟩
        have e : k = 20 := by omega
        subst e
        refine ⟨qm_sI m 112 24 (nI (s.2.2.2.1 + 20)), ?_, fun a z1 z2 => ?_, ?_, q2, ?_, fun i => ?_⟩
        · show X_M_feed_14 _ _ _ _ _ _ _ _ = _
          unfold X_M_feed_14
          have e1 : nI s.2.2.2.1 + (20 : Int32) = nI (s.2.2.2.1 + 20) := nI_add _ 20
          rw [if_neg (by decide), q1 112 (by omega), u1, e1]
          dsimp only
          rw [me_1I, if_pos rfl, if_pos rfl]
        · rw [(qm_sI_other a z2).1]; exact q1 a z1
        · rw [me_1I, if_pos rfl, if_neg (by omega), q1 112 (by omega)]
        · rw [me_1I, if_pos rfl, if_pos rfl]
        · rw [me_1I, if_neg (by omega)]; exact q3 i
      | succ n ih =>
        intro f k m h1 h2 h3 q1 q2 q3
        obtain ⟨f, rfl⟩ : ∃ g, f = g + 1 := ⟨f - 1, by omega⟩
        obtain ⟨m1, r1, r2⟩ := ih f (k + 1) (qm_sI m 129 (s.2.2.2.1 + k) (st_byte (st_arg a b c d e k) (k % 4))) (by omega) (by omega) (by omega) (fun a ha => by rw [(qm_sI_other a ha).1]; exact q1 a ha) q2 (fun i => by
          rw [me_1I, if_pos rfl, q3]
          by_cases z : i = s.2.2.2.1 + k
          · rw [if_pos z, if_pos (by omega), z, Nat.add_sub_cancel_left]
          · rw [if_neg z]
            by_cases y : s.2.2.2.1 ≤ i ∧ i < s.2.2.2.1 + k
            · rw [if_pos y, if_pos (by omega)]
            · rw [if_neg y, if_neg (by omega)])
        refine ⟨m1, ?_, r2⟩
        have key : ∀ x, L_M_feed_67 (L_M_feed_14 f) a b c d e (nI k) x m = L_M_feed_14 f a b c d e (nI (k + 1)) (qm_sI m 129 (s.2.2.2.1 + k) (st_byte x (k % 4))) := fun x => by
          unfold L_M_feed_67 X_M_feed_67
          have er : qo_irem (nI k) 4 = nI (k % 4) := pk_rem (a := k) (d := 4) (by omega) (by omega) (by omega)
          have e8 : (8 : Int32) * nI (k % 4) = nI (8 * (k % 4)) := pk_mul 8 _
          have e24 : (24 : Int32) - nI (8 * (k % 4)) = nI (24 - 8 * (k % 4)) := pk_sub (a := 24) (b := 8 * (k % 4)) (by omega)
          have e4 : (!decide ((4 : Int32) = 0)) = true := by decide
          rw [e4, qe_b_e, q1 112 (by omega), u1, nI_add, qm_in_nI (by omega) (by omega), nI_clamp (by omega), qe_b_e, er, e8, e24, nI_1]
          rfl
        show X_M_feed_14 _ _ _ _ _ _ _ _ = _
        unfold X_M_feed_14
        have e1 : nI k < (20 : Int32) := nI_lt (a := k) (b := 20) (by omega) (by omega)
        have l4 : nI k < (4 : Int32) ↔ k < 4 := nI_ltI (a := k) (b := 4) (by omega) (by omega)
        have l8 : nI k < (8 : Int32) ↔ k < 8 := nI_ltI (a := k) (b := 8) (by omega) (by omega)
        have l12 : nI k < (12 : Int32) ↔ k < 12 := nI_ltI (a := k) (b := 12) (by omega) (by omega)
        have l16 : nI k < (16 : Int32) ↔ k < 16 := nI_ltI (a := k) (b := 16) (by omega) (by omega)
        rw [if_pos e1]
        simp only [key, l4, l8, l12, l16]
        unfold st_arg at r1
        by_cases y1 : k < 4
        · rw [if_pos y1] at r1 ⊢; exact r1
        · rw [if_neg y1] at r1 ⊢
          by_cases y2 : k < 8
          · rw [if_pos y2] at r1 ⊢; exact r1
          · rw [if_neg y2] at r1 ⊢
            by_cases y3 : k < 12
            · rw [if_pos y3] at r1 ⊢; exact r1
            · rw [if_neg y3] at r1 ⊢
              by_cases y4 : k < 16
              · rw [if_pos y4] at r1 ⊢; exact r1
              · rw [if_neg y4] at r1 ⊢; exact r1
    obtain ⟨mm1, y1, y2, y3, y4, y5, y6⟩ := hM 20 1000000 0 mm rfl (by omega) (by omega) (fun _ _ => rfl) rfl (fun i => by rw [if_neg (by omega)])
    have hms : ms mm1 (st_feed s a b c d e) := hm.tp y2 y3 y4 ⟨y5, fun k hk => by
      have hk' : k < s.2.2.2.1 + 20 := hk
      show mm1.1 129 k = if s.2.2.2.1 ≤ k then st_byte (st_arg a b c d e (k - s.2.2.2.1)) ((k - s.2.2.2.1) % 4) else s.2.2.2.2 k
      rw [y6]
      by_cases z : s.2.2.2.1 ≤ k
      · rw [if_pos z, if_pos (by omega)]
      · rw [if_neg z, if_neg (by omega)]; exact u2 k (by omega)⟩
    have e100 : ¬ (100 : Int32) < nI s.2.2.2.1 := nI_nlt (a := 100) (b := s.2.2.2.1) (by omega) (by omega)
    rw [eT, qe_rI_e, if_neg n10, p1, qe_rV_e, r1, qe_rV_e, v1, qe_rV_e, w1, qe_rV_e, x1, qe_rV_e, x2, u1, if_neg e100]
    exact ⟨_, _, m5, mm1, rfl, y1, hcs, hms, g.feed q a b c d e, ⟨fun k hk => by rw [x4 k (by omega) (by omega), w4 k (by omega) (by omega), v4 k (by omega) (by omega), r4 k (by omega) (by omega), p4 k (by omega) (by omega)], fun k hk => by rw [x3, w3, v3, r3, p3]⟩, ⟨fun k hk => y2 k (by omega) (by omega), fun k hk => by rw [y4]⟩⟩
  · have eT : F_Ta_hasRoom 20 mc = some (some (.int 0), mc) := by
      unfold F_Ta_hasRoom X_Ta_hasRoom_e
      have e1 : nI s.2.2.2.1 + (20 : Int32) = nI (s.2.2.2.1 + 20) := nI_add _ 20
      have e2 : (120 : Int32) < nI (s.2.2.2.1 + 20) := nI_lt (a := 120) (b := s.2.2.2.1 + 20) (by omega) (by omega)
      rw [t1, e1, if_pos e2]
    have e100 : (100 : Int32) < nI s.2.2.2.1 := nI_lt (a := 100) (b := s.2.2.2.1) (by omega) (by omega)
    rw [eT, qe_rI_e, if_pos rfl, u1, if_pos e100]
    exact act2.no hc hm g rfl rfl
theorem gd.cut {s : sT} (h : gd s) {n : Nat} (hn : n ≤ s.2.2.2.1) : gd (s.1, s.2.1, s.2.2.1, (n, s.2.2.2.2)) := by
  obtain ⟨h1, h2, h3, h4, h5, h6⟩ := h
  exact ⟨h1, h2, h3, h4, (by show n ≤ 120; omega), fun k hk => h6 k (by have : k < n := hk; omega)⟩
theorem w_end (v : Int32) : act2 (F_T_end v) (F_M_end v) := by
  intro mc mm s hc hm g
  have ht := g.2.2.2.2.1
  obtain ⟨t1, t2⟩ := hc.2.2.2
  obtain ⟨u1, u2⟩ := hm.2.2.2.2
  unfold F_T_end X_T_end_e F_M_end X_M_end_e
  rw [t1, u1, nI_l (by omega)]
  rcases nw_lt v (N := s.2.2.2.1 + 1) (by omega) (by omega) with ⟨j, hj, rfl⟩ | ⟨h1, h2⟩
  · have hcs : cs (qm_sI mc 43 2 (nI j)) (s.1, s.2.1, s.2.2.1, (j, s.2.2.2.2)) := hc.tp (fun a h1 _ => (qm_sI_other a h1).1) rfl ⟨by rw [me_1I, if_pos rfl, if_pos rfl], fun k hk => by
      have hk' : k < j := hk
      rw [me_1I, if_neg (by omega)]; exact t2 k (by omega)⟩
    have hms : ms (qm_sI mm 112 24 (nI j)) (s.1, s.2.1, s.2.2.1, (j, s.2.2.2.2)) := hm.tp (fun a _ h2 => (qm_sI_other a h2).1) (by rw [me_1I, if_pos rfl, if_neg (by omega)]) rfl ⟨by rw [me_1I, if_pos rfl, if_pos rfl], fun k hk => by
      have hk' : k < j := hk
      rw [me_1I, if_neg (by omega)]; exact u2 k (by omega)⟩
    rw [if_neg (nI_pos (by omega)), if_neg (nI_nlt (by omega) (by omega)), mt_in1 (j := j) (a := 0) (n := 0) (k := s.2.2.2.1) rfl rfl rfl (by omega) (by omega) (by omega), qe_rI_e, if_neg n10]
    exact ⟨nI j, _, _, _, rfl, rfl, hcs, hms, g.cut (by omega), hi_fr.I _ (by omega), lo_fr.I _ (by omega)⟩
  · have eT : (if v < 0 then some (some (Value.int (-1)), mc) else if nI s.2.2.2.1 < v then some (some (Value.int (-1)), mc) else some (some (Value.int v), qm_sI mc 43 2 v)) = some (some (.int (-1)), mc) := by
      by_cases q : v < 0
      · rw [if_pos q]
      · have q2 : nI s.2.2.2.1 < v := h2.resolve_left q
        rw [if_neg q, if_pos q2]
    have q2 : v < nI 0 ∨ nI s.2.2.2.1 < v := h2
    rw [eT, mt_in0 (a := 0) (n := 0) (k := s.2.2.2.1) rfl rfl (by omega) (by omega) q2]
    exact act2.no hc hm g rfl rfl
