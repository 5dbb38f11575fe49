/-! calls on both sides: cells turned, grids made, entries told -/
theorem nI_6 (i j : Nat) : (6 : Int32) * nI i + nI j = nI (6 * i + j) := by
  have e : (6 : Int32) * nI i = nI (6 * i) := pk_mul 6 i
  rw [e, nI_add]
theorem nI_4 (i j : Nat) : (4 : Int32) * nI i + nI j = nI (4 * i + j) := by
  have e : (4 : Int32) * nI i = nI (4 * i) := pk_mul 4 i
  rw [e, nI_add]
/-- in range or not, both ways of asking -/
theorem nu_hasCell {m : qm_M} {s : sT} (h : cs m s) {r c : Nat} (e0 : s.1 0 = lN r) (e1 : s.1 1 = lN c) (hr : 0 < r ∧ r ≤ 6) (hc : 0 < c ∧ c ≤ 6) (v w : Int32) : (∃ i j, i < r ∧ j < c ∧ v = nI i ∧ w = nI j ∧ F_Ps_hasCell 1 v w m = some (some (.int 1), m)) ∨ (F_Ps_hasCell 1 v w m = some (some (.int 0), m) ∧ ((v < nI 0 ∨ nI (r - 1) < v) ∨ (w < nI 0 ∨ nI (c - 1) < w) ∧ ∃ i, i < r ∧ v = nI i)) := by
  have f0 := cs_i h (k := 0) (by omega) e0
  have f1 := cs_i h (k := 1) (by omega) e1
  have e : qm_isO 1 5 = true := (po_f po_1).1.1
  unfold F_Ps_hasCell X_Ps_hasCell_e
  rw [e, f0, f1]
  dsimp only [qe_b, cond_true]
  rcases nw_lt v (N := r) (by omega) (by omega) with ⟨i, hi, rfl⟩ | ⟨h1, h2⟩
  · rw [if_neg (nI_pos (by omega)), if_pos (nI_lt hi (by omega))]
    rcases nw_lt w (N := c) (by omega) (by omega) with ⟨j, hj, rfl⟩ | ⟨k1, k2⟩
    · rw [if_neg (nI_pos (by omega)), if_pos (nI_lt hj (by omega))]
      exact Or.inl ⟨i, j, hi, hj, rfl, rfl, rfl⟩
    · refine Or.inr ⟨?_, Or.inr ⟨k2, i, hi, rfl⟩⟩
      by_cases q : w < 0
      · rw [if_pos q]
      · rw [if_neg q, if_neg (k1.resolve_left q)]
  · refine Or.inr ⟨?_, Or.inl h2⟩
    by_cases q : v < 0
    · rw [if_pos q]
    · rw [if_neg q, if_neg (h1.resolve_left q)]
theorem mt_manyOf {m : qm_M} {P : sP} (h : ms_now m P) {k n : Nat} (hk : k < 2) (e : P k = lN n) : F_M_manyOf (nI k) m = some (some (.int (nI n)), m) := by
  unfold F_M_manyOf X_M_manyOf_e
  have e1 : (0 : Int32) + nI k = nI k := by rw [show (0 : Int32) = nI 0 from rfl, nI_add, Nat.zero_add]
  rw [e1, qm_in_nI (by omega) (by omega), nI_clamp (by omega), h k (by omega), e, lN_i]
  rfl
theorem nI_m1L {r : Nat} (h : 0 < r) (hr : r < 2 ^ 31) : (nI r - 1).toInt64 = lN (r - 1) := by
  have e : nI r - 1 = nI (r - 1) := pk_sub (a := r) (b := 1) (by omega)
  rw [e, nI_l (by omega)]
theorem mt_isCell1 {m : qm_M} {P : sP} (h : ms_now m P) {r c : Nat} (e0 : P 0 = lN r) (e1 : P 1 = lN c) (hr : 0 < r ∧ r ≤ 6) (hc : 0 < c ∧ c ≤ 6) {i j : Nat} (hi : i < r) (hj : j < c) : F_M_isCell (nI i) (nI j) m = some (some (.int 1), m) := by
  unfold F_M_isCell X_M_isCell_e
  have g0 : F_M_manyOf 0 m = some (some (.int (nI r)), m) := mt_manyOf h (k := 0) (by omega) e0
  have g1 : F_M_manyOf 1 m = some (some (.int (nI c)), m) := mt_manyOf h (k := 1) (by omega) e1
  rw [g0, qe_rI_e, nI_m1L hr.1 (by omega), mt_in1 (j := i) (a := 0) (n := 0) (k := r - 1) rfl rfl rfl (by omega) (by omega) (by omega), qe_rI_e, if_neg n10, g1, qe_rI_e, nI_m1L hc.1 (by omega), mt_in1 (j := j) (a := 0) (n := 0) (k := c - 1) rfl rfl rfl (by omega) (by omega) (by omega), qe_rI_e, if_neg n10]
theorem mt_isCell0 {m : qm_M} {P : sP} (h : ms_now m P) {r c : Nat} (e0 : P 0 = lN r) (e1 : P 1 = lN c) (hr : 0 < r ∧ r ≤ 6) (hc : 0 < c ∧ c ≤ 6) {v w : Int32} (q : (v < nI 0 ∨ nI (r - 1) < v) ∨ (w < nI 0 ∨ nI (c - 1) < w) ∧ ∃ i, i < r ∧ v = nI i) : F_M_isCell v w m = some (some (.int 0), m) := by
  unfold F_M_isCell X_M_isCell_e
  have g0 : F_M_manyOf 0 m = some (some (.int (nI r)), m) := mt_manyOf h (k := 0) (by omega) e0
  have g1 : F_M_manyOf 1 m = some (some (.int (nI c)), m) := mt_manyOf h (k := 1) (by omega) e1
  rw [g0, qe_rI_e, nI_m1L hr.1 (by omega)]
  rcases q with q | ⟨q, i, hi, rfl⟩
  · rw [mt_in0 (a := 0) (n := 0) (k := r - 1) rfl rfl (by omega) (by omega) q, qe_rI_e, if_pos rfl]
  · rw [mt_in1 (j := i) (a := 0) (n := 0) (k := r - 1) rfl rfl rfl (by omega) (by omega) (by omega), qe_rI_e, if_neg n10, g1, qe_rI_e, nI_m1L hc.1 (by omega), mt_in0 (a := 0) (n := 0) (k := c - 1) rfl rfl (by omega) (by omega) q, qe_rI_e, if_pos rfl]
/-- heads that differ at one cell of the board -/
theorem px_ok.turn {P : sP} (h : px_ok P) {x : Int64} (hx : ∀ i, (nb x).getLsbD i = true → i < 36 ∧ ∃ r c, P 0 = lN r ∧ P 1 = lN c ∧ i / 6 < r ∧ i % 6 < c ∧ r ≤ 6 ∧ c ≤ 6) : px_ok (sS P 6 (P 6 ^^^ x)) := by
  obtain ⟨r, c, k1, k2, l1, l2, g1, g2, h1, h2, h3⟩ := h
  refine ⟨r, c, k1, k2, l1, l2, g1, g2, h1, h2, fun i hi => ?_⟩
  have e : sS P 6 (P 6 ^^^ x) 6 = P 6 ^^^ x := if_pos rfl
  rw [e, no_xor, BitVec.getLsbD_xor] at hi
  by_cases q : (nb (P 6)).getLsbD i = true
  · exact h3 i q
  · have q2 : (nb x).getLsbD i = true := by
      cases hb : (nb x).getLsbD i with
      | true => rfl
      | false =>
        have q3 : (nb (P 6)).getLsbD i = false := by simpa using q
        rw [hb, q3] at hi
        cases hi
    obtain ⟨-, r2, c2, z1, z2, z3, z4, z5, z6⟩ := hx i q2
    have er : r2 = r := (pk_lEQ (by omega) (by omega)).mp (z1.symm.trans h2.1)
    have ec : c2 = c := (pk_lEQ (by omega) (by omega)).mp (z2.symm.trans h2.2.1)
    rw [← er, ← ec]
    exact ⟨z3, z4⟩
/-- an act on heads -/
theorem act_heads {mc mm : qm_M} {s : sT} (hc : cs mc s) (hm : ms mm s) (g : gd s) (x : Int64) (hP : px_ok (sS s.1 6 (s.1 6 ^^^ x))) : ∃ mc1 mm1, F_Pa_push mc = some (none, mc1) ∧ F_M_keepsAct mm = some (none, mm1) ∧ mc1.2 1 6 = s.1 6 ∧ mm1.2 113 6 = s.1 6 ∧ cs (qm_sL mc1 1 6 (s.1 6 ^^^ x)) (st_act s (sS s.1 6 (s.1 6 ^^^ x))) ∧ ms (qm_sL mm1 113 6 (s.1 6 ^^^ x)) (st_act s (sS s.1 6 (s.1 6 ^^^ x))) ∧ gd (st_act s (sS s.1 6 (s.1 6 ^^^ x))) ∧ hi_fr mc (qm_sL mc1 1 6 (s.1 6 ^^^ x)) ∧ lo_fr mm (qm_sL mm1 113 6 (s.1 6 ^^^ x)) := by
  obtain ⟨mc1, p1, p2, p3⟩ := nu_push hc g.2.1
  obtain ⟨mm1, q1, q2, q3, q4⟩ := mt_keepsAct hm g.2.1
  exact ⟨mc1, mm1, p1, q1, cs_h (s := (s.1, st_past s.1 s.2.1, s.2.2)) p2, q2.2.1 6 (by omega), p2.setH _, q2.set _, g.act hP, p3.tr (hi_fr.L _ (by omega)), (mt_keepsAct_lo q3 q4).tr (lo_fr.L _ (by omega))⟩
theorem w_turn (v w : Int32) : act2 (F_T_turn v w) (F_M_turn v w) := by
  intro mc mm s hc hm g
  obtain ⟨r, c, k1, k2, l1, l2, g1, g2, h1, h2, h3⟩ := id g.1
  unfold F_T_turn X_T_turn_e F_M_turn X_M_turn_e
  rcases nu_hasCell hc h2.1 h2.2.1 (by omega) (by omega) v w with ⟨i, j, hi, hj, rfl, rfl, e⟩ | ⟨e, q⟩
  · have hP : px_ok (sS s.1 6 (s.1 6 ^^^ bn (nb_e (6 * i + j)))) := g.1.turn (fun k hk => by
      have hk64 : k < 64 := by
        rcases Nat.lt_or_ge k 64 with z | z
        · exact z
        · rw [BitVec.getLsbD_of_ge _ _ z] at hk; cases hk
      rw [nb_bn, BitVec.getLsbD_eq_getElem hk64, nb_e_bit _ k hk64] at hk
      have hk := of_decide_eq_true hk
      exact ⟨by omega, r, c, h2.1, h2.2.1, by omega, by omega, by omega, by omega⟩)
    obtain ⟨mc1, mm1, p1, q1, p4, q4, p2, q2, g2, p3, q3⟩ := act_heads hc hm g (bn (nb_e (6 * i + j))) hP
    rw [e, qe_rI_e, if_neg n10, p1, qe_rV_e, mt_isCell1 hm.2.1 h2.1 h2.2.1 (by omega) (by omega) hi hj, qe_rI_e, if_neg n10, q1, qe_rV_e]
    unfold F_Ps_bitOf X_Ps_bitOf_e F_M_place_III X_M_place_III_e
    rw [qe_rL_e, qe_rI_e, nI_6, no_lshl1 (by omega), p4, q4]
    dsimp only
    rw [nu_headsShown p2, mt_heads q2.2.1]
    exact ⟨_, _, _, _, rfl, rfl, p2, q2, g2, p3, q3⟩
  · rw [e, mt_isCell0 hm.2.1 h2.1 h2.2.1 (by omega) (by omega) q]
    exact act2.no hc hm g rfl rfl
/-! grids -/
def sG (P : sP) (r c : Nat) : sP := fun k => if k = 15 then lN r else if k = 16 then lN c else if 17 ≤ k then 0 else P k
theorem px_ok.grid {P : sP} (h : px_ok P) {r c : Nat} (hr : 1 ≤ r ∧ r ≤ 4) (hc : 1 ≤ c ∧ c ≤ 4) : px_ok (sG P r c) := by
  obtain ⟨r0, c0, k1, k2, l1, l2, g1, g2, h1, h2, h3⟩ := h
  exact ⟨r0, c0, k1, k2, l1, l2, r, c, by omega, ⟨h2.1, h2.2.1, h2.2.2.1, h2.2.2.2.1, h2.2.2.2.2.1, h2.2.2.2.2.2.1, rfl, rfl⟩, h3⟩
theorem nu_clear12 (m0 : qm_M) (d : Nat) : ∀ (f k : Nat) (m : qm_M), 16 - k = d → k ≤ 16 → d < f → m.1 = m0.1 → (∀ a, a ≠ 3 → m.2 a = m0.2 a) → (∀ j, j < k → m.2 3 j = 0) → ∃ m1, L_Ps_clearGrid_12 f 1 (nI k) m = some (none, m1) ∧ m1.1 = m0.1 ∧ (∀ a, a ≠ 3 → m1.2 a = m0.2 a) ∧ ∀ j, j < 16 → m1.2 3 j = 0 := by
  obtain ⟨⟨fa, -, fa10, -⟩, -, ⟨ga1, ga2, ga3, ga4, ga5⟩⟩ := po_f po_1
  induction d with
  | zero =>
    intro f k m h1 h2 h3 q1 q2 q3
    obtain ⟨f, rfl⟩ : ∃ g, f = g + 1 := ⟨f - 1, by omega⟩
    have e : k = 16 := by omega
    subst e
    refine ⟨m, ?_, q1, q2, q3⟩
    show X_Ps_clearGrid_12 _ _ _ _ = _
    unfold X_Ps_clearGrid_12
    rw [fa, fa10, ga1, ga2]
    dsimp only [qe_b, cond_true]
    rw [if_neg (by decide)]
  | succ d ih =>
    intro f k m h1 h2 h3 q1 q2 q3
    obtain ⟨f, rfl⟩ : ∃ g, f = g + 1 := ⟨f - 1, by omega⟩
    obtain ⟨m1, r1, r2⟩ := ih f (k + 1) (qm_sL m 3 k 0) (by omega) (by omega) (by omega) q1 (fun a ha => by rw [(qm_sL_other a ha).2]; exact q2 a ha) (fun j hj => by
      rw [me_2L, if_pos rfl]
      by_cases q : j = k
      · rw [if_pos q]
      · rw [if_neg q]; exact q3 j (by omega))
    refine ⟨m1, ?_, r2⟩
    show X_Ps_clearGrid_12 _ _ _ _ = _
    unfold X_Ps_clearGrid_12
    rw [fa, fa10, ga1, ga2, ga4, ga5]
    dsimp only [qe_b, cond_true]
    have e1 : nI k < Int32.ofNat 16 := nI_lt (a := k) (b := 16) (by omega) (by omega)
    rw [if_pos e1, qm_in_nI (by omega) (by omega), nI_clamp (by omega), nI_1]
    exact r1
theorem nu_clearGrid {m : qm_M} {s : sT} (h : cs m s) {r c : Nat} (hr : 1 ≤ r ∧ r ≤ 4) (hc : 1 ≤ c ∧ c ≤ 4) : ∃ m1, F_Ps_clearGrid 1 (nI r) (nI c) m = some (none, m1) ∧ cs m1 (sG s.1 r c, s.2) ∧ hi_fr m m1 := by
  obtain ⟨m1, r1, r2, r3, r4⟩ := nu_clear12 (qm_sI (qm_sI m 1 8 (nI r)) 1 9 (nI c)) 16 1000000 0 _ rfl (by omega) (by omega) rfl (fun a _ => rfl) (fun j hj => absurd hj (Nat.not_lt_zero _))
  have gfr : px_fr 1 m m1 := ⟨fun x hx => by rw [r2]; funext i; rw [me_1I, if_neg hx, me_1I, if_neg hx], fun x h1 h2 h3 => by rw [r3 x h3]; rfl⟩
  refine ⟨m1, ?_, h.now gfr (fun k hk => ?_), gfr.hi (by omega)⟩
  · unfold F_Ps_clearGrid X_Ps_clearGrid_e
    rw [(po_f po_1).1.1]
    exact r1
  · have hk' := h.1 k hk
    unfold px_c at hk' ⊢
    unfold sG
    rw [r2]
    by_cases c1 : k < 6
    · rw [if_pos c1] at hk' ⊢
      rw [if_neg (by omega), if_neg (by omega), if_neg (by omega), me_1I, if_pos rfl, if_neg (by omega), me_1I, if_pos rfl, if_neg (by omega)]; exact hk'
    · rw [if_neg c1] at hk' ⊢
      by_cases c2 : k = 6
      · rw [if_pos c2] at hk' ⊢
        rw [if_neg (by omega), if_neg (by omega), if_neg (by omega), r3 1 (by omega)]; exact hk'
      · rw [if_neg c2] at hk' ⊢
        by_cases c3 : k < 15
        · rw [if_pos c3] at hk' ⊢
          rw [if_neg (by omega), if_neg (by omega), if_neg (by omega), r3 (1 + 1) (by omega)]; exact hk'
        · rw [if_neg c3] at hk' ⊢
          by_cases c4 : k < 17
          · rw [if_pos c4, me_1I, if_pos rfl, me_1I, if_pos rfl]
            by_cases q : k = 15
            · rw [if_pos q, q, if_neg (by omega), if_pos (by omega), nI_l (by omega)]
            · rw [if_neg q, if_pos (by omega), if_pos (by omega), nI_l (by omega)]
          · rw [if_neg c4, if_neg (by omega), if_neg (by omega), if_pos (by omega)]
            exact r4 (k - 17) (by omega)
theorem mt_grid50 {m0 : qm_M} (x y : Int32) (d : Nat) : ∀ (f k : Nat) (m : qm_M), 16 - k = d → k ≤ 16 → d < f → m.1 = m0.1 → (∀ a, a ≠ 113 → m.2 a = m0.2 a) → (∀ i, m.2 113 i = if 17 ≤ i ∧ i < 17 + k then 0 else m0.2 113 i) → ∃ m1, L_M_grid_50 f x y (nI k) m = some (some (.int (x * y)), m1) ∧ m1.1 = m0.1 ∧ (∀ a, a ≠ 113 → m1.2 a = m0.2 a) ∧ ∀ i, m1.2 113 i = if 17 ≤ i ∧ i < 33 then 0 else m0.2 113 i := by
  induction d with
  | zero =>
    intro f k m h1 h2 h3 q1 q2 q3
    obtain ⟨f, rfl⟩ : ∃ g, f = g + 1 := ⟨f - 1, by omega⟩
    have e : k = 16 := by omega
    subst e
    refine ⟨m, ?_, q1, q2, q3⟩
    show X_M_grid_50 _ _ _ _ _ _ _ = _
    unfold X_M_grid_50
    rw [if_neg (by decide)]
  | succ d ih =>
    intro f k m h1 h2 h3 q1 q2 q3
    obtain ⟨f, rfl⟩ : ∃ g, f = g + 1 := ⟨f - 1, by omega⟩
    obtain ⟨m1, r1, r2⟩ := ih f (k + 1) (qm_sL m 113 (17 + k) 0) (by omega) (by omega) (by omega) q1 (fun a ha => by rw [(qm_sL_other a ha).2]; exact q2 a ha) (fun i => by
      rw [me_2L, if_pos rfl, q3]
      by_cases e : i = 17 + k
      · rw [if_pos e, if_pos (by omega)]
      · rw [if_neg e]
        by_cases z : 17 ≤ i ∧ i < 17 + k
        · rw [if_pos z, if_pos (by omega)]
        · rw [if_neg z, if_neg (by omega)])
    refine ⟨m1, ?_, r2⟩
    show X_M_grid_50 _ _ _ _ _ _ _ = _
    unfold X_M_grid_50
    have e1 : nI k < (16 : Int32) := nI_lt (a := k) (b := 16) (by omega) (by omega)
    have e2 : (17 : Int32) + nI k = nI (17 + k) := nI_add 17 k
    rw [if_pos e1, e2, qm_in_nI (by omega) (by omega), nI_clamp (by omega), nI_1]
    exact r1
theorem nw_14 (v : Int32) : (∃ j, 1 ≤ j ∧ j ≤ 4 ∧ v = nI j) ∨ ((v < 1 ∨ 4 < v) ∧ (v < nI 1 ∨ nI 4 < v)) := by
  by_cases h1 : v < 1
  · exact Or.inr ⟨Or.inl h1, Or.inl h1⟩
  · by_cases h2 : 4 < v
    · exact Or.inr ⟨Or.inr h2, Or.inr h2⟩
    · have h0 : ¬ v < 0 := fun z => h1 (Int32.lt_trans z (by decide))
      obtain ⟨j, hj, rfl⟩ := nw_ex v h0
      refine Or.inl ⟨j, ?_, ?_, rfl⟩
      · by_cases q : 1 ≤ j
        · exact q
        · exact absurd (nI_lt (a := j) (b := 1) (by omega) (by omega)) h1
      · by_cases q : j ≤ 4
        · exact q
        · exact absurd (nI_lt (a := 4) (b := j) (by omega) (by omega)) h2
theorem w_grid (v w : Int32) : act2 (F_T_grid v w) (F_M_grid v w) := by
  intro mc mm s hc hm g
  unfold F_T_grid X_T_grid_e F_M_grid X_M_grid_e
  rcases nw_14 v with ⟨r, r1, r2, rfl⟩ | ⟨a1, a2⟩
  · have nr1 : ¬ nI r < 1 := nI_nlt (a := r) (b := 1) (by omega) (by omega)
    have nr4 : ¬ 4 < nI r := nI_nlt (a := 4) (b := r) (by omega) (by omega)
    rw [if_neg nr1, if_neg nr4, mt_in1 (j := r) (a := 1) (b := 4) (n := 1) (k := 4) rfl rfl rfl (by omega) (by omega) (by omega), qe_rI_e, if_neg n10]
    rcases nw_14 w with ⟨c, c1, c2, rfl⟩ | ⟨b1, b2⟩
    · have nc1 : ¬ nI c < 1 := nI_nlt (a := c) (b := 1) (by omega) (by omega)
      have nc4 : ¬ 4 < nI c := nI_nlt (a := 4) (b := c) (by omega) (by omega)
      obtain ⟨mc1, p1, p2, p3⟩ := nu_push hc g.2.1
      obtain ⟨mc2, t1, t2, t3⟩ := nu_clearGrid p2 (r := r) (c := c) (by omega) (by omega)
      obtain ⟨mm1, q1, q2, q3, q4⟩ := mt_keepsAct hm g.2.1
      obtain ⟨mm2, u1, u2, u3, u4⟩ := mt_grid50 (m0 := qm_sL (qm_sL mm1 113 15 (nI r).toInt64) 113 16 (nI c).toInt64) (nI r) (nI c) 16 1000000 0 _ rfl (by omega) (by omega) rfl (fun a _ => rfl) (fun i => by rw [if_neg (by omega)])
      have hms : ms mm2 (sG s.1 r c, (st_act s (sG s.1 r c)).2) := q2.now u2 (fun a ha => by rw [u3 a ha, (qm_sL_other a ha).2, (qm_sL_other a ha).2]) (fun k hk => by
        rw [u4, me_2L, if_pos rfl, me_2L, if_pos rfl]
        unfold sG
        by_cases z : 17 ≤ k
        · rw [if_pos (by omega), if_neg (by omega), if_neg (by omega), if_pos z]
        · rw [if_neg (by omega)]
          by_cases z6 : k = 16
          · rw [if_pos z6, if_neg (by omega), if_pos z6, nI_l (by omega)]
          · rw [if_neg z6]
            by_cases z5 : k = 15
            · rw [if_pos z5, if_pos z5, nI_l (by omega)]
            · rw [if_neg z5, if_neg z5, if_neg z6, if_neg z]
              exact q2.2.1 k hk)
      rw [if_neg nc1, if_neg nc4, p1, qe_rV_e, t1, qe_rV_e, mt_in1 (j := c) (a := 1) (b := 4) (n := 1) (k := 4) rfl rfl rfl (by omega) (by omega) (by omega), qe_rI_e, if_neg n10, q1, qe_rV_e]
      exact ⟨nI r * nI c, _, mc2, mm2, rfl, u1, t2, hms, g.act (g.1.grid (by omega) (by omega)), p3.tr t3, (mt_keepsAct_lo q3 q4).tr ⟨fun a _ => by rw [u2]; rfl, fun a ha => by rw [u3 a (by omega), (qm_sL_other a (by omega)).2, (qm_sL_other a (by omega)).2]⟩⟩
    · rw [mt_in0 (a := 1) (b := 4) (n := 1) (k := 4) rfl rfl (by omega) (by omega) b2]
      have hT : ∀ A : Option qm_R, (if w < 1 then some (some (Value.int (-1)), mc) else if 4 < w then some (some (Value.int (-1)), mc) else A) = some (some (.int (-1)), mc) := fun A => by
        by_cases q : w < 1
        · rw [if_pos q]
        · rw [if_neg q, if_pos (b1.resolve_left q)]
      rw [hT]
      exact act2.no hc hm g rfl rfl
  · rw [mt_in0 (a := 1) (b := 4) (n := 1) (k := 4) rfl rfl (by omega) (by omega) a2]
    have hT : ∀ A : Option qm_R, (if v < 1 then some (some (Value.int (-1)), mc) else if 4 < v then some (some (Value.int (-1)), mc) else A) = some (some (.int (-1)), mc) := fun A => by
      by_cases q : v < 1
      · rw [if_pos q]
      · rw [if_neg q, if_pos (a1.resolve_left q)]
    rw [hT]
    exact act2.no hc hm g rfl rfl
