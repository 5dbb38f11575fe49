/-! one memory for both: each call answers alike and keeps what is to be kept -/
def cva (m : qm_M) : Prop := cvPl m ∧ cvLe m ∧ cvPo m ∧ cvCu m
def wb_IV (m : qm_M) : Prop := ∃ s, cs m s ∧ ms m s ∧ gd s ∧ cva m
theorem cvPo.c {m m1 : qm_M} (h : cvPo m) (e70 : m1.1 70 = m.1 70) (e105 : m1.1 105 = m.1 105) (e106 : m1.2 106 = m.2 106) : cvPo m1 := by
  rcases h with h | ⟨k, h1, h2, t, a, h3, h4, h5, h6⟩
  · exact Or.inl (by rw [e70]; exact h)
  · exact Or.inr ⟨k, h1, by rw [e70]; exact h2, t, a, h3, by rw [e70]; exact h4, fun u hu => by rw [e105]; exact h5 u hu, by rw [e106]; exact h6⟩
theorem cvCu.c {m m1 : qm_M} (h : cvCu m) (e107 : m1.1 107 = m.1 107) (e110 : m1.2 110 = m.2 110) (e111 : m1.2 111 = m.2 111) : cvCu m1 := by
  rcases h with h | ⟨h1, h2⟩
  · exact Or.inl (by rw [e107]; exact h)
  · exact Or.inr ⟨by rw [e107]; exact h1, by rw [e111]; exact h2.c e110 (by rw [e107])⟩
theorem cva.c {m m1 : qm_M} (h : cva m) (e1 : ∀ a, 48 ≤ a ∧ a ≤ 61 ∨ a = 70 ∨ a = 105 ∨ a = 107 → m1.1 a = m.1 a) (e2 : ∀ a, a = 106 ∨ a = 110 ∨ a = 111 → m1.2 a = m.2 a) : cva m1 :=
  ⟨h.1.hi (fun a h1 h2 => e1 a (by omega)), h.2.1.c (e1 60 (by omega)) (e1 61 (by omega)), h.2.2.1.c (e1 70 (by omega)) (e1 105 (by omega)) (e2 106 (by omega)), h.2.2.2.c (e1 107 (by omega)) (e2 110 (by omega)) (e2 111 (by omega))⟩
theorem wb_fin {m1 m2 : qm_M} {s : sT} (hc : cs m1 s) (hm : ms m2 s) (g : gd s) (hv : cva m1) (l : lo_fr m1 m2) : wb_IV m2 :=
  ⟨s, hc.fr (fun a ha => l.1 a (by omega)) (fun a ha => l.2 a (by omega)), hm, g, hv.c (fun a ha => l.1 a (by omega)) (fun a ha => l.2 a (by omega))⟩
def wbV (FT FM : qm_M → Option qm_R) : Prop := ∀ m, wb_IV m → ∃ r m1 m2, FT m = some (some r, m1) ∧ FM m1 = some (some r, m2) ∧ wb_IV m2
def wbI (FT FM : qm_M → Option qm_R) : Prop := ∀ m, wb_IV m → ∃ (r : Int32) (m1 m2 : qm_M), FT m = some (some (.int r), m1) ∧ FM m1 = some (some (.int r), m2) ∧ wb_IV m2
def wbL (FT FM : qm_M → Option qm_R) : Prop := ∀ m, wb_IV m → ∃ (r : Int64) (m1 m2 : qm_M), FT m = some (some (.long r), m1) ∧ FM m1 = some (some (.long r), m2) ∧ wb_IV m2
/-- what kind of thing is answered -/
def kI (E : Option qm_R) : Prop := ∀ r m1, E = some (some r, m1) → ∃ i, r = Value.int i
def kL (E : Option qm_R) : Prop := ∀ r m1, E = some (some r, m1) → ∃ i, r = Value.long i
theorem kI.lf (x : Int32) (m : qm_M) : kI (some (some (.int x), m)) := fun r m1 h => by cases h; exact ⟨x, rfl⟩
theorem kL.lf (x : Int64) (m : qm_M) : kL (some (some (.long x), m)) := fun r m1 h => by cases h; exact ⟨x, rfl⟩
theorem kI.it {c : Prop} {d : Decidable c} {A B : Option qm_R} (h1 : kI A) (h2 : kI B) : kI (@ite _ c d A B) := by
  by_cases q : c
  · rw [if_pos q]; exact h1
  · rw [if_neg q]; exact h2
theorem kL.it {c : Prop} {d : Decidable c} {A B : Option qm_R} (h1 : kL A) (h2 : kL B) : kL (@ite _ c d A B) := by
  by_cases q : c
  · rw [if_pos q]; exact h1
  · rw [if_neg q]; exact h2
theorem kI.rI {e : Option qm_R} {k : Int32 → qm_M → Option qm_R} (h : ∀ x m, kI (k x m)) : kI (qe_rI e k) := by
  intro r m1 q
  unfold qe_rI at q
  split at q
  · exact h _ _ r m1 q
  · cases q
theorem kL.rI {e : Option qm_R} {k : Int32 → qm_M → Option qm_R} (h : ∀ x m, kL (k x m)) : kL (qe_rI e k) := by
  intro r m1 q
  unfold qe_rI at q
  split at q
  · exact h _ _ r m1 q
  · cases q
theorem kI.rR {e : Option qm_R} {k : Nat → qm_M → Option qm_R} (h : ∀ x m, kI (k x m)) : kI (qe_rR e k) := by
  intro r m1 q
  unfold qe_rR at q
  split at q
  · exact h _ _ r m1 q
  · cases q
theorem kL.rL {e : Option qm_R} {k : Int64 → qm_M → Option qm_R} (h : ∀ x m, kL (k x m)) : kL (qe_rL e k) := by
  intro r m1 q
  unfold qe_rL at q
  split at q
  · exact h _ _ r m1 q
  · cases q
theorem kI.rV {e : Option qm_R} {k : qm_M → Option qm_R} (h : ∀ m, kI (k m)) : kI (qe_rV e k) := by
  intro r m1 q
  unfold qe_rV at q
  split at q
  · exact h _ r m1 q
  · cases q
theorem kL.rV {e : Option qm_R} {k : qm_M → Option qm_R} (h : ∀ m, kL (k m)) : kL (qe_rV e k) := by
  intro r m1 q
  unfold qe_rV at q
  split at q
  · exact h _ r m1 q
  · cases q
theorem kI.b {b : Bool} {e : Option qm_R} (h : kI e) : kI (qe_b b e) := by
  intro r m1 q
  cases b with
  | true => exact h r m1 q
  | false => cases q
theorem wbV.I {FT FM : qm_M → Option qm_R} (h : wbV FT FM) (k : ∀ m, kI (FT m)) : wbI FT FM := fun m hm => by
  obtain ⟨r, m1, m2, h1, h2, h3⟩ := h m hm
  obtain ⟨i, rfl⟩ := k m r m1 h1
  exact ⟨i, m1, m2, h1, h2, h3⟩
theorem wbV.L {FT FM : qm_M → Option qm_R} (h : wbV FT FM) (k : ∀ m, kL (FT m)) : wbL FT FM := fun m hm => by
  obtain ⟨r, m1, m2, h1, h2, h3⟩ := h m hm
  obtain ⟨i, rfl⟩ := k m r m1 h1
  exact ⟨i, m1, m2, h1, h2, h3⟩
/-- the same answer, the same memory -/
theorem wb_det {E : Option qm_R} {r r2 : Value} {m m2 : qm_M} (h : E = some (some r, m)) (h2 : E = some (some r2, m2)) : m = m2 := by
  have e := h.symm.trans h2
  injection e with e
  injection e
theorem act2.wb {FT FM : qm_M → Option qm_R} (h : act2 FT FM) : wbI FT FM := fun m ⟨s, hc, hm, g, hv⟩ => by
  obtain ⟨r0, s0, mc0, mm0, a1, -, -, -, -, a6, -⟩ := h m m s hc hm g
  obtain ⟨r, s1, mc1, mm1, b1, b2, b3, b4, b5, b6, b7⟩ := h m mc0 s hc (hm.up ⟨fun a ha => a6.1 a (by omega), fun a ha => a6.2 a (by omega)⟩) g
  have e := wb_det a1 b1
  subst e
  exact ⟨r, _, mm1, b1, b2, wb_fin b3 b4 b5 (hv.c (fun a ha => b6.1 a (by omega)) (fun a ha => b6.2 a (by omega))) b7⟩
theorem act3.wb {FT FM : qm_M → Option qm_R} (h : act3 FT FM) : wbI FT FM := fun m ⟨s, hc, hm, g, hv⟩ => by
  obtain ⟨r0, s0, mc0, mm0, a1, -, -, -, -, a6, -⟩ := h m m s hc hm g
  obtain ⟨r, s1, mc1, mm1, b1, b2, b3, b4, b5, b6, b7⟩ := h m mc0 s hc (hm.up ⟨fun a ha => a6.1 a (by omega) (by omega) (by omega), fun a ha => a6.2 a (by omega) (by omega) (by omega)⟩) g
  have e := wb_det a1 b1
  subst e
  exact ⟨r, _, mm1, b1, b2, wb_fin b3 b4 b5 (hv.c (fun a ha => b6.1 a (by omega) (by omega) (by omega)) (fun a ha => b6.2 a (by omega) (by omega) (by omega))) b7⟩
theorem rdA.wb {FT FM : qm_M → Option qm_R} (h : rdA FT FM) : wbV FT FM := fun m ⟨s, hc, hm, g, hv⟩ => by
  obtain ⟨r0, s0, mc0, mm0, a1, -, -, -, -, -, a6, -⟩ := h m m s hc hv.1 hm g
  obtain ⟨r, s1, mc1, mm1, b1, b2, b3, bv, b4, b5, b6, b7⟩ := h m mc0 s hc hv.1 (hm.up ⟨fun a ha => (a6 a (by omega)).1, fun a ha => (a6 a (by omega)).2⟩) g
  have e := wb_det a1 b1
  subst e
  exact ⟨r, _, mm1, b1, b2, wb_fin b3 b4 b5 ⟨bv, hv.2.1.c (b6 60 (by omega)).1 (b6 61 (by omega)).1, hv.2.2.1.c (b6 70 (by omega)).1 (b6 105 (by omega)).1 (b6 106 (by omega)).2, hv.2.2.2.c (b6 107 (by omega)).1 (b6 110 (by omega)).2 (b6 111 (by omega)).2⟩ b7⟩
theorem rd2.wb {FT FM : qm_M → Option qm_R} (h : rd2 FT FM) : wbV FT FM := fun m ⟨s, hc, hm, g, hv⟩ => by
  obtain ⟨r0, mc0, mm0, a1, -, a6, -, -⟩ := h m m s hc hm g
  obtain ⟨r, mc1, mm1, b1, b2, b6, b4, b7⟩ := h m mc0 s hc (hm.up ⟨fun a ha => a6.1 a (by omega) (by omega), fun a ha => a6.2 a (by omega) (by omega)⟩) g
  have e := wb_det a1 b1
  subst e
  exact ⟨r, _, mm1, b1, b2, wb_fin (b6.cs hc) b4 g (hv.c (fun a ha => b6.1 a (by omega) (by omega)) (fun a ha => b6.2 a (by omega) (by omega))) b7⟩
theorem rdO.wb {lo hi : Nat} {FT FM : qm_M → Option qm_R} (h : rdO lo hi FT FM) (h1 : 61 < lo) (h2 : hi < 112) (h3 : ∀ a, a = 70 ∨ a = 105 ∨ a = 106 ∨ a = 107 ∨ a = 110 ∨ a = 111 → a < lo ∨ hi < a) : wbV FT FM := fun m ⟨s, hc, hm, g, hv⟩ => by
  obtain ⟨r0, mc0, mm0, a1, -, a6, -, -⟩ := h m m s hc hm g
  obtain ⟨r, mc1, mm1, b1, b2, b6, b4, b7⟩ := h m mc0 s hc (hm.up (a6.up h2)) g
  have e := wb_det a1 b1
  subst e
  have h4 : ∀ a, 48 ≤ a ∧ a ≤ 61 ∨ a = 70 ∨ a = 105 ∨ a = 107 → a < lo ∨ hi < a := fun a ha => by
    rcases ha with ha | ha
    · omega
    · exact h3 a (by omega)
  exact ⟨r, _, mm1, b1, b2, wb_fin (b6.cs (by omega) hc) b4 g (hv.c (fun a ha => (b6 a (h4 a ha)).1) (fun a ha => (b6 a (h3 a (by omega))).2)) b7⟩
theorem rdC.wb {FT FM : qm_M → Option qm_R} (h : rdC FT FM) : wbV FT FM := fun m ⟨s, hc, hm, g, hv⟩ => by
  obtain ⟨r0, mc0, mm0, a1, -, -, a6, -, -⟩ := h m m s hc hv.2.2.2 hm g
  obtain ⟨r, mc1, mm1, b1, b2, bv, b6, b4, b7⟩ := h m mc0 s hc hv.2.2.2 (hm.up (a6.up (by omega))) g
  have e := wb_det a1 b1
  subst e
  exact ⟨r, _, mm1, b1, b2, wb_fin (b6.cs (by omega) hc) b4 g ⟨hv.1.hi (fun a h1 h2 => (b6 a (by omega)).1), hv.2.1.c (b6 60 (by omega)).1 (b6 61 (by omega)).1, hv.2.2.1.c (b6 70 (by omega)).1 (b6 105 (by omega)).1 (b6 106 (by omega)).2, bv⟩ b7⟩
theorem rdP.wb {FT FM : qm_M → Option qm_R} (h : rdP FT FM) : wbV FT FM := fun m ⟨s, hc, hm, g, hv⟩ => by
  obtain ⟨r0, mc0, mm0, a1, -, -, a6, -, -⟩ := h m m s hc hv.2.2.1 hm g
  obtain ⟨r, mc1, mm1, b1, b2, bv, b6, b4, b7⟩ := h m mc0 s hc hv.2.2.1 (hm.up (a6.up (by omega))) g
  have e := wb_det a1 b1
  subst e
  exact ⟨r, _, mm1, b1, b2, wb_fin (b6.cs (by omega) hc) b4 g ⟨hv.1.hi (fun a h1 h2 => (b6 a (by omega)).1), hv.2.1.c (b6 60 (by omega)).1 (b6 61 (by omega)).1, bv, hv.2.2.2.c (b6 107 (by omega)).1 (b6 110 (by omega)).2 (b6 111 (by omega)).2⟩ b7⟩
theorem rdQ.wb {FT FM : qm_M → Option qm_R} (h : rdQ FT FM) : wbV FT FM := fun m ⟨s, hc, hm, g, hv⟩ => by
  obtain ⟨r0, mc0, mm0, a1, -, -, a6, -, -⟩ := h m m s hc hv.1 hm g
  obtain ⟨r, mc1, mm1, b1, b2, bv, b6, b4, b7⟩ := h m mc0 s hc hv.1 (hm.up (a6.up (by omega))) g
  have e := wb_det a1 b1
  subst e
  exact ⟨r, _, mm1, b1, b2, wb_fin (b6.cs (by omega) hc) b4 g ⟨bv, hv.2.1.c (b6 60 (by omega)).1 (b6 61 (by omega)).1, hv.2.2.1.c (b6 70 (by omega)).1 (b6 105 (by omega)).1 (b6 106 (by omega)).2, hv.2.2.2.c (b6 107 (by omega)).1 (b6 110 (by omega)).2 (b6 111 (by omega)).2⟩ b7⟩
theorem rdL.wb {FT FM : qm_M → Option qm_R} (h : rdL FT FM) : wbV FT FM := fun m ⟨s, hc, hm, g, hv⟩ => by
  obtain ⟨r0, mc0, mm0, a1, -, -, -, a6, -, -⟩ := h m m s hc hv.1 hv.2.1 hm g
  obtain ⟨r, mc1, mm1, b1, b2, bv, bl, b6, b4, b7⟩ := h m mc0 s hc hv.1 hv.2.1 (hm.up (a6.up (by omega))) g
  have e := wb_det a1 b1
  subst e
  exact ⟨r, _, mm1, b1, b2, wb_fin (b6.cs (by omega) hc) b4 g ⟨bv, bl, hv.2.2.1.c (b6 70 (by omega)).1 (b6 105 (by omega)).1 (b6 106 (by omega)).2, hv.2.2.2.c (b6 107 (by omega)).1 (b6 110 (by omega)).2 (b6 111 (by omega)).2⟩ b7⟩
/-- the model's scratch alone is another one -/
theorem wb_scr {m m1 : qm_M} {S T : Nat → Prop} (h : wb_IV m) (g : fr S T m m1) (hS : ∀ a, ¬ S a) (hT : ∀ a, T a → 118 < a) : wb_IV m1 := by
  obtain ⟨s, hc, hm, hg, hv⟩ := h
  have e1 : ∀ a, m1.1 a = m.1 a := fun a => g.1 a (hS a)
  have e2 : ∀ a, a ≤ 118 → m1.2 a = m.2 a := fun a ha => g.2 a (fun z => by have := hT a z; omega)
  exact wb_fin hc (hm.fr (by rw [e1]) (by rw [e1]) (e1 116) (e1 129) (fun a h1 h2 => e2 a h2)) hg hv ⟨fun a _ => e1 a, fun a ha => e2 a (by omega)⟩
theorem wb_nt {m : qm_M} (h : wb_IV m) : nt_ok 64 m ∧ np_ok m := by
  obtain ⟨s, -, hm, -, -⟩ := h
  exact hm.1
/-! the calls, one by one -/
theorem wb_feed (a b c d e : Int32) : wbI (F_T_feed a b c d e) (F_M_feed a b c d e) := (w_feed a b c d e).wb
theorem wb_end (v : Int32) : wbI (F_T_end v) (F_M_end v) := (w_end v).wb
theorem wb_tell : wbI F_T_tell F_M_tell := w_tell.wb
theorem wb_turn (v w : Int32) : wbI (F_T_turn v w) (F_M_turn v w) := (w_turn v w).wb
theorem wb_play (v w : Int32) : wbI (F_T_play v w) (F_M_play v w) := (w_play v w).wb.I (fun m => by
  unfold F_T_play X_T_play_e
  repeat' (first | with_reducible exact kI.lf _ _ | with_reducible refine kI.it ?_ ?_ | with_reducible refine kI.rI (fun _ _ => ?_) | with_reducible refine kI.rV (fun _ => ?_)))
theorem wb_answer : wbI F_T_answer F_M_answer := w_answer.wb.I (fun m => by
  unfold F_T_answer X_T_answer_e L_T_answer_32 X_T_answer_32 L_T_answer_56 X_T_answer_56
  repeat' (first | with_reducible exact kI.lf _ _ | with_reducible refine kI.it ?_ ?_ | with_reducible refine kI.rI (fun _ _ => ?_) | with_reducible refine kI.rV (fun _ => ?_)))
theorem wb_put (v : Int32) (x : Int64) : wbI (F_T_put v x) (F_M_put v x) := (w_put v x).wb
theorem wb_reckon (v x y w : Int32) : wbI (F_T_reckon v x y w) (F_M_reckon v x y w) := (w_reckon v x y w).wb
theorem w_undo : act2 F_T_undo F_M_undo := fun mc mm s hc hm g => by
  obtain ⟨mc1, a1, a2, a3⟩ := tw_undo hc g
  obtain ⟨mm1, b1, b2, b3⟩ := mw_undo hm g
  refine ⟨_, _, mc1, mm1, a1, b1, a2, b2, ?_, a3, b3⟩
  by_cases q : s.2.1.1 = 0
  · rw [if_pos q]; exact g
  · rw [if_neg q]; exact g.undo (by omega)
theorem wb_undo : wbI F_T_undo F_M_undo := w_undo.wb
theorem w_keep (v : Int32) : act2 (F_T_keep v) (F_M_keep v) := fun mc mm s hc hm g => by
  rcases nw_lt v (N := 2) (by omega) (by omega) with ⟨j, hj, rfl⟩ | ⟨h1, -⟩
  · obtain ⟨mc1, a1, a2, a3⟩ := tw_keep hc hj
    obtain ⟨mm1, b1, b2, b3⟩ := mw_keep hm hj
    exact ⟨_, _, mc1, mm1, a1, b1, a2, b2, g.keep j, a3, b3⟩
  · exact act2.no hc hm g (tw_keep0 h1 mc) (mw_keep0 h1 mm)
theorem wb_keep (v : Int32) : wbI (F_T_keep v) (F_M_keep v) := (w_keep v).wb
theorem w_back (v : Int32) : act2 (F_T_back v) (F_M_back v) := fun mc mm s hc hm g => by
  rcases nw_lt v (N := 2) (by omega) (by omega) with ⟨j, hj, rfl⟩ | ⟨h1, -⟩
  · obtain ⟨mc1, a1, a2, a3⟩ := tw_back hc g hj
    obtain ⟨mm1, b1, b2, b3⟩ := mw_back hm g hj
    refine ⟨_, _, mc1, mm1, a1, b1, a2, b2, ?_, a3, b3⟩
    by_cases q : s.2.2.1.1 j = true
    · rw [if_pos q]; exact g.act (g.2.2.2.1 j hj q)
    · rw [if_neg q]; exact g
  · exact act2.no hc hm g (tw_back0 h1 mc) (mw_back0 h1 mm)
theorem wb_back (v : Int32) : wbI (F_T_back v) (F_M_back v) := (w_back v).wb
theorem wb_grid (v w : Int32) : wbI (F_T_grid v w) (F_M_grid v w) := (w_grid v w).wb
theorem wb_enter (v w : Int32) (x : Int64) : wbI (F_T_enter v w x) (F_M_enter v w x) := (w_enter v w x).wb
theorem wb_multiply (v : Int32) : wbI (F_T_multiply v) (F_M_multiply v) := (w_multiply v).wb
theorem wb_invert : wbI F_T_invert F_M_invert := w_invert.wb
theorem wb_entry (v w x : Int32) : wbL (F_T_entry v w x) (F_M_entry v w x) := (w_entry v w x).wb.L (fun m => by
  unfold F_T_entry X_T_entry_e
  repeat' (first | with_reducible exact kL.lf _ _ | with_reducible refine kL.it ?_ ?_ | with_reducible refine kL.rI (fun _ _ => ?_) | with_reducible refine kL.rL (fun _ _ => ?_) | with_reducible refine kL.rV (fun _ => ?_)))
theorem wb_determinant : wbL F_T_determinant F_M_determinant := w_determinant.wb.L (fun m => by
  unfold F_T_determinant X_T_determinant_e
  repeat' (first | with_reducible exact kL.lf _ _ | with_reducible refine kL.it ?_ ?_ | with_reducible refine kL.rI (fun _ _ => ?_) | with_reducible refine kL.rL (fun _ _ => ?_) | with_reducible refine kL.rV (fun _ => ?_)))
theorem wb_shape (v : Int32) : wbI (F_T_shape v) (F_M_shape v) := (w_shape v).wb.I (fun m => by
  unfold F_T_shape X_T_shape_e
  repeat' (first | with_reducible exact kI.lf _ _ | with_reducible refine kI.it ?_ ?_ | with_reducible refine kI.rI (fun _ _ => ?_) | with_reducible refine kI.rV (fun _ => ?_)))
theorem wb_solution (v : Int32) : wbL (F_T_solution v) (F_M_solution v) := (w_solution v).wb.L (fun m => by
  unfold F_T_solution X_T_solution_e
  repeat' (first | with_reducible exact kL.lf _ _ | with_reducible refine kL.it ?_ ?_ | with_reducible refine kL.rI (fun _ _ => ?_) | with_reducible refine kL.rL (fun _ _ => ?_) | with_reducible refine kL.rV (fun _ => ?_)))
theorem wb_roots (v w : Int32) : wbI (F_T_roots v w) (F_M_roots v w) := (w_roots v w).wb.I (fun m => by
  unfold F_T_roots X_T_roots_e
  dsimp only
  repeat' (first | with_reducible exact kI.lf _ _ | with_reducible refine kI.it ?_ ?_ | with_reducible refine kI.rI (fun _ _ => ?_) | with_reducible refine kI.rV (fun _ => ?_)))
theorem wb_common (v : Int32) : wbL (F_T_common v) (F_M_common v) := ((w_common v).wb (by omega) (by omega) (fun a ha => by omega)).L (fun m => by
  unfold F_T_common X_T_common_e
  repeat' (first | with_reducible exact kL.lf _ _ | with_reducible refine kL.it ?_ ?_ | with_reducible refine kL.rI (fun _ _ => ?_) | with_reducible refine kL.rL (fun _ _ => ?_) | with_reducible refine kL.rV (fun _ => ?_)))
theorem wb_mended (v : Int32) : wbL (F_T_mended v) (F_M_mended v) := (w_mended v).wb.L (fun m => by
  unfold F_T_mended X_T_mended_e
  repeat' (first | with_reducible exact kL.lf _ _ | with_reducible refine kL.it ?_ ?_ | with_reducible refine kL.rI (fun _ _ => ?_) | with_reducible refine kL.rL (fun _ _ => ?_) | with_reducible refine kL.rV (fun _ => ?_)))
theorem wb_mendedAt (x : Int64) : wbL (F_T_mendedAt x) (F_M_mendedAt x) := (w_mendedAt x).wb.L (fun m => by
  unfold F_T_mendedAt X_T_mendedAt_e
  repeat' (first | with_reducible exact kL.lf _ _ | with_reducible refine kL.it ?_ ?_ | with_reducible refine kL.rI (fun _ _ => ?_) | with_reducible refine kL.rL (fun _ _ => ?_) | with_reducible refine kL.rV (fun _ => ?_)))
theorem wb_agrees (v : Int32) : wbI (F_T_agrees v) (F_M_agrees v) := (w_agrees v).wb.I (fun m => by
  unfold F_T_agrees X_T_agrees_e
  repeat' (first | with_reducible exact kI.lf _ _ | with_reducible refine kI.it ?_ ?_ | with_reducible refine kI.rI (fun _ _ => ?_) | with_reducible refine kI.rV (fun _ => ?_)))
theorem wb_full (v w : Int32) : wbL (F_T_full v w) (F_M_full v w) := fun m h => ⟨_, m, m, tw_full v w m, mw_full (wb_nt h).1 (wb_nt h).2 v w, h⟩
theorem wb_boards (v : Int32) : wbL (F_T_boards v) (F_M_boards v) := (w_boards v).wb.L (fun m => by
  unfold F_T_boards X_T_boards_e
  repeat' (first | with_reducible exact kL.lf _ _ | with_reducible refine kL.it ?_ ?_ | with_reducible refine kL.rI (fun _ _ => ?_) | with_reducible refine kL.rL (fun _ _ => ?_) | with_reducible refine kL.rV (fun _ => ?_)))
theorem wb_game (v : Int32) : wbI (F_T_game v) (F_M_game v) := (w_game v).wb.I (fun m => by
  unfold F_T_game X_T_game_e
  repeat' (first | with_reducible exact kI.lf _ _ | with_reducible refine kI.it ?_ ?_ | with_reducible refine kI.rI (fun _ _ => ?_) | with_reducible refine kI.rV (fun _ => ?_)))
theorem wb_times (x y : Int64) : wbL (F_T_times x y) (F_M_times x y) := fun m h => ⟨_, m, m, tw_times x y m, mw_times (wb_nt h).1 x y, h⟩
theorem wb_inverse (x : Int64) : wbL (F_T_inverse x) (F_M_inverse x) := fun m h => ⟨_, m, m, tw_inverse x m, mw_inverse (wb_nt h).1 x, h⟩
theorem wb_root (x : Int64) : wbL (F_T_root x) (F_M_root x) := fun m h => ⟨_, m, m, tw_root x m, mw_root (wb_nt h).1 x, h⟩
theorem wb_power (x n : Int64) : wbL (F_T_power x n) (F_M_power x n) := fun m h => ⟨_, m, m, tw_power x n m, mw_power (wb_nt h).1 x n, h⟩
theorem wb_order (x : Int64) : wbL (F_T_order x) (F_M_order x) := fun m h => ⟨_, m, m, tw_order x m, mw_order (wb_nt h).1 (wb_nt h).2 x, h⟩
theorem wb_level (x : Int64) (k : Int32) : wbI (F_T_level x k) (F_M_level x k) := fun m h => ⟨_, m, m, tw_level x k m, mw_level (wb_nt h).1 x k, h⟩
theorem wb_least (x : Int64) : wbL (F_T_least x) (F_M_least x) := fun m h => by
  obtain ⟨s, hc, hm, hg, hv⟩ := h
  obtain ⟨m1, a1, a2⟩ := tw_least x m
  have h1 : wb_IV m1 := ⟨s, hc.fr (fun a _ => a2.1 a (fun z => z)) (fun a ha => a2.2 a (fun z => by rcases z with z | z <;> omega)), hm.up ⟨fun a _ => a2.1 a (fun z => z), fun a ha => a2.2 a (fun z => by rcases z with z | z <;> omega)⟩, hg, hv.c (fun a _ => a2.1 a (fun z => z)) (fun a ha => a2.2 a (fun z => by rcases z with z | z <;> omega))⟩
  obtain ⟨m2, b1, b2⟩ := mw_least (wb_nt h1).1 x
  exact ⟨_, m1, m2, a1, b1, wb_scr h1 b2 (fun _ z => z) (fun a z => by have z' : a = 119 := z; omega)⟩
theorem wb_trace (x : Int64) (k : Int32) : wbI (F_T_trace x k) (F_M_trace x k) := fun m h => ⟨_, m, m, tw_trace x k m, mw_trace (wb_nt h).1 x k, h⟩
theorem wb_half (x : Int64) : wbL (F_T_half x) (F_M_half x) := fun m h => by
  obtain ⟨m1, b1, b2⟩ := mw_half (wb_nt h).1 x
  exact ⟨_, m, m1, tw_half x m, b1, wb_scr h b2 (fun _ z => z) (fun a z => by rcases z with z | z <;> omega)⟩
theorem wb_solve (p q : Int64) (w : Int32) : wbL (F_T_solve p q w) (F_M_solve p q w) := fun m h => by
  obtain ⟨m1, b1, b2⟩ := mw_solve (wb_nt h).1 p q w
  exact ⟨_, m, m1, tw_solve p q w m, b1, wb_scr h b2 (fun _ z => z) (fun a z => by rcases z with z | z <;> omega)⟩
theorem wb_log (a b : Int64) : wbI (F_T_log a b) (F_M_log a b) := fun m h => by
  obtain ⟨v, m1, b1, b2, b3⟩ := nw_log (wb_nt h).1 a b m
  exact ⟨v, m, m1, b1, b2, wb_scr h b3 (fun _ z => z) (fun a z => by have z' : a = 122 := z; omega)⟩
theorem wb_place (v : Int32) : wbL (F_T_place v) (F_M_place_IJ v) := fun m h => by
  obtain ⟨s, hc, hm, hg, hv⟩ := h
  obtain ⟨r, h1, h2⟩ := w_place v hc hm
  exact ⟨r, m, m, h1, h2, s, hc, hm, hg, hv⟩
theorem wb_at (x : Int64) (v : Int32) : wbL (F_T_at x v) (F_M_at x v) := ((w_at x v).wb (by omega) (by omega) (fun a ha => by omega)).L (fun m => by
  unfold F_T_at X_T_at_e
  repeat' (first | with_reducible exact kL.lf _ _ | with_reducible refine kL.it ?_ ?_ | with_reducible refine kL.rI (fun _ _ => ?_) | with_reducible refine kL.rL (fun _ _ => ?_) | with_reducible refine kL.rV (fun _ => ?_)))
theorem wb_worth (v w : Int32) : wbI (F_T_worth v w) (F_M_worth v w) := (w_worth v w).wb.I (fun m => by
  unfold F_T_worth X_T_worth_e
  repeat' (first | with_reducible exact kI.lf _ _ | with_reducible refine kI.it ?_ ?_ | with_reducible refine kI.rI (fun _ _ => ?_) | with_reducible refine kI.rV (fun _ => ?_) | with_reducible refine kI.rR (fun _ _ => ?_) | with_reducible refine kI.b ?_))
theorem wb_cell (v w u : Int32) : wbI (F_T_cell v w u) (F_M_cell v w u) := (w_cell v w u).wb.I (fun m => by
  unfold F_T_cell X_T_cell_e
  repeat' (first | with_reducible exact kI.lf _ _ | with_reducible refine kI.it ?_ ?_ | with_reducible refine kI.rI (fun _ _ => ?_) | with_reducible refine kI.rV (fun _ => ?_)))
theorem wb_total : wbL F_T_total F_M_total := w_total.wb.L (fun m => by
  unfold F_T_total X_T_total_e
  repeat' (first | with_reducible exact kL.lf _ _ | with_reducible refine kL.it ?_ ?_ | with_reducible refine kL.rI (fun _ _ => ?_) | with_reducible refine kL.rL (fun _ _ => ?_) | with_reducible refine kL.rV (fun _ => ?_)))
theorem wb_moves (v : Int32) : wbI (F_T_moves v) (F_M_moves v) := (w_moves v).wb.I (fun m => by
  unfold F_T_moves X_T_moves_e L_T_moves_40 X_T_moves_40
  repeat' (first | with_reducible exact kI.lf _ _ | with_reducible refine kI.it ?_ ?_ | with_reducible refine kI.rI (fun _ _ => ?_) | with_reducible refine kI.rV (fun _ => ?_)))
theorem wb_move (v w u : Int32) : wbI (F_T_move v w u) (F_M_move v w u) := (w_move v w u).wb.I (fun m => by
  unfold F_T_move X_T_move_e L_T_move_54 X_T_move_54
  repeat' (first | with_reducible exact kI.lf _ _ | with_reducible refine kI.it ?_ ?_ | with_reducible refine kI.rI (fun _ _ => ?_) | with_reducible refine kI.rV (fun _ => ?_)))
theorem wb_sets (v w : Int32) : wbI (F_T_sets v w) (F_M_sets v w) := (w_sets v w).wb.I (fun m => by
  unfold F_T_sets X_T_sets_e
  repeat' (first | with_reducible exact kI.lf _ _ | with_reducible refine kI.it ?_ ?_ | with_reducible refine kI.rI (fun _ _ => ?_) | with_reducible refine kI.rV (fun _ => ?_) | with_reducible refine kI.rR (fun _ _ => ?_) | with_reducible refine kI.b ?_))
theorem wb_count (v : Int32) : wbI (F_T_count v) (F_M_count v) := fun m h => by
  obtain ⟨s, hc, hm, hg, hv⟩ := h
  obtain ⟨r, h1, h2⟩ := w_count v hc hm hg
  exact ⟨r, m, m, h1, h2, s, hc, hm, hg, hv⟩
