/-! the law's act: a board told; printed by wip/p50/w/gen_tell.py -/
/-- the builder holds these characters -/
def tlk (cs : List Nat) (f : Nat → Int32) : Prop := ∀ k, k < cs.length → f k = nI (cs.getD k 0) ∧ cs.getD k 0 < 128
theorem tlk_app {cs l : List Nat} {f f1 : Nat → Int32} (h : tlk cs f) (h1 : ∀ k, k < cs.length → f1 k = f k) (h2 : ∀ i, i < l.length → f1 (cs.length + i) = nI (l.getD i 0) ∧ l.getD i 0 < 128) : tlk (cs ++ l) f1 := fun k hk => by
  rw [List.length_append] at hk
  rw [List.getD_eq_getElem?_getD]
  by_cases q : k < cs.length
  · rw [List.getElem?_append_left q, ← List.getD_eq_getElem?_getD, h1 k q]
    exact h k q
  · rw [List.getElem?_append_right (by omega), ← List.getD_eq_getElem?_getD]
    have h3 := h2 (k - cs.length) (by omega)
    rw [show cs.length + (k - cs.length) = k by omega] at h3
    exact h3
def wsl (w : Nat) : List Nat := match w with
  | 0 => wcs 0
  | 1 => wcs 1
  | 2 => wcs 2
  | 3 => wcs 3
  | 4 => wcs 4
  | 5 => [32]
  | 6 => []
  | 7 => [32, 59]
  | _ => [104, 101, 97, 100, 115, 32]
theorem wsl_tab : (List.range 9).all (fun w => Nat.beq (wL w) (wsl w).length && (List.range (wL w)).all (fun j => decide (wg w j = nI ((wsl w).getD j 0) ∧ (wsl w).getD j 0 < 128))) = true := by decide +kernel
theorem wsl_c {w : Nat} (h : w < 9) : wL w = (wsl w).length ∧ ∀ j, j < wL w → wg w j = nI ((wsl w).getD j 0) ∧ (wsl w).getD j 0 < 128 := by
  have c := List.all_eq_true.mp wsl_tab w (List.mem_range.mpr h)
  rw [Bool.and_eq_true] at c
  exact ⟨Nat.eq_of_beq_eq_true c.1, fun j hj => of_decide_eq_true (List.all_eq_true.mp c.2 j (List.mem_range.mpr hj))⟩
/-- only the builder changes -/
def sfr (Wa V : Nat) (H H1 : pm_H) : Prop := (∀ a, a ≠ Wa → a ≠ V → H1[a]? = H[a]?) ∧ H1.length = H.length ∧ pm_sl H1 = pm_sl H
theorem sfr.of {Wa V : Nat} {H H1 : pm_H} (h : rn_T (sba Wa V) (fun k => k < 2) H H1) : sfr Wa V H H1 := ⟨fun a h1 h2 => h.1 a (fun k hk z => by
  have hk : k < 2 := hk
  rcases (by omega : k = 0 ∨ k = 1) with rfl | rfl
  · exact h1 z.symm
  · exact h2 z.symm), h.2⟩
/-- while a board is told: class and board, the builder, the names, the board kept -/
def ws (A B : Nat → Nat) (Kd Wa V : Nat) (mB : qm_M) (s : sT) (m : qm_M) (cs : List Nat) (f : Nat → Int32) (H : pm_H) : Prop := hbd' A m H ∧ sbd Wa V (nI cs.length) f H ∧ tlk cs f ∧ kd A Kd H ∧ kept A B Kd mB s H ∧ (∀ k, k < 123 → A k ≠ Wa ∧ A k ≠ V) ∧ (Kd ≠ Wa ∧ Kd ≠ V) ∧ ∀ k, 112 ≤ k → k < 123 → B k ≠ Wa ∧ B k ≠ V
theorem ws.ap {A B : Nat → Nat} {Kd Wa V : Nat} {mB : qm_M} {s : sT} {m : qm_M} {cs cs1 : List Nat} {f f1 : Nat → Int32} {H H1 : pm_H} (h : ws A B Kd Wa V mB s m cs f H) (g : sfr Wa V H H1) (hs : sbd Wa V (nI cs1.length) f1 H1) (ht : tlk cs1 f1) : ws A B Kd Wa V mB s m cs1 f1 H1 := by
  obtain ⟨w1, w2, w3, w4, w5, w6, w7, w8⟩ := h
  refine ⟨⟨w1.1, fun k c hk gk => ?_, w1.2.2⟩, hs, ht, ?_, ⟨?_, w5.2⟩, w6, w7, w8⟩
  · rw [g.1 (A k) (w6 k hk).1 (w6 k hk).2]; exact w1.2.1 k c hk gk
  · obtain ⟨⟨kf, k1, k2⟩, k3⟩ := w4
    exact ⟨⟨kf, by rw [g.1 Kd w7.1 w7.2]; exact k1, k2⟩, k3⟩
  · have e : ∀ k c, 112 ≤ k → k < 123 → H[B k]? = some c → H1[B k]? = some c := fun k c h1 h2 hc => by
      rw [g.1 (B k) (w8 k h1 h2).1 (w8 k h1 h2).2]; exact hc
    have hb := w5.1
    have h5 := hb.2.2.2.2.1
    refine ⟨e 112 _ (by omega) (by omega) hb.1, e 113 _ (by omega) (by omega) hb.2.1, e 114 _ (by omega) (by omega) hb.2.2.1, e 115 _ (by omega) (by omega) hb.2.2.2.1, ?_, fun r hr => e (117 + r) _ (by omega) (by omega) (hb.2.2.2.2.2 r hr)⟩
    exact Exists.elim h5 (fun f hf => ⟨f, e 116 _ (by omega) (by omega) hf.1, hf.2⟩)
theorem ws.set {A B : Nat → Nat} {Kd Wa V : Nat} {mB : qm_M} {s : sT} {m : qm_M} {cs : List Nat} {f : Nat → Int32} {H : pm_H} (h : ws A B Kd Wa V mB s m cs f H) {o t n : Nat} (ho : 112 ≤ o ∧ o < 123) (hl : qm_lay[o]? = some (t, n)) (ht : t = 0 ∨ t = 3) (j : Nat) (x : Int32) :
    H[A o]? = some (.inl (t, (n, .inl (m.1 o)))) ∧ ws A B Kd Wa V mB s (qm_sI m o j x) cs f (H.set (A o) (.inl (t, (n, .inl (upd (m.1 o) j x))))) ∧ (H.set (A o) (.inl (t, (n, .inl (upd (m.1 o) j x))))).length = H.length ∧ pm_sl (H.set (A o) (.inl (t, (n, .inl (upd (m.1 o) j x))))) = pm_sl H := by
  obtain ⟨w1, w2, w3, w4, w5, w6, w7, w8⟩ := h
  obtain ⟨z1, z2, z3⟩ := hbd_set w1 ho hl ht j x
  have ff := xfr.of z3
  exact ⟨z1, ⟨z2, ff.sbd w2 (fun k hk => (w6 k hk).1) (fun k hk => (w6 k hk).2), w3, w4.fr ff, w5.fr ff, w6, w7, w8⟩, z3.2.1, z3.2.2⟩
section AP
variable {kp : pm_K} {A B : Nat → Nat} {Kd Wa V : Nat} {mB : qm_M} {s : sT} {m : qm_M} {cs : List Nat} {f : Nat → Int32} {H : pm_H}
theorem ap_int (d : Nat) (h : ws A B Kd Wa V mB s m cs f H) {v : Nat} (hv : v < 10) (hn : cs.length < 120) : ∃ f1 H1, ws A B Kd Wa V mB s m (cs ++ [48 + v]) f1 H1 ∧ (H1.length = H.length ∧ pm_sl H1 = pm_sl H) ∧ pm_X kp (d + 3) 117 [.ref Wa, .int (nI v)] H (some (.ref Wa)) H1 := by
  obtain ⟨H1, s1, o4, w⟩ := sb_call h.2.1 (jb_int (kp := kp) d f hv hn) rfl (fun v hv => by
    simp only [List.mem_cons, List.not_mem_nil, or_false] at hv
    rcases hv with rfl | rfl
    · exact lx_ok (by omega)
    · exact rn_num (fun a q => by cases q))
  have g := sfr.of o4
  refine ⟨_, H1, h.ap g (by rw [List.length_append]; exact s1) (tlk_app h.2.2.1 (fun k hk => if_neg (show ¬ k = cs.length by omega)) (fun i hi => ?_)), g.2, w⟩
  have hi : i < 1 := hi
  have : i = 0 := by omega
  subst this
  exact ⟨if_pos rfl, by show 48 + v < 128; omega⟩
theorem ap_chr (d : Nat) (h : ws A B Kd Wa V mB s m cs f H) (hn : cs.length < 120) : ∃ f1 H1, ws A B Kd Wa V mB s m (cs ++ [32]) f1 H1 ∧ (H1.length = H.length ∧ pm_sl H1 = pm_sl H) ∧ pm_X kp (d + 3) 116 [.ref Wa, .int 32] H (some (.ref Wa)) H1 := by
  obtain ⟨H1, s1, o4, w⟩ := sb_call h.2.1 (jb_chr (kp := kp) d f hn) rfl (fun v hv => by
    simp only [List.mem_cons, List.not_mem_nil, or_false] at hv
    rcases hv with rfl | rfl
    · exact lx_ok (by omega)
    · exact rn_num (fun a q => by cases q))
  have g := sfr.of o4
  refine ⟨_, H1, h.ap g (by rw [List.length_append]; exact s1) (tlk_app h.2.2.1 (fun k hk => if_neg (show ¬ k = cs.length by omega)) (fun i hi => ?_)), g.2, w⟩
  have hi : i < 1 := hi
  have : i = 0 := by omega
  subst this
  exact ⟨if_pos rfl, by decide⟩
theorem ap_str (d : Nat) (h : ws A B Kd Wa V mB s m cs f H) {w : Nat} (hw : w < 9) (hn : cs.length + 6 ≤ 120) : ∃ f1 H1, ws A B Kd Wa V mB s m (cs ++ wsl w) f1 H1 ∧ (H1.length = H.length ∧ pm_sl H1 = pm_sl H) ∧ pm_X kp (d + 5) 115 [.ref Wa, .ref (1000010 + w)] H (some (.ref Wa)) H1 := by
  obtain ⟨c1, c2⟩ := wsl_c hw
  have hwd := wd_of kp hw
  have h6 := hwd.2.2.2.2.2
  obtain ⟨H1, s1, o4, x⟩ := sb_call h.2.1 (jb_str (kp := kp) d f hwd (n := cs.length) (by omega)) rfl (fun v hv => by
    simp only [List.mem_cons, List.not_mem_nil, or_false] at hv
    rcases hv with rfl | rfl
    · exact lx_ok (by omega)
    · intro a e z
      cases e
      exact absurd (show (1000010 + w : Nat) < 1000000 from z) (by omega))
  have g := sfr.of o4
  refine ⟨_, H1, h.ap g (by rw [List.length_append, ← c1]; exact s1) (tlk_app h.2.2.1 (fun k hk => if_neg (by omega)) (fun i hi => ?_)), g.2, ?_⟩
  · rw [← c1] at hi
    refine ⟨?_, (c2 i hi).2⟩
    show (if cs.length ≤ cs.length + i ∧ cs.length + i < cs.length + wL w then wg w (0 + (cs.length + i - cs.length)) else f (cs.length + i)) = _
    rw [if_pos ⟨by omega, by omega⟩, Nat.add_sub_cancel_left, Nat.zero_add]
    exact (c2 i hi).1
  · have e : rn_v (sba Wa V) (.ref (1000010 + w)) = .ref (1000010 + w) := by
      show Value.ref (sba Wa V (1000010 + w)) = _
      unfold sba
      rw [if_neg (by omega), if_neg (by omega)]
    have x : pm_X kp (d + 5) 115 [.ref Wa, rn_v (sba Wa V) (.ref (1000010 + w))] H (some (.ref Wa)) H1 := x
    rw [e] at x
    exact x
end AP
