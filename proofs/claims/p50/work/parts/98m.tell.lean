/-! the law's act: a board told; printed by wip/p50/w/gen_tell.py -/
/-- the builder holds these characters -/
def tlk (cs : List Nat) (f : Nat → Int32) : Prop := ∀ k, k < cs.length → f k = nI (cs.getD k 0) ∧ cs.getD k 0 < 128
theorem tlk_app {cs l : List Nat} {f f1 : Nat → Int32} (h : tlk cs f) (h1 : ∀ k, k < cs.length → f1 k = f k) (h2 : ∀ i, i < l.length → f1 (cs.length + i) = nI (l.getD i 0) ∧ l.getD i 0 < 128) : tlk (cs ++ l) f1 := fun k hk => by
  rw [List.length_append] at hk
  rw [List.getD_eq_getElem?_getD]
  by_cases q : k < cs.length
  · rw [List.getElem?_append_left q, ← List.getD_eq_getElem?_getD, h1 k q]
    exact h k q
  · rw [List.getElem?_append_right (by omega), ← List.getD_eq_getElem?_getD]
    have h3 := h2 (k - cs.length) (by omega)
    rw [show cs.length + (k - cs.length) = k by omega] at h3
    exact h3
def wsl (w : Nat) : List Nat := match w with
  | 0 => wcs 0
  | 1 => wcs 1
  | 2 => wcs 2
  | 3 => wcs 3
  | 4 => wcs 4
  | 5 => [32]
  | 6 => []
  | 7 => [32, 59]
  | _ => [104, 101, 97, 100, 115, 32]
theorem wsl_tab : (List.range 9).all (fun w => Nat.beq (wL w) (wsl w).length && (List.range (wL w)).all (fun j => decide (wg w j = nI ((wsl w).getD j 0) ∧ (wsl w).getD j 0 < 128))) = true := by decide +kernel
theorem wsl_c {w : Nat} (h : w < 9) : wL w = (wsl w).length ∧ ∀ j, j < wL w → wg w j = nI ((wsl w).getD j 0) ∧ (wsl w).getD j 0 < 128 := by
  have c := List.all_eq_true.mp wsl_tab w (List.mem_range.mpr h)
  rw [Bool.and_eq_true] at c
  exact ⟨Nat.eq_of_beq_eq_true c.1, fun j hj => of_decide_eq_true (List.all_eq_true.mp c.2 j (List.mem_range.mpr hj))⟩
/-- only the builder changes -/
def sfr (Wa V : Nat) (H H1 : pm_H) : Prop := (∀ a, a ≠ Wa → a ≠ V → H1[a]? = H[a]?) ∧ H1.length = H.length ∧ pm_sl H1 = pm_sl H
theorem sfr.of {Wa V : Nat} {H H1 : pm_H} (h : rn_T (sba Wa V) (fun k => k < 2) H H1) : sfr Wa V H H1 := ⟨fun a h1 h2 => h.1 a (fun k hk z => by
  have hk : k < 2 := hk
  rcases (by omega : k = 0 ∨ k = 1) with rfl | rfl
  · exact h1 z.symm
  · exact h2 z.symm), h.2⟩
/-- while a board is told: class and board, the builder, the names, the board kept -/
def ws (A B : Nat → Nat) (Kd Wa V : Nat) (mB : qm_M) (s : sT) (m : qm_M) (cs : List Nat) (f : Nat → Int32) (H : pm_H) : Prop := hbd' A m H ∧ sbd Wa V (nI cs.length) f H ∧ tlk cs f ∧ kd A Kd H ∧ kept A B Kd mB s H ∧ (∀ k, k < 123 → A k ≠ Wa ∧ A k ≠ V) ∧ (Kd ≠ Wa ∧ Kd ≠ V) ∧ ∀ k, 112 ≤ k → k < 123 → B k ≠ Wa ∧ B k ≠ V
theorem ws.ap {A B : Nat → Nat} {Kd Wa V : Nat} {mB : qm_M} {s : sT} {m : qm_M} {cs cs1 : List Nat} {f f1 : Nat → Int32} {H H1 : pm_H} (h : ws A B Kd Wa V mB s m cs f H) (g : sfr Wa V H H1) (hs : sbd Wa V (nI cs1.length) f1 H1) (ht : tlk cs1 f1) : ws A B Kd Wa V mB s m cs1 f1 H1 := by
  obtain ⟨w1, w2, w3, w4, w5, w6, w7, w8⟩ := h
  refine ⟨⟨w1.1, fun k c hk gk => ?_, w1.2.2⟩, hs, ht, ?_, ⟨?_, w5.2⟩, w6, w7, w8⟩
  · rw [g.1 (A k) (w6 k hk).1 (w6 k hk).2]; exact w1.2.1 k c hk gk
  · obtain ⟨⟨kf, k1, k2⟩, k3⟩ := w4
    exact ⟨⟨kf, by rw [g.1 Kd w7.1 w7.2]; exact k1, k2⟩, k3⟩
  · have e : ∀ k c, 112 ≤ k → k < 123 → H[B k]? = some c → H1[B k]? = some c := fun k c h1 h2 hc => by
      rw [g.1 (B k) (w8 k h1 h2).1 (w8 k h1 h2).2]; exact hc
    have hb := w5.1
    have h5 := hb.2.2.2.2.1
    refine ⟨e 112 _ (by omega) (by omega) hb.1, e 113 _ (by omega) (by omega) hb.2.1, e 114 _ (by omega) (by omega) hb.2.2.1, e 115 _ (by omega) (by omega) hb.2.2.2.1, ?_, fun r hr => e (117 + r) _ (by omega) (by omega) (hb.2.2.2.2.2 r hr)⟩
    exact Exists.elim h5 (fun f hf => ⟨f, e 116 _ (by omega) (by omega) hf.1, hf.2⟩)
theorem ws.set {A B : Nat → Nat} {Kd Wa V : Nat} {mB : qm_M} {s : sT} {m : qm_M} {cs : List Nat} {f : Nat → Int32} {H : pm_H} (h : ws A B Kd Wa V mB s m cs f H) {o t n : Nat} (ho : 112 ≤ o ∧ o < 123) (hl : qm_lay[o]? = some (t, n)) (ht : t = 0 ∨ t = 3) (j : Nat) (x : Int32) :
    H[A o]? = some (.inl (t, (n, .inl (m.1 o)))) ∧ ws A B Kd Wa V mB s (qm_sI m o j x) cs f (H.set (A o) (.inl (t, (n, .inl (upd (m.1 o) j x))))) ∧ (H.set (A o) (.inl (t, (n, .inl (upd (m.1 o) j x))))).length = H.length ∧ pm_sl (H.set (A o) (.inl (t, (n, .inl (upd (m.1 o) j x))))) = pm_sl H := by
  obtain ⟨w1, w2, w3, w4, w5, w6, w7, w8⟩ := h
  obtain ⟨z1, z2, z3⟩ := hbd_set w1 ho hl ht j x
  have ff := xfr.of z3
  exact ⟨z1, ⟨z2, ff.sbd w2 (fun k hk => (w6 k hk).1) (fun k hk => (w6 k hk).2), w3, w4.fr ff, w5.fr ff, w6, w7, w8⟩, z3.2.1, z3.2.2⟩
section AP
variable {kp : pm_K} {A B : Nat → Nat} {Kd Wa V : Nat} {mB : qm_M} {s : sT} {m : qm_M} {cs : List Nat} {f : Nat → Int32} {H : pm_H}
theorem ap_int (d : Nat) (h : ws A B Kd Wa V mB s m cs f H) {v : Nat} (hv : v < 10) (hn : cs.length < 120) : ∃ f1 H1, ws A B Kd Wa V mB s m (cs ++ [48 + v]) f1 H1 ∧ (H1.length = H.length ∧ pm_sl H1 = pm_sl H) ∧ pm_X kp (d + 3) 117 [.ref Wa, .int (nI v)] H (some (.ref Wa)) H1 := by
  obtain ⟨H1, s1, o4, w⟩ := sb_call h.2.1 (jb_int (kp := kp) d f hv hn) rfl (fun v hv => by
    simp only [List.mem_cons, List.not_mem_nil, or_false] at hv
    rcases hv with rfl | rfl
    · exact lx_ok (by omega)
    · exact rn_num (fun a q => by cases q))
  have g := sfr.of o4
  refine ⟨_, H1, h.ap g (by rw [List.length_append]; exact s1) (tlk_app h.2.2.1 (fun k hk => if_neg (show ¬ k = cs.length by omega)) (fun i hi => ?_)), g.2, w⟩
  have hi : i < 1 := hi
  have : i = 0 := by omega
  subst this
  exact ⟨if_pos rfl, by show 48 + v < 128; omega⟩
theorem ap_chr (d : Nat) (h : ws A B Kd Wa V mB s m cs f H) (hn : cs.length < 120) : ∃ f1 H1, ws A B Kd Wa V mB s m (cs ++ [32]) f1 H1 ∧ (H1.length = H.length ∧ pm_sl H1 = pm_sl H) ∧ pm_X kp (d + 3) 116 [.ref Wa, .int 32] H (some (.ref Wa)) H1 := by
  obtain ⟨H1, s1, o4, w⟩ := sb_call h.2.1 (jb_chr (kp := kp) d f hn) rfl (fun v hv => by
    simp only [List.mem_cons, List.not_mem_nil, or_false] at hv
    rcases hv with rfl | rfl
    · exact lx_ok (by omega)
    · exact rn_num (fun a q => by cases q))
  have g := sfr.of o4
  refine ⟨_, H1, h.ap g (by rw [List.length_append]; exact s1) (tlk_app h.2.2.1 (fun k hk => if_neg (show ¬ k = cs.length by omega)) (fun i hi => ?_)), g.2, w⟩
  have hi : i < 1 := hi
  have : i = 0 := by omega
  subst this
  exact ⟨if_pos rfl, by decide⟩
theorem ap_str (d : Nat) (h : ws A B Kd Wa V mB s m cs f H) {w : Nat} (hw : w < 9) (hn : cs.length + 6 ≤ 120) : ∃ f1 H1, ws A B Kd Wa V mB s m (cs ++ wsl w) f1 H1 ∧ (H1.length = H.length ∧ pm_sl H1 = pm_sl H) ∧ pm_X kp (d + 5) 115 [.ref Wa, .ref (1000010 + w)] H (some (.ref Wa)) H1 := by
  obtain ⟨c1, c2⟩ := wsl_c hw
  have hwd := wd_of kp hw
  have h6 := hwd.2.2.2.2.2
  obtain ⟨H1, s1, o4, x⟩ := sb_call h.2.1 (jb_str (kp := kp) d f hwd (n := cs.length) (by omega)) rfl (fun v hv => by
    simp only [List.mem_cons, List.not_mem_nil, or_false] at hv
    rcases hv with rfl | rfl
    · exact lx_ok (by omega)
    · intro a e z
      cases e
      exact absurd (show (1000010 + w : Nat) < 1000000 from z) (by omega))
  have g := sfr.of o4
  refine ⟨_, H1, h.ap g (by rw [List.length_append, ← c1]; exact s1) (tlk_app h.2.2.1 (fun k hk => if_neg (by omega)) (fun i hi => ?_)), g.2, ?_⟩
  · rw [← c1] at hi
    refine ⟨?_, (c2 i hi).2⟩
    show (if cs.length ≤ cs.length + i ∧ cs.length + i < cs.length + wL w then wg w (0 + (cs.length + i - cs.length)) else f (cs.length + i)) = _
    rw [if_pos ⟨by omega, by omega⟩, Nat.add_sub_cancel_left, Nat.zero_add]
    exact (c2 i hi).1
  · have e : rn_v (sba Wa V) (.ref (1000010 + w)) = .ref (1000010 + w) := by
      show Value.ref (sba Wa V (1000010 + w)) = _
      unfold sba
      rw [if_neg (by omega), if_neg (by omega)]
    have x : pm_X kp (d + 5) 115 [.ref Wa, rn_v (sba Wa V) (.ref (1000010 + w))] H (some (.ref Wa)) H1 := x
    rw [e] at x
    exact x
end AP
theorem wsl_k {k : Nat} (h : k < 4) : wsl k = wcs k := by
  rcases (by omega : k = 0 ∨ k = 1 ∨ k = 2 ∨ k = 3) with rfl | rfl | rfl | rfl <;> rfl
theorem nI_and3 {a : Nat} (ha : a < 2 ^ 31) : nI a &&& Int32.ofInt 3 = nI (a % 4) := by
  have h := nI_and (a := a) (b := 3) ha (by omega)
  rw [show a &&& 3 = a % 2 ^ 2 from Nat.and_two_pow_sub_one_eq_mod a 2] at h
  exact h
set_option maxRecDepth 100000 in
theorem lw_rule0 {kp : pm_K} {d : Nat} {Q : Option Value → pm_H → Prop} {i N Kd Wa V : Nat} {A B : Nat → Nat} {m mB : qm_M} {s : sT} {cs : List Nat} {f : Nat → Int32} {H : pm_H} (hN : N < 2 ^ 31) (h : ws A B Kd Wa V mB s m cs f H) (hcs : cs.length ≤ 40) :
    ∃ f1 H1, ws A B Kd Wa V mB s (qm_sI (qm_sI (qm_sI m 113 0 (nI (1 + N / 2 ^ 4 % 5))) 114 0 (nI (N / 2 ^ 10 % 4))) 115 0 (nI (1 + N / 2 ^ 14 % 4))) (cs ++ rlt (1 + N / 2 ^ 4 % 5) (N / 2 ^ 10 % 4) (1 + N / 2 ^ 14 % 4) [32]) f1 H1 ∧ (H1.length = H.length ∧ pm_sl H1 = pm_sl H) ∧ (pm_W kp md_L_law (pm_X kp (d + 40)) 2000 40000 Q 282 [(10, .int (nI 1)), (9, .ref Wa), (2, .ref (A 112)), (8, .int 1), (7, .ref (B 112)), (6, .int (nI N)), (5, .int (nI i)), (3, .int 1), (4, .ref Kd), (1, .ref 0), (0, .ref 1000000)] [] H1 → pm_W kp md_L_law (pm_X kp (d + 40)) 2000 40000 Q 288 [(10, .int (nI 0)), (9, .ref Wa), (2, .ref (A 112)), (8, .int 1), (7, .ref (B 112)), (6, .int (nI N)), (5, .int (nI i)), (3, .int 1), (4, .ref Kd), (1, .ref 0), (0, .ref 1000000)] [] H) := by
  have hk4 : (N / 2 ^ 10 % 4) < 4 := Nat.mod_lt _ (by decide)
  have hr5 : N / 2 ^ 4 % 5 < 5 := Nat.mod_lt _ (by decide)
  have hl4 : N / 2 ^ 14 % 4 < 4 := Nat.mod_lt _ (by decide)
  have hwl := wl_le (N / 2 ^ 10 % 4)
  have hwk : (wsl (N / 2 ^ 10 % 4)).length = wl (N / 2 ^ 10 % 4) := by rw [wsl_k hk4]; exact wcs_len _ (by omega)
  have hw7 : (wsl 7).length = 2 := rfl
  have hw5 : (wsl 5).length = 1 := rfl
  obtain ⟨z1, w1, l1⟩ := h.set (o := 113) ⟨by omega, by omega⟩ rfl (Or.inl rfl) 0 (nI (1 + N / 2 ^ 4 % 5))
  obtain ⟨z2, w2, l2⟩ := w1.set (o := 114) ⟨by omega, by omega⟩ rfl (Or.inl rfl) 0 (nI (N / 2 ^ 10 % 4))
  obtain ⟨z3, w3, l3⟩ := w2.set (o := 115) ⟨by omega, by omega⟩ rfl (Or.inl rfl) 0 (nI (1 + N / 2 ^ 14 % 4))
  obtain ⟨f4, H4, w4, l4, x4⟩ := ap_int (kp := kp) (d + 37) w3 (v := (1 + N / 2 ^ 4 % 5)) (by omega) (by omega)
  obtain ⟨f5, H5, w5, l5, x5⟩ := ap_str (kp := kp) (d + 35) w4 (w := 5) (by omega) (by rw [List.length_append]; show cs.length + 1 + 6 ≤ 120; omega)
  obtain ⟨f6, H6, w6, l6, x6⟩ := ap_str (kp := kp) (d + 35) w5 (w := (N / 2 ^ 10 % 4)) (by omega) (by rw [List.length_append, List.length_append, hw5]; show cs.length + 1 + 1 + 6 ≤ 120; omega)
  obtain ⟨f7, H7, w7, l7, x7⟩ := ap_chr (kp := kp) (d + 37) w6 (by rw [List.length_append, List.length_append, List.length_append, hw5, hwk]; show cs.length + 1 + 1 + wl _ < 120; omega)
  obtain ⟨f8, H8, w8, l8, x8⟩ := ap_int (kp := kp) (d + 37) w7 (v := (1 + N / 2 ^ 14 % 4)) (by omega) (by rw [List.length_append, List.length_append, List.length_append, List.length_append, hw5, hwk]; show cs.length + 1 + 1 + wl _ + 1 < 120; omega)
  obtain ⟨f9, H9, w9, l9, x9⟩ := ap_str (kp := kp) (d + 35) w8 (w := 7) (by omega) (by rw [List.length_append, List.length_append, List.length_append, List.length_append, List.length_append, hw5, hwk]; show cs.length + 1 + 1 + wl _ + 1 + 1 + 6 ≤ 120; omega)
  have r1 : (qm_sI (qm_sI (qm_sI m 113 0 (nI (1 + N / 2 ^ 4 % 5))) 114 0 (nI (N / 2 ^ 10 % 4))) 115 0 (nI (1 + N / 2 ^ 14 % 4))).1 113 0 = nI (1 + N / 2 ^ 4 % 5) := by rw [me_oth _ _ _ _ (Or.inl (by omega)), me_oth _ _ _ _ (Or.inl (by omega)), me_self]
  have r2 : (qm_sI (qm_sI (qm_sI m 113 0 (nI (1 + N / 2 ^ 4 % 5))) 114 0 (nI (N / 2 ^ 10 % 4))) 115 0 (nI (1 + N / 2 ^ 14 % 4))).1 114 0 = nI (N / 2 ^ 10 % 4) := by rw [me_oth _ _ _ _ (Or.inl (by omega)), me_self]
  have r3 : (qm_sI (qm_sI (qm_sI m 113 0 (nI (1 + N / 2 ^ 4 % 5))) 114 0 (nI (N / 2 ^ 10 % 4))) 115 0 (nI (1 + N / 2 ^ 14 % 4))).1 115 0 = nI (1 + N / 2 ^ 14 % 4) := me_self _ _ _ _
  obtain ⟨kf, hkf⟩ := w5.2.2.2.1.1
  have ecs : cs ++ [48 + (1 + N / 2 ^ 4 % 5)] ++ wsl 5 ++ wsl (N / 2 ^ 10 % 4) ++ [32] ++ [48 + (1 + N / 2 ^ 14 % 4)] ++ wsl 7 = cs ++ rlt (1 + N / 2 ^ 4 % 5) (N / 2 ^ 10 % 4) (1 + N / 2 ^ 14 % 4) [32] := by
    unfold rlt
    rw [wsl_k hk4]
    simp [wsl]
  rw [ecs] at w9
  refine ⟨f9, H9, w9, ⟨by rw [l9.1, l8.1, l7.1, l6.1, l5.1, l4.1, l3.1, l2.1, l1.1], by rw [l9.2, l8.2, l7.2, l6.2, l5.2, l4.2, l3.2, l2.2, l1.2]⟩, fun hw => ?_⟩
  refine pq_ld 2 rfl rfl rfl ?_
  refine pq_get rfl (bH_of h.1).1 rfl ?_
  refine pq_ld 0 rfl rfl rfl ?_
  refine pq_cst rfl rfl ?_
  refine pq_ld 5 rfl rfl rfl ?_
  refine pq_cst rfl rfl ?_
  refine pq_cst rfl rfl ?_
  refine pq_ld 0 rfl rfl rfl ?_
  refine pq_bop rfl rfl ?_
  rw [show Int32.ofInt 3 * nI 0 = nI 0 from pk_mul 3 0]
  refine pq_bop rfl rfl ?_
  rw [show Int32.ofInt 4 + nI 0 = nI 4 from nI_add 4 0]
  refine pq_bop rfl rfl ?_
  rw [show ((nI N).toUInt32 >>> ((nI 4).toUInt32 &&& Int32.toUInt32 31)).toInt32 = nI (N / 2 ^ 4) from nI_ushr (k := 4) hN (by omega)]
  refine pq_cst rfl rfl ?_
  refine pq_dop rfl rfl (by decide) ?_
  rw [show nI (N / 2 ^ 4) - nI (N / 2 ^ 4) / Int32.ofInt 5 * Int32.ofInt 5 = nI (N / 2 ^ 4 % 5) from rem_e (b := 5) (by omega) (by omega) (by omega)]
  refine pq_bop rfl rfl ?_
  rw [show Int32.ofInt 1 + nI (N / 2 ^ 4 % 5) = nI (1 + N / 2 ^ 4 % 5) from nI_add 1 _]
  refine pq_ias rfl z1 (jb_vin (show 0 < 2 by omega) (by omega)) ?_
  rw [nI_clamp (show 0 < 2 ^ 31 by omega)]
  refine pq_ld 2 rfl rfl rfl ?_
  refine pq_get rfl (bH_of w1.1).1 rfl ?_
  refine pq_ld 0 rfl rfl rfl ?_
  refine pq_ld 5 rfl rfl rfl ?_
  refine pq_cst rfl rfl ?_
  refine pq_cst rfl rfl ?_
  refine pq_ld 0 rfl rfl rfl ?_
  refine pq_bop rfl rfl ?_
  rw [show Int32.ofInt 2 * nI 0 = nI 0 from pk_mul 2 0]
  refine pq_bop rfl rfl ?_
  rw [show (Int8.ofInt 10).toInt32 + nI 0 = nI 10 from nI_add 10 0]
  refine pq_bop rfl rfl ?_
  rw [show ((nI N).toUInt32 >>> ((nI 10).toUInt32 &&& Int32.toUInt32 31)).toInt32 = nI (N / 2 ^ 10) from nI_ushr (k := 10) hN (by omega)]
  refine pq_cst rfl rfl ?_
  refine pq_bop rfl rfl ?_
  rw [nI_and3 (show N / 2 ^ 10 < 2 ^ 31 by omega)]
  refine pq_ias rfl z2 (jb_vin (show 0 < 2 by omega) (by omega)) ?_
  rw [nI_clamp (show 0 < 2 ^ 31 by omega)]
  refine pq_ld 2 rfl rfl rfl ?_
  refine pq_get rfl (bH_of w2.1).1 rfl ?_
  refine pq_ld 0 rfl rfl rfl ?_
  refine pq_cst rfl rfl ?_
  refine pq_ld 5 rfl rfl rfl ?_
  refine pq_cst rfl rfl ?_
  refine pq_cst rfl rfl ?_
  refine pq_ld 0 rfl rfl rfl ?_
  refine pq_bop rfl rfl ?_
  rw [show Int32.ofInt 3 * nI 0 = nI 0 from pk_mul 3 0]
  refine pq_bop rfl rfl ?_
  rw [show (Int8.ofInt 14).toInt32 + nI 0 = nI 14 from nI_add 14 0]
  refine pq_bop rfl rfl ?_
  rw [show ((nI N).toUInt32 >>> ((nI 14).toUInt32 &&& Int32.toUInt32 31)).toInt32 = nI (N / 2 ^ 14) from nI_ushr (k := 14) hN (by omega)]
  refine pq_cst rfl rfl ?_
  refine pq_dop rfl rfl (by decide) ?_
  rw [show nI (N / 2 ^ 14) - nI (N / 2 ^ 14) / Int32.ofInt 4 * Int32.ofInt 4 = nI (N / 2 ^ 14 % 4) from rem_e (b := 4) (by omega) (by omega) (by omega)]
  refine pq_bop rfl rfl ?_
  rw [show Int32.ofInt 1 + nI (N / 2 ^ 14 % 4) = nI (1 + N / 2 ^ 14 % 4) from nI_add 1 _]
  refine pq_ias rfl z3 (jb_vin (show 0 < 2 by omega) (by omega)) ?_
  rw [nI_clamp (show 0 < 2 ^ 31 by omega)]
  refine pq_ld 1 rfl rfl rfl ?_
  refine pq_ld 2 rfl rfl rfl ?_
  refine pq_get rfl (bH_of w3.1).1 rfl ?_
  refine pq_ld 0 rfl rfl rfl ?_
  refine pq_ial rfl (bH_of w3.1).2.1 (jb_vin (show 0 < 2 by omega) (by omega)) ?_
  rw [nI_clamp (show 0 < 2 ^ 31 by omega), r1]
  refine pq_clv rfl (Or.inl ⟨rfl, rfl⟩) rfl (Nat.le_of_ble_eq_true rfl) w3.2.1.1 (by decide +kernel) (Or.inl rfl) x4 ?_
  refine pq_ld 0 rfl rfl rfl ?_
  refine pq_ifc rfl (fun z => absurd z (fun z => z rfl)) (fun _ => ?_)
  refine pq_ldc rfl rfl rfl ?_
  refine pq_goto rfl ?_
  refine pq_clv rfl (Or.inl ⟨rfl, rfl⟩) rfl (Nat.le_of_ble_eq_true rfl) w4.2.1.1 (by decide +kernel) (Or.inl rfl) x5 ?_
  refine pq_ld 8 rfl rfl rfl ?_
  refine pq_ld 2 rfl rfl rfl ?_
  refine pq_get rfl (bH_of w5.1).1 rfl ?_
  refine pq_ld 0 rfl rfl rfl ?_
  refine pq_ial rfl (bH_of w5.1).2.2.1 (jb_vin (show 0 < 2 by omega) (by omega)) ?_
  rw [nI_clamp (show 0 < 2 ^ 31 by omega), r2]
  refine pq_aal rfl hkf.1 (by decide) (jb_vin hk4 (by omega)) (by rw [nI_clamp (by omega)]; exact hkf.2 _ hk4) ?_
  refine pq_clv rfl (Or.inl ⟨rfl, rfl⟩) rfl (Nat.le_of_ble_eq_true rfl) w5.2.1.1 (by decide +kernel) (Or.inl rfl) x6 ?_
  refine pq_cst rfl rfl ?_
  refine pq_clv rfl (Or.inl ⟨rfl, rfl⟩) rfl (Nat.le_of_ble_eq_true rfl) w6.2.1.1 (by decide +kernel) (Or.inl rfl) x7 ?_
  refine pq_ld 2 rfl rfl rfl ?_
  refine pq_get rfl (bH_of w7.1).1 rfl ?_
  refine pq_ld 0 rfl rfl rfl ?_
  refine pq_ial rfl (bH_of w7.1).2.2.2.1 (jb_vin (show 0 < 2 by omega) (by omega)) ?_
  rw [nI_clamp (show 0 < 2 ^ 31 by omega), r3]
  refine pq_clv rfl (Or.inl ⟨rfl, rfl⟩) rfl (Nat.le_of_ble_eq_true rfl) w7.2.1.1 (by decide +kernel) (Or.inl rfl) x8 ?_
  refine pq_ldc rfl rfl rfl ?_
  refine pq_clv rfl (Or.inl ⟨rfl, rfl⟩) rfl (Nat.le_of_ble_eq_true rfl) w8.2.1.1 (by decide +kernel) (Or.inl rfl) x9 ?_
  refine pq_sop rfl rfl ?_
  refine pq_inc 0 rfl rfl rfl ?_
  rw [show nI 0 + Int32.ofInt 1 = nI 1 from rfl]
  refine pq_goto rfl ?_
  exact hw
set_option maxRecDepth 100000 in
theorem lw_rule1 {kp : pm_K} {d : Nat} {Q : Option Value → pm_H → Prop} {i N Kd Wa V : Nat} {A B : Nat → Nat} {m mB : qm_M} {s : sT} {cs : List Nat} {f : Nat → Int32} {H : pm_H} (hN : N < 2 ^ 31) (h : ws A B Kd Wa V mB s m cs f H) (hcs : cs.length ≤ 40) :
    ∃ f1 H1, ws A B Kd Wa V mB s (qm_sI (qm_sI (qm_sI m 113 1 (nI (1 + N / 2 ^ 7 % 5))) 114 1 (nI (N / 2 ^ 12 % 4))) 115 1 (nI (1 + N / 2 ^ 17 % 4))) (cs ++ rlt (1 + N / 2 ^ 7 % 5) (N / 2 ^ 12 % 4) (1 + N / 2 ^ 17 % 4) []) f1 H1 ∧ (H1.length = H.length ∧ pm_sl H1 = pm_sl H) ∧ (pm_W kp md_L_law (pm_X kp (d + 40)) 2000 40000 Q 282 [(10, .int (nI 2)), (9, .ref Wa), (2, .ref (A 112)), (8, .int 1), (7, .ref (B 112)), (6, .int (nI N)), (5, .int (nI i)), (3, .int 1), (4, .ref Kd), (1, .ref 0), (0, .ref 1000000)] [] H1 → pm_W kp md_L_law (pm_X kp (d + 40)) 2000 40000 Q 288 [(10, .int (nI 1)), (9, .ref Wa), (2, .ref (A 112)), (8, .int 1), (7, .ref (B 112)), (6, .int (nI N)), (5, .int (nI i)), (3, .int 1), (4, .ref Kd), (1, .ref 0), (0, .ref 1000000)] [] H) := by
  have hk4 : (N / 2 ^ 12 % 4) < 4 := Nat.mod_lt _ (by decide)
  have hr5 : N / 2 ^ 7 % 5 < 5 := Nat.mod_lt _ (by decide)
  have hl4 : N / 2 ^ 17 % 4 < 4 := Nat.mod_lt _ (by decide)
  have hwl := wl_le (N / 2 ^ 12 % 4)
  have hwk : (wsl (N / 2 ^ 12 % 4)).length = wl (N / 2 ^ 12 % 4) := by rw [wsl_k hk4]; exact wcs_len _ (by omega)
  have hw7 : (wsl 7).length = 2 := rfl
  have hw5 : (wsl 6).length = 0 := rfl
  obtain ⟨z1, w1, l1⟩ := h.set (o := 113) ⟨by omega, by omega⟩ rfl (Or.inl rfl) 1 (nI (1 + N / 2 ^ 7 % 5))
  obtain ⟨z2, w2, l2⟩ := w1.set (o := 114) ⟨by omega, by omega⟩ rfl (Or.inl rfl) 1 (nI (N / 2 ^ 12 % 4))
  obtain ⟨z3, w3, l3⟩ := w2.set (o := 115) ⟨by omega, by omega⟩ rfl (Or.inl rfl) 1 (nI (1 + N / 2 ^ 17 % 4))
  obtain ⟨f4, H4, w4, l4, x4⟩ := ap_int (kp := kp) (d + 37) w3 (v := (1 + N / 2 ^ 7 % 5)) (by omega) (by omega)
  obtain ⟨f5, H5, w5, l5, x5⟩ := ap_str (kp := kp) (d + 35) w4 (w := 6) (by omega) (by rw [List.length_append]; show cs.length + 1 + 6 ≤ 120; omega)
  obtain ⟨f6, H6, w6, l6, x6⟩ := ap_str (kp := kp) (d + 35) w5 (w := (N / 2 ^ 12 % 4)) (by omega) (by rw [List.length_append, List.length_append, hw5]; show cs.length + 1 + 0 + 6 ≤ 120; omega)
  obtain ⟨f7, H7, w7, l7, x7⟩ := ap_chr (kp := kp) (d + 37) w6 (by rw [List.length_append, List.length_append, List.length_append, hw5, hwk]; show cs.length + 1 + 0 + wl _ < 120; omega)
  obtain ⟨f8, H8, w8, l8, x8⟩ := ap_int (kp := kp) (d + 37) w7 (v := (1 + N / 2 ^ 17 % 4)) (by omega) (by rw [List.length_append, List.length_append, List.length_append, List.length_append, hw5, hwk]; show cs.length + 1 + 0 + wl _ + 1 < 120; omega)
  obtain ⟨f9, H9, w9, l9, x9⟩ := ap_str (kp := kp) (d + 35) w8 (w := 7) (by omega) (by rw [List.length_append, List.length_append, List.length_append, List.length_append, List.length_append, hw5, hwk]; show cs.length + 1 + 0 + wl _ + 1 + 1 + 6 ≤ 120; omega)
  have r1 : (qm_sI (qm_sI (qm_sI m 113 1 (nI (1 + N / 2 ^ 7 % 5))) 114 1 (nI (N / 2 ^ 12 % 4))) 115 1 (nI (1 + N / 2 ^ 17 % 4))).1 113 1 = nI (1 + N / 2 ^ 7 % 5) := by rw [me_oth _ _ _ _ (Or.inl (by omega)), me_oth _ _ _ _ (Or.inl (by omega)), me_self]
  have r2 : (qm_sI (qm_sI (qm_sI m 113 1 (nI (1 + N / 2 ^ 7 % 5))) 114 1 (nI (N / 2 ^ 12 % 4))) 115 1 (nI (1 + N / 2 ^ 17 % 4))).1 114 1 = nI (N / 2 ^ 12 % 4) := by rw [me_oth _ _ _ _ (Or.inl (by omega)), me_self]
  have r3 : (qm_sI (qm_sI (qm_sI m 113 1 (nI (1 + N / 2 ^ 7 % 5))) 114 1 (nI (N / 2 ^ 12 % 4))) 115 1 (nI (1 + N / 2 ^ 17 % 4))).1 115 1 = nI (1 + N / 2 ^ 17 % 4) := me_self _ _ _ _
  obtain ⟨kf, hkf⟩ := w5.2.2.2.1.1
  have ecs : cs ++ [48 + (1 + N / 2 ^ 7 % 5)] ++ wsl 6 ++ wsl (N / 2 ^ 12 % 4) ++ [32] ++ [48 + (1 + N / 2 ^ 17 % 4)] ++ wsl 7 = cs ++ rlt (1 + N / 2 ^ 7 % 5) (N / 2 ^ 12 % 4) (1 + N / 2 ^ 17 % 4) [] := by
    unfold rlt
    rw [wsl_k hk4]
    simp [wsl]
  rw [ecs] at w9
  refine ⟨f9, H9, w9, ⟨by rw [l9.1, l8.1, l7.1, l6.1, l5.1, l4.1, l3.1, l2.1, l1.1], by rw [l9.2, l8.2, l7.2, l6.2, l5.2, l4.2, l3.2, l2.2, l1.2]⟩, fun hw => ?_⟩
  refine pq_ld 2 rfl rfl rfl ?_
  refine pq_get rfl (bH_of h.1).1 rfl ?_
  refine pq_ld 0 rfl rfl rfl ?_
  refine pq_cst rfl rfl ?_
  refine pq_ld 5 rfl rfl rfl ?_
  refine pq_cst rfl rfl ?_
  refine pq_cst rfl rfl ?_
  refine pq_ld 0 rfl rfl rfl ?_
  refine pq_bop rfl rfl ?_
  rw [show Int32.ofInt 3 * nI 1 = nI 3 from pk_mul 3 1]
  refine pq_bop rfl rfl ?_
  rw [show Int32.ofInt 4 + nI 3 = nI 7 from nI_add 4 3]
  refine pq_bop rfl rfl ?_
  rw [show ((nI N).toUInt32 >>> ((nI 7).toUInt32 &&& Int32.toUInt32 31)).toInt32 = nI (N / 2 ^ 7) from nI_ushr (k := 7) hN (by omega)]
  refine pq_cst rfl rfl ?_
  refine pq_dop rfl rfl (by decide) ?_
  rw [show nI (N / 2 ^ 7) - nI (N / 2 ^ 7) / Int32.ofInt 5 * Int32.ofInt 5 = nI (N / 2 ^ 7 % 5) from rem_e (b := 5) (by omega) (by omega) (by omega)]
  refine pq_bop rfl rfl ?_
  rw [show Int32.ofInt 1 + nI (N / 2 ^ 7 % 5) = nI (1 + N / 2 ^ 7 % 5) from nI_add 1 _]
  refine pq_ias rfl z1 (jb_vin (show 1 < 2 by omega) (by omega)) ?_
  rw [nI_clamp (show 1 < 2 ^ 31 by omega)]
  refine pq_ld 2 rfl rfl rfl ?_
  refine pq_get rfl (bH_of w1.1).1 rfl ?_
  refine pq_ld 0 rfl rfl rfl ?_
  refine pq_ld 5 rfl rfl rfl ?_
  refine pq_cst rfl rfl ?_
  refine pq_cst rfl rfl ?_
  refine pq_ld 0 rfl rfl rfl ?_
  refine pq_bop rfl rfl ?_
  rw [show Int32.ofInt 2 * nI 1 = nI 2 from pk_mul 2 1]
  refine pq_bop rfl rfl ?_
  rw [show (Int8.ofInt 10).toInt32 + nI 2 = nI 12 from nI_add 10 2]
  refine pq_bop rfl rfl ?_
  rw [show ((nI N).toUInt32 >>> ((nI 12).toUInt32 &&& Int32.toUInt32 31)).toInt32 = nI (N / 2 ^ 12) from nI_ushr (k := 12) hN (by omega)]
  refine pq_cst rfl rfl ?_
  refine pq_bop rfl rfl ?_
  rw [nI_and3 (show N / 2 ^ 12 < 2 ^ 31 by omega)]
  refine pq_ias rfl z2 (jb_vin (show 1 < 2 by omega) (by omega)) ?_
  rw [nI_clamp (show 1 < 2 ^ 31 by omega)]
  refine pq_ld 2 rfl rfl rfl ?_
  refine pq_get rfl (bH_of w2.1).1 rfl ?_
  refine pq_ld 0 rfl rfl rfl ?_
  refine pq_cst rfl rfl ?_
  refine pq_ld 5 rfl rfl rfl ?_
  refine pq_cst rfl rfl ?_
  refine pq_cst rfl rfl ?_
  refine pq_ld 0 rfl rfl rfl ?_
  refine pq_bop rfl rfl ?_
  rw [show Int32.ofInt 3 * nI 1 = nI 3 from pk_mul 3 1]
  refine pq_bop rfl rfl ?_
  rw [show (Int8.ofInt 14).toInt32 + nI 3 = nI 17 from nI_add 14 3]
  refine pq_bop rfl rfl ?_
  rw [show ((nI N).toUInt32 >>> ((nI 17).toUInt32 &&& Int32.toUInt32 31)).toInt32 = nI (N / 2 ^ 17) from nI_ushr (k := 17) hN (by omega)]
  refine pq_cst rfl rfl ?_
  refine pq_dop rfl rfl (by decide) ?_
  rw [show nI (N / 2 ^ 17) - nI (N / 2 ^ 17) / Int32.ofInt 4 * Int32.ofInt 4 = nI (N / 2 ^ 17 % 4) from rem_e (b := 4) (by omega) (by omega) (by omega)]
  refine pq_bop rfl rfl ?_
  rw [show Int32.ofInt 1 + nI (N / 2 ^ 17 % 4) = nI (1 + N / 2 ^ 17 % 4) from nI_add 1 _]
  refine pq_ias rfl z3 (jb_vin (show 1 < 2 by omega) (by omega)) ?_
  rw [nI_clamp (show 1 < 2 ^ 31 by omega)]
  refine pq_ld 1 rfl rfl rfl ?_
  refine pq_ld 2 rfl rfl rfl ?_
  refine pq_get rfl (bH_of w3.1).1 rfl ?_
  refine pq_ld 0 rfl rfl rfl ?_
  refine pq_ial rfl (bH_of w3.1).2.1 (jb_vin (show 1 < 2 by omega) (by omega)) ?_
  rw [nI_clamp (show 1 < 2 ^ 31 by omega), r1]
  refine pq_clv rfl (Or.inl ⟨rfl, rfl⟩) rfl (Nat.le_of_ble_eq_true rfl) w3.2.1.1 (by decide +kernel) (Or.inl rfl) x4 ?_
  refine pq_ld 0 rfl rfl rfl ?_
  refine pq_ifc rfl (fun _ => ?_) (fun z => absurd (n10) z)
  refine pq_ldc rfl rfl rfl ?_
  refine pq_clv rfl (Or.inl ⟨rfl, rfl⟩) rfl (Nat.le_of_ble_eq_true rfl) w4.2.1.1 (by decide +kernel) (Or.inl rfl) x5 ?_
  refine pq_ld 8 rfl rfl rfl ?_
  refine pq_ld 2 rfl rfl rfl ?_
  refine pq_get rfl (bH_of w5.1).1 rfl ?_
  refine pq_ld 0 rfl rfl rfl ?_
  refine pq_ial rfl (bH_of w5.1).2.2.1 (jb_vin (show 1 < 2 by omega) (by omega)) ?_
  rw [nI_clamp (show 1 < 2 ^ 31 by omega), r2]
  refine pq_aal rfl hkf.1 (by decide) (jb_vin hk4 (by omega)) (by rw [nI_clamp (by omega)]; exact hkf.2 _ hk4) ?_
  refine pq_clv rfl (Or.inl ⟨rfl, rfl⟩) rfl (Nat.le_of_ble_eq_true rfl) w5.2.1.1 (by decide +kernel) (Or.inl rfl) x6 ?_
  refine pq_cst rfl rfl ?_
  refine pq_clv rfl (Or.inl ⟨rfl, rfl⟩) rfl (Nat.le_of_ble_eq_true rfl) w6.2.1.1 (by decide +kernel) (Or.inl rfl) x7 ?_
  refine pq_ld 2 rfl rfl rfl ?_
  refine pq_get rfl (bH_of w7.1).1 rfl ?_
  refine pq_ld 0 rfl rfl rfl ?_
  refine pq_ial rfl (bH_of w7.1).2.2.2.1 (jb_vin (show 1 < 2 by omega) (by omega)) ?_
  rw [nI_clamp (show 1 < 2 ^ 31 by omega), r3]
  refine pq_clv rfl (Or.inl ⟨rfl, rfl⟩) rfl (Nat.le_of_ble_eq_true rfl) w7.2.1.1 (by decide +kernel) (Or.inl rfl) x8 ?_
  refine pq_ldc rfl rfl rfl ?_
  refine pq_clv rfl (Or.inl ⟨rfl, rfl⟩) rfl (Nat.le_of_ble_eq_true rfl) w8.2.1.1 (by decide +kernel) (Or.inl rfl) x9 ?_
  refine pq_sop rfl rfl ?_
  refine pq_inc 0 rfl rfl rfl ?_
  rw [show nI 1 + Int32.ofInt 1 = nI 2 from rfl]
  refine pq_goto rfl ?_
  exact hw
