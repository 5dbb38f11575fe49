/-! calls on both sides: numbers told, places, grids -/
/-- an act of both: one answer, one state -/
def act2 (FT FM : qm_M → Option qm_R) : Prop := ∀ mc mm s, cs mc s → ms mm s → gd s → ∃ r s1 mc1 mm1, FT mc = some (some (.int r), mc1) ∧ FM mm = some (some (.int r), mm1) ∧ cs mc1 s1 ∧ ms mm1 s1 ∧ gd s1 ∧ hi_fr mc mc1 ∧ lo_fr mm mm1
theorem act2.no {mc mm : qm_M} {s : sT} (hc : cs mc s) (hm : ms mm s) (g : gd s) {A B : Option qm_R} {r : Int32} (h1 : A = some (some (.int r), mc)) (h2 : B = some (some (.int r), mm)) : ∃ r s1 mc1 mm1, A = some (some (.int r), mc1) ∧ B = some (some (.int r), mm1) ∧ cs mc1 s1 ∧ ms mm1 s1 ∧ gd s1 ∧ hi_fr mc mc1 ∧ lo_fr mm mm1 :=
  ⟨r, s, mc, mm, h1, h2, hc, hm, g, hi_fr.rf mc, lo_fr.rf mm⟩
theorem n10 : ¬ (1 : Int32) = 0 := by decide
theorem cs_i {m : qm_M} {s : sT} (h : cs m s) {k n : Nat} (hk : k < 6) (e : s.1 k = lN n) : m.1 1 k = nI n := by
  have h1 := h.1 k (by omega)
  unfold px_c at h1
  rw [if_pos hk, e] at h1
  have h2 := congrArg Int64.toInt32 h1
  rw [Int32.toInt32_toInt64, lN_i] at h2
  exact h2
theorem cs_g {m : qm_M} {s : sT} (h : cs m s) {k n : Nat} (hk : k < 2) (e : s.1 (15 + k) = lN n) : m.1 1 (8 + k) = nI n := by
  have h1 := h.1 (15 + k) (by omega)
  unfold px_c at h1
  rw [if_neg (by omega), if_neg (by omega), if_neg (by omega), if_pos (by omega), e, show 15 + k - 7 = 8 + k by omega] at h1
  have h2 := congrArg Int64.toInt32 h1
  rw [Int32.toInt32_toInt64, lN_i] at h2
  exact h2
theorem cs_h {m : qm_M} {s : sT} (h : cs m s) : m.2 1 6 = s.1 6 := h.1 6 (by omega)
theorem cs_p {m : qm_M} {s : sT} (h : cs m s) {k : Nat} (hk : k < 8) : m.2 2 k = s.1 (7 + k) := by
  have h1 := h.1 (7 + k) (by omega)
  unfold px_c at h1
  rw [if_neg (by omega), if_neg (by omega), if_pos (by omega), show 7 + k - 7 = k by omega] at h1
  exact h1
theorem cs_e {m : qm_M} {s : sT} (h : cs m s) {k : Nat} (hk : k < 16) : m.2 3 k = s.1 (17 + k) := by
  have h1 := h.1 (17 + k) (by omega)
  unfold px_c at h1
  rw [if_neg (by omega), if_neg (by omega), if_neg (by omega), if_neg (by omega), show 17 + k - 17 = k by omega] at h1
  exact h1
theorem nw_lt (v : Int32) {N : Nat} (h0 : 0 < N) (hN : N < 2 ^ 31) : (∃ j, j < N ∧ v = nI j) ∨ ((v < 0 ∨ ¬ v < nI N) ∧ (v < nI 0 ∨ nI (N - 1) < v)) := by
  by_cases h1 : v < 0
  · exact Or.inr ⟨Or.inl h1, Or.inl h1⟩
  · obtain ⟨j, hj, rfl⟩ := nw_ex v h1
    by_cases q : j < N
    · exact Or.inl ⟨j, q, rfl⟩
    · exact Or.inr ⟨Or.inr (nI_nlt (by omega) hj), Or.inr (nI_lt (by omega) hj)⟩
theorem mt_in1 {v : Int32} {a b : Int64} {j n k : Nat} (hv : v = nI j) (ha : a = lN n) (hb : b = lN k) (h1 : n ≤ j) (h2 : j ≤ k) (hk : k < 2 ^ 31) (m : qm_M) : F_M_isIn v.toInt64 a b m = some (some (.int 1), m) := by
  have := mt_isInI v (nI n) (nI k) m
  rw [nI_l (n := n) (by omega), nI_l hk, ← ha, ← hb, hv, if_neg (nI_nlt h1 (by omega)), if_neg (nI_nlt h2 hk)] at this
  rw [hv]
  exact this
theorem mt_in0 {v : Int32} {a b : Int64} {n k : Nat} (ha : a = lN n) (hb : b = lN k) (hn : n < 2 ^ 31) (hk : k < 2 ^ 31) (h : v < nI n ∨ nI k < v) (m : qm_M) : F_M_isIn v.toInt64 a b m = some (some (.int 0), m) := by
  have := mt_isInI v (nI n) (nI k) m
  rw [nI_l hn, nI_l hk, ← ha, ← hb] at this
  rw [this]
  by_cases q : v < nI n
  · rw [if_pos q]
  · rw [if_neg q, if_pos (h.resolve_left q)]
theorem nu_hasPlace1 {j : Nat} (hj : j < 8) (m : qm_M) : F_Ps_hasPlace (nI j) m = some (some (.int 1), m) := by
  unfold F_Ps_hasPlace X_Ps_hasPlace_e
  have e1 : nI j < (8 : Int32) := nI_lt (a := j) (b := 8) hj (by omega)
  rw [if_neg (nI_pos (by omega)), if_pos e1]
theorem nu_hasPlace0 {v : Int32} (h : v < 0 ∨ ¬ v < nI 8) (m : qm_M) : F_Ps_hasPlace v m = some (some (.int 0), m) := by
  unfold F_Ps_hasPlace X_Ps_hasPlace_e
  by_cases h1 : v < 0
  · rw [if_pos h1]
  · have h2 : ¬ v < (8 : Int32) := h.resolve_left h1
    rw [if_neg h1, if_neg h2]
theorem mt_placeOf {m : qm_M} {P : sP} (h : ms_now m P) {j : Nat} (hj : j < 8) : F_M_placeOf (nI j) m = some (some (.long (P (7 + j))), m) := by
  unfold F_M_placeOf X_M_placeOf_e
  have e : (7 : Int32) + nI j = nI (7 + j) := nI_add 7 j
  rw [e, qm_in_nI (by omega) (by omega), nI_clamp (by omega), h _ (by omega)]
  rfl
/-- one entry of the position is another one -/
def sS (P : sP) (k : Nat) (x : Int64) : sP := fun j => if j = k then x else P j
theorem px_ok.set {P : sP} (h : px_ok P) {k : Nat} (hk : 7 ≤ k ∧ k < 15 ∨ 17 ≤ k) (x : Int64) : px_ok (sS P k x) := h.c (fun j hj => by
  show (if j = k then x else P j) = P j
  by_cases q : j = k
  · omega
  · rw [if_neg q])
/-- one place of the class's position is another one -/
theorem cs.setP {m : qm_M} {s : sT} (h : cs m s) {k : Nat} (hk : k < 8) (x : Int64) : cs (qm_sL m 2 k x) (sS s.1 (7 + k) x, s.2) := by
  refine h.now (m1 := qm_sL m 2 k x) ⟨fun _ _ => rfl, fun a h1 h2 _ => (qm_sL_other a h2).2⟩ (fun j hj => ?_)
  have hj' := h.1 j hj
  show px_c (qm_sL m 2 k x) 1 j = if j = 7 + k then x else s.1 j
  unfold px_c at hj' ⊢
  simp only [me_1L]
  by_cases c1 : j < 6
  · rw [if_pos c1] at hj' ⊢
    rw [if_neg (by omega)]; exact hj'
  · rw [if_neg c1] at hj' ⊢
    by_cases c2 : j = 6
    · rw [if_pos c2] at hj' ⊢
      rw [me_2L, if_neg (by decide), if_neg (by omega)]; exact hj'
    · rw [if_neg c2] at hj' ⊢
      by_cases c3 : j < 15
      · rw [if_pos c3] at hj' ⊢
        rw [me_2L, if_pos rfl]
        by_cases q : j = 7 + k
        · rw [if_pos (by omega), if_pos q]
        · rw [if_neg (by omega), if_neg q]; exact hj'
      · rw [if_neg c3] at hj' ⊢
        rw [if_neg (show ¬ j = 7 + k by omega)]
        by_cases c4 : j < 17
        · rw [if_pos c4] at hj' ⊢; exact hj'
        · rw [if_neg c4] at hj' ⊢
          rw [me_2L, if_neg (by decide)]; exact hj'
theorem cs.setE {m : qm_M} {s : sT} (h : cs m s) {k : Nat} (hk : k < 16) (x : Int64) : cs (qm_sL m 3 k x) (sS s.1 (17 + k) x, s.2) := by
  refine h.now (m1 := qm_sL m 3 k x) ⟨fun _ _ => rfl, fun a _ _ h3 => (qm_sL_other a h3).2⟩ (fun j hj => ?_)
  have hj' := h.1 j hj
  show px_c (qm_sL m 3 k x) 1 j = if j = 17 + k then x else s.1 j
  unfold px_c at hj' ⊢
  simp only [me_1L]
  by_cases c1 : j < 6
  · rw [if_pos c1] at hj' ⊢
    rw [if_neg (by omega)]; exact hj'
  · rw [if_neg c1] at hj' ⊢
    by_cases c2 : j = 6
    · rw [if_pos c2] at hj' ⊢
      rw [me_2L, if_neg (by decide), if_neg (by omega)]; exact hj'
    · rw [if_neg c2] at hj' ⊢
      by_cases c3 : j < 15
      · rw [if_pos c3] at hj' ⊢
        rw [me_2L, if_neg (by decide), if_neg (by omega)]; exact hj'
      · rw [if_neg c3] at hj' ⊢
        by_cases c4 : j < 17
        · rw [if_pos c4] at hj' ⊢
          rw [if_neg (by omega)]; exact hj'
        · rw [if_neg c4] at hj' ⊢
          rw [me_2L, if_pos rfl]
          by_cases q : j = 17 + k
          · rw [if_pos (by omega), if_pos q]
          · rw [if_neg (by omega), if_neg q]; exact hj'
theorem cs.setH {m : qm_M} {s : sT} (h : cs m s) (x : Int64) : cs (qm_sL m 1 6 x) (sS s.1 6 x, s.2) := by
  refine h.now (m1 := qm_sL m 1 6 x) ⟨fun _ _ => rfl, fun a h1 _ _ => (qm_sL_other a h1).2⟩ (fun j hj => ?_)
  have hj' := h.1 j hj
  show px_c (qm_sL m 1 6 x) 1 j = if j = 6 then x else s.1 j
  unfold px_c at hj' ⊢
  simp only [me_1L]
  by_cases c1 : j < 6
  · rw [if_pos c1] at hj' ⊢
    rw [if_neg (by omega)]; exact hj'
  · rw [if_neg c1] at hj' ⊢
    by_cases c2 : j = 6
    · rw [if_pos c2, if_pos c2, me_2L, if_pos rfl, if_pos rfl]
    · rw [if_neg c2] at hj' ⊢
      rw [if_neg c2, me_2L, me_2L, if_neg (show ¬ (1 + 1 : Nat) = 1 by decide), if_neg (show ¬ (1 + 2 : Nat) = 1 by decide)]; exact hj'
theorem ms.set {m : qm_M} {s : sT} (h : ms m s) {k : Nat} (x : Int64) : ms (qm_sL m 113 k x) (sS s.1 k x, s.2) := by
  refine h.now (m1 := qm_sL m 113 k x) rfl (fun a ha => (qm_sL_other a ha).2) (fun j hj => ?_)
  rw [me_2L, if_pos rfl]
  show (if j = k then x else m.2 113 j) = if j = k then x else s.1 j
  rw [h.2.1 j hj]
/-- a place told or reckoned -/
theorem act_place {mc mm : qm_M} {s : sT} (hc : cs mc s) (hm : ms mm s) (g : gd s) {k : Nat} (hk : k < 8) (x : Int64) : ∃ mc1 mm1, F_Pa_push mc = some (none, mc1) ∧ F_M_keepsAct mm = some (none, mm1) ∧ cs (qm_sL mc1 2 k x) (st_act s (sS s.1 (7 + k) x)) ∧ ms (qm_sL mm1 113 (7 + k) x) (st_act s (sS s.1 (7 + k) x)) ∧ gd (st_act s (sS s.1 (7 + k) x)) ∧ hi_fr mc (qm_sL mc1 2 k x) ∧ lo_fr mm (qm_sL mm1 113 (7 + k) x) ∧ nt_ok 64 mm1 := by
  obtain ⟨mc1, p1, p2, p3⟩ := nu_push hc g.2.1
  obtain ⟨mm1, q1, q2, q3, q4⟩ := mt_keepsAct hm g.2.1
  exact ⟨mc1, mm1, p1, q1, p2.setP hk x, q2.set x, g.act (g.1.set (Or.inl (by omega)) x), p3.tr (hi_fr.L _ (by omega)), (mt_keepsAct_lo q3 q4).tr (lo_fr.L _ (by omega)), q2.1.1⟩
theorem w_put (v : Int32) (x : Int64) : act2 (F_T_put v x) (F_M_put v x) := by
  intro mc mm s hc hm g
  unfold F_T_put X_T_put_e F_M_put X_M_put_e
  rcases nw_lt v (N := 8) (by omega) (by omega) with ⟨j, hj, rfl⟩ | ⟨h1, h2⟩
  · rw [nu_hasPlace1 hj, mt_in1 (j := j) (a := 0) (b := 7) (n := 0) (k := 7) rfl rfl rfl (by omega) (by omega) (by omega)]
    dsimp only [qe_rI]
    rw [if_neg n10, if_neg n10, qm_in_nI hj (by omega), nI_clamp (by omega), cs_p hc hj, mt_placeOf hm.2.1 hj]
    dsimp only [qe_rL, qe_b, cond_true]
    by_cases q : lg_cmp (s.1 (7 + j)) x = 0
    · rw [if_pos q, if_pos q]
      exact act2.no hc hm g rfl rfl
    · obtain ⟨mc1, mm1, p1, q1, p2, q2, g2, p3, q3, -⟩ := act_place hc hm g hj x
      have e : (7 : Int32) + nI j = nI (7 + j) := nI_add 7 j
      rw [if_neg q, if_neg q, p1, q1]
      dsimp only [qe_rV]
      rw [e, qm_in_nI (by omega) (by omega), nI_clamp (by omega)]
      exact ⟨1, _, _, _, rfl, rfl, p2, q2, g2, p3, q3⟩
  · rw [nu_hasPlace0 h1, mt_in0 (a := 0) (b := 7) (n := 0) (k := 7) rfl rfl (by omega) (by omega) h2]
    exact act2.no hc hm g rfl rfl
theorem w_place (v : Int32) {mc mm : qm_M} {s : sT} (hc : cs mc s) (hm : ms mm s) : ∃ r, F_T_place v mc = some (some (.long r), mc) ∧ F_M_place_IJ v mm = some (some (.long r), mm) := by
  unfold F_T_place X_T_place_e F_M_place_IJ X_M_place_IJ_e
  rcases nw_lt v (N := 8) (by omega) (by omega) with ⟨j, hj, rfl⟩ | ⟨h1, h2⟩
  · rw [nu_hasPlace1 hj, mt_in1 (j := j) (a := 0) (b := 7) (n := 0) (k := 7) rfl rfl rfl (by omega) (by omega) (by omega)]
    dsimp only [qe_rI]
    rw [if_neg n10, if_neg n10, qm_in_nI hj (by omega), nI_clamp (by omega), cs_p hc hj, mt_placeOf hm.2.1 hj]
    exact ⟨_, rfl, rfl⟩
  · rw [nu_hasPlace0 h1, mt_in0 (a := 0) (b := 7) (n := 0) (k := 7) rfl rfl (by omega) (by omega) h2]
    exact ⟨_, rfl, rfl⟩
/-- what is reckoned -/
noncomputable def nw_reck (x y : Int64) (w : Nat) : Int64 := if w = 0 then x ^^^ y else if w = 1 then bn (nb_mul (nb x) (nb y)) else if w = 2 then bn (nb_mul (nb x) (nb_inv (nb y))) else if w = 3 then bn (nb_rt (nb x)) else bn (nb_pow (nb y).toNat (nb x))
theorem nI_tI {w k : Nat} (h : w < 2 ^ 31) : ((nI w).toInt = (k : Int)) ↔ w = k := by
  rw [nI_toInt h]
  omega
theorem nu_reckoned (x y : Int64) {w : Nat} (hw : w < 5) (m : qm_M) : F_T_reckoned x y (nI w) m = some (some (.long (nw_reck x y w)), m) := by
  unfold F_T_reckoned X_T_reckoned_e nw_reck
  have e0 : ((nI w).toInt = 0) ↔ w = 0 := nI_tI (w := w) (k := 0) (by omega)
  have e1 : ((nI w).toInt = 1) ↔ w = 1 := nI_tI (w := w) (k := 1) (by omega)
  have e2 : ((nI w).toInt = 2) ↔ w = 2 := nI_tI (w := w) (k := 2) (by omega)
  have e3 : ((nI w).toInt = 3) ↔ w = 3 := nI_tI (w := w) (k := 3) (by omega)
  by_cases q0 : w = 0
  · rw [if_pos (e0.mpr q0), if_pos q0]
  · rw [if_neg (fun z => q0 (e0.mp z)), if_neg q0]
    by_cases q1 : w = 1
    · rw [if_pos (e1.mpr q1), if_pos q1, nu_product]
      rfl
    · rw [if_neg (fun z => q1 (e1.mp z)), if_neg q1]
      by_cases q2 : w = 2
      · rw [if_pos (e2.mpr q2), if_pos q2, nu_inverted]
        dsimp only [qe_rL]
        rw [nu_product, nb_bn]
      · rw [if_neg (fun z => q2 (e2.mp z)), if_neg q2]
        by_cases q3 : w = 3
        · rw [if_pos (e3.mpr q3), if_pos q3, nu_rootOf]
          rfl
        · rw [if_neg (fun z => q3 (e3.mp z)), if_neg q3, nu_raisedTo]
          rfl
theorem mt_reckoned {m : qm_M} (hm : nt_ok 64 m) (x y : Int64) {w : Nat} (hw : w < 5) : F_M_reckoned x y (nI w) m = some (some (.long (nw_reck x y w)), m) := by
  unfold F_M_reckoned X_M_reckoned_e nw_reck
  have e0 : ((nI w).toInt = 0) ↔ w = 0 := nI_tI (w := w) (k := 0) (by omega)
  have e1 : ((nI w).toInt = 1) ↔ w = 1 := nI_tI (w := w) (k := 1) (by omega)
  have e2 : ((nI w).toInt = 2) ↔ w = 2 := nI_tI (w := w) (k := 2) (by omega)
  have e3 : ((nI w).toInt = 3) ↔ w = 3 := nI_tI (w := w) (k := 3) (by omega)
  by_cases q0 : w = 0
  · rw [if_pos (e0.mpr q0), if_pos q0]
  · rw [if_neg (fun z => q0 (e0.mp z)), if_neg q0]
    by_cases q1 : w = 1
    · rw [if_pos (e1.mpr q1), if_pos q1, mt_product hm]
      rfl
    · rw [if_neg (fun z => q1 (e1.mp z)), if_neg q1]
      by_cases q2 : w = 2
      · rw [if_pos (e2.mpr q2), if_pos q2, mt_inverseOf hm]
        dsimp only [qe_rL]
        rw [mt_product hm, nb_bn]
      · rw [if_neg (fun z => q2 (e2.mp z)), if_neg q2]
        by_cases q3 : w = 3
        · rw [if_pos (e3.mpr q3), if_pos q3, mt_rootOf hm]
          rfl
        · rw [if_neg (fun z => q3 (e3.mp z)), if_neg q3, mt_powerOf hm]
          rfl
theorem w_reckon91 {mc mm : qm_M} {s : sT} (hc : cs mc s) (hm : ms mm s) (g : gd s) {j w : Nat} (hj : j < 8) (hw : w < 5) (x y : Int64) : ∃ r s1 mc1 mm1, L_T_reckon_91 (nI j) (nI w) x y mc = some (some (.int r), mc1) ∧ L_M_reckon_99 (nI j) (nI w) y x mm = some (some (.int r), mm1) ∧ cs mc1 s1 ∧ ms mm1 s1 ∧ gd s1 ∧ hi_fr mc mc1 ∧ lo_fr mm mm1 := by
  obtain ⟨mc1, mm1, p1, q1, p2, q2, g2, p3, q3, -⟩ := act_place hc hm g hj (nw_reck x y w)
  unfold L_T_reckon_91 X_T_reckon_91 L_M_reckon_99 X_M_reckon_99
  have e : (7 : Int32) + nI j = nI (7 + j) := nI_add 7 j
  rw [p1, mt_reckoned hm.1.1 x y hw]
  dsimp only [qe_rV, qe_rL]
  rw [nu_reckoned x y hw, q1]
  dsimp only [qe_rV, qe_rL]
  rw [e, qm_in_nI (by omega) (by omega), qm_in_nI (by omega) (by omega), nI_clamp (by omega), nI_clamp (by omega)]
  exact ⟨1, _, _, _, rfl, rfl, p2, q2, g2, p3, q3⟩
theorem w_reckon42 {mc mm : qm_M} {s : sT} (hc : cs mc s) (hm : ms mm s) (g : gd s) {j i w : Nat} (hj : j < 8) (hi : i < 8) (hw : w < 5) (y : Int32) (hy : w = 3 ∨ ∃ k, k < 8 ∧ y = nI k) : ∃ r s1 mc1 mm1, L_T_reckon_42 (nI j) (nI i) y (nI w) mc = some (some (.int r), mc1) ∧ L_M_reckon_59 (nI j) (nI i) y (nI w) mm = some (some (.int r), mm1) ∧ cs mc1 s1 ∧ ms mm1 s1 ∧ gd s1 ∧ hi_fr mc mc1 ∧ lo_fr mm mm1 := by
  have e2 : (nI w = 2) ↔ w = 2 := nI_eq (a := w) (b := 2) (by omega) (by omega)
  have e3 : (nI w = 3) ↔ w = 3 := nI_eq (a := w) (b := 3) (by omega) (by omega)
  unfold L_T_reckon_42 X_T_reckon_42 L_M_reckon_59 X_M_reckon_59
  rw [qm_in_nI hi (by omega), nI_clamp (by omega), cs_p hc hi]
  dsimp only [qe_b, cond_true]
  by_cases q3 : w = 3
  · have q2 : ¬ w = 2 := by omega
    have n2 : ¬ nI w = 2 := fun z => q2 (e2.mp z)
    have key : ∀ s0 : Int64, L_T_reckon_73 (nI j) (nI w) (s.1 (7 + i)) s0 mc = L_T_reckon_91 (nI j) (nI w) (s.1 (7 + i)) s0 mc := fun s0 => by
      unfold L_T_reckon_73 X_T_reckon_73
      rw [if_neg n2]
    have kM : (if nI w = 2 then qe_rL (F_M_placeOf y mm) fun x1 m1 => if lg_cmp x1 0 = 0 then some (some (Value.int (-2)), m1) else L_M_reckon_78 (nI j) (nI i) y (nI w) m1 else L_M_reckon_78 (nI j) (nI i) y (nI w) mm) = L_M_reckon_99 (nI j) (nI w) 0 (s.1 (7 + i)) mm := by
      rw [if_neg n2]
      unfold L_M_reckon_78 X_M_reckon_78
      rw [mt_placeOf hm.2.1 hi]
      dsimp only [qe_rL]
      rw [if_pos (e3.mpr q3)]
    rw [kM]
    -- the class may read y; for a root it does not matter
    have red : ∀ s0 : Int64, nw_reck (s.1 (7 + i)) s0 w = nw_reck (s.1 (7 + i)) 0 w := fun s0 => by
      unfold nw_reck
      rw [if_neg (by omega), if_neg (by omega), if_neg (by omega), if_pos q3, if_neg (by omega), if_neg (by omega), if_neg (by omega), if_pos q3]
    have red2 : ∀ s0 : Int64, L_T_reckon_91 (nI j) (nI w) (s.1 (7 + i)) s0 mc = L_T_reckon_91 (nI j) (nI w) (s.1 (7 + i)) 0 mc := fun s0 => by
      unfold L_T_reckon_91 X_T_reckon_91
      obtain ⟨mc1, p1, -, -⟩ := nu_push hc g.2.1
      rw [p1]
      dsimp only [qe_rV]
      rw [nu_reckoned _ _ hw, nu_reckoned _ _ hw, red s0]
    rcases nw_lt y (N := 8) (by omega) (by omega) with ⟨k, hk, rfl⟩ | ⟨h1, h2⟩
    · rw [nu_hasPlace1 hk]
      dsimp only [qe_rI]
      rw [if_neg n10, qm_in_nI hk (by omega)]
      dsimp only [qe_b, cond_true]
      rw [key, red2]
      exact w_reckon91 hc hm g hj hw (s.1 (7 + i)) 0
    · rw [nu_hasPlace0 h1]
      dsimp only [qe_rI]
      rw [if_pos rfl, key]
      exact w_reckon91 hc hm g hj hw (s.1 (7 + i)) 0
  · obtain ⟨k, hk, rfl⟩ := hy.resolve_left q3
    have n3 : ¬ nI w = 3 := fun z => q3 (e3.mp z)
    rw [nu_hasPlace1 hk]
    dsimp only [qe_rI]
    rw [if_neg n10, qm_in_nI hk (by omega), nI_clamp (by omega), cs_p hc hk]
    dsimp only [qe_b, cond_true]
    have k78 : L_M_reckon_78 (nI j) (nI i) (nI k) (nI w) mm = L_M_reckon_99 (nI j) (nI w) (s.1 (7 + k)) (s.1 (7 + i)) mm := by
      unfold L_M_reckon_78 X_M_reckon_78
      rw [mt_placeOf hm.2.1 hi]
      dsimp only [qe_rL]
      rw [if_neg n3, mt_placeOf hm.2.1 hk]
    rw [k78]
    unfold L_T_reckon_73 X_T_reckon_73
    by_cases q2 : w = 2
    · rw [if_pos (e2.mpr q2), if_pos (e2.mpr q2), mt_placeOf hm.2.1 hk]
      dsimp only [qe_rL]
      by_cases qz : lg_cmp (s.1 (7 + k)) 0 = 0
      · rw [if_pos qz, if_pos qz]
        exact act2.no hc hm g rfl rfl
      · rw [if_neg qz, if_neg qz, k78]
        exact w_reckon91 hc hm g hj hw (s.1 (7 + i)) (s.1 (7 + k))
    · have n2 : ¬ nI w = 2 := fun z => q2 (e2.mp z)
      rw [if_neg n2, if_neg n2]
      exact w_reckon91 hc hm g hj hw (s.1 (7 + i)) (s.1 (7 + k))
theorem w_reckon (v x y w : Int32) : act2 (F_T_reckon v x y w) (F_M_reckon v x y w) := by
  intro mc mm s hc hm g
  unfold F_T_reckon X_T_reckon_e F_M_reckon X_M_reckon_e
  -- the class asks how, place, x, y; the model place, x, how, y
  rcases nw_lt w (N := 5) (by omega) (by omega) with ⟨k, hk, rfl⟩ | ⟨w1, w2⟩
  · have ew0 : ¬ nI k < 0 := nI_pos (by omega)
    have ew4 : ¬ (4 : Int32) < nI k := nI_nlt (a := 4) (b := k) (by omega) (by omega)
    have iw := mt_in1 (v := nI k) (j := k) (a := 0) (b := 4) (n := 0) (k := 4) rfl rfl rfl (by omega) (by omega) (by omega) mm
    rw [if_neg ew0, if_neg ew4]
    rcases nw_lt v (N := 8) (by omega) (by omega) with ⟨j, hj, rfl⟩ | ⟨v1, v2⟩
    · rw [nu_hasPlace1 hj, mt_in1 (j := j) (a := 0) (b := 7) (n := 0) (k := 7) rfl rfl rfl (by omega) (by omega) (by omega)]
      dsimp only [qe_rI]
      rw [if_neg n10, if_neg n10]
      rcases nw_lt x (N := 8) (by omega) (by omega) with ⟨i, hi, rfl⟩ | ⟨x1, x2⟩
      · rw [nu_hasPlace1 hi, mt_in1 (j := i) (a := 0) (b := 7) (n := 0) (k := 7) rfl rfl rfl (by omega) (by omega) (by omega)]
        dsimp only [qe_rI]
        rw [if_neg n10, if_neg n10, iw]
        dsimp only [qe_rI]
        rw [if_neg n10]
        have e3 : (nI k = 3) ↔ k = 3 := nI_eq (a := k) (b := 3) (by omega) (by omega)
        by_cases q3 : k = 3
        · rw [if_pos (e3.mpr q3), if_pos (e3.mpr q3)]
          exact w_reckon42 hc hm g hj hi hk y (Or.inl q3)
        · rw [if_neg (fun z => q3 (e3.mp z)), if_neg (fun z => q3 (e3.mp z))]
          rcases nw_lt y (N := 8) (by omega) (by omega) with ⟨l, hl, rfl⟩ | ⟨y1, y2⟩
          · rw [nu_hasPlace1 hl, mt_in1 (j := l) (a := 0) (b := 7) (n := 0) (k := 7) rfl rfl rfl (by omega) (by omega) (by omega)]
            dsimp only [qe_rI]
            rw [if_neg n10, if_neg n10]
            exact w_reckon42 hc hm g hj hi hk (nI l) (Or.inr ⟨l, hl, rfl⟩)
          · rw [nu_hasPlace0 y1, mt_in0 (a := 0) (b := 7) (n := 0) (k := 7) rfl rfl (by omega) (by omega) y2]
            exact act2.no hc hm g rfl rfl
      · rw [nu_hasPlace0 x1, mt_in0 (a := 0) (b := 7) (n := 0) (k := 7) rfl rfl (by omega) (by omega) x2]
        exact act2.no hc hm g rfl rfl
    · rw [nu_hasPlace0 v1, mt_in0 (a := 0) (b := 7) (n := 0) (k := 7) rfl rfl (by omega) (by omega) v2]
      exact act2.no hc hm g rfl rfl
  · -- how is none: both NONE, wherever the model finds it
    have hT : (if w < 0 then some (some (Value.int (-1)), mc) else if (4 : Int32) < w then some (some (Value.int (-1)), mc) else
        qe_rI (F_Ps_hasPlace v mc) fun x1 m1 => if x1 = 0 then some (some (Value.int (-1)), m1) else qe_rI (F_Ps_hasPlace x m1) fun x2 m2 => if x2 = 0 then some (some (Value.int (-1)), m2) else
        if w = 3 then L_T_reckon_42 v x y w m2 else qe_rI (F_Ps_hasPlace y m2) fun x3 m3 => if x3 = 0 then some (some (Value.int (-1)), m3) else L_T_reckon_42 v x y w m3) = some (some (.int (-1)), mc) := by
      by_cases q : w < 0
      · rw [if_pos q]
      · have q4 : (4 : Int32) < w := w2.resolve_left q
        rw [if_neg q, if_pos q4]
    rw [hT]
    have iw := mt_in0 (v := w) (a := 0) (b := 4) (n := 0) (k := 4) rfl rfl (by omega) (by omega) w2 mm
    rcases nw_lt v (N := 8) (by omega) (by omega) with ⟨j, hj, rfl⟩ | ⟨v1, v2⟩
    · rw [mt_in1 (j := j) (a := 0) (b := 7) (n := 0) (k := 7) rfl rfl rfl (by omega) (by omega) (by omega)]
      dsimp only [qe_rI]
      rw [if_neg n10]
      rcases nw_lt x (N := 8) (by omega) (by omega) with ⟨i, hi, rfl⟩ | ⟨x1, x2⟩
      · rw [mt_in1 (j := i) (a := 0) (b := 7) (n := 0) (k := 7) rfl rfl rfl (by omega) (by omega) (by omega)]
        dsimp only [qe_rI]
        rw [if_neg n10, iw]
        exact act2.no hc hm g rfl rfl
      · rw [mt_in0 (a := 0) (b := 7) (n := 0) (k := 7) rfl rfl (by omega) (by omega) x2]
        exact act2.no hc hm g rfl rfl
    · rw [mt_in0 (a := 0) (b := 7) (n := 0) (k := 7) rfl rfl (by omega) (by omega) v2]
      exact act2.no hc hm g rfl rfl
