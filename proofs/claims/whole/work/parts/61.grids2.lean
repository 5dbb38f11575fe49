/-! calls on both sides: what grids say -/
/-- a reading of both: one answer, only scratch of the class's steps -/
def rd2 (FT FM : qm_M → Option qm_R) : Prop := ∀ mc mm s, cs mc s → ms mm s → gd s → ∃ r mc1 mm1, FT mc = some (some r, mc1) ∧ FM mm = some (some r, mm1) ∧ cF mc mc1 ∧ ms mm1 s ∧ lo_fr mm mm1
theorem cF.cs {m m1 : qm_M} {s : sT} (g : cF m m1) (h : cs m s) : cs m1 s := h.fr (fun a _ => g.1 a (by omega) (by omega)) (fun a _ => g.2 a (by omega) (by omega))
theorem rd2.no {mc mm : qm_M} {s : sT} (hm : ms mm s) {A B : Option qm_R} {r : Value} (h1 : A = some (some r, mc)) (h2 : B = some (some r, mm)) : ∃ r mc1 mm1, A = some (some r, mc1) ∧ B = some (some r, mm1) ∧ cF mc mc1 ∧ ms mm1 s ∧ lo_fr mm mm1 := ⟨r, mc, mm, h1, h2, cF.rf mc, hm, lo_fr.rf mm⟩
/-- first ones rise -/
theorem gs_lead (R : Nat) (A : gA) : ∀ n, (gs_run R A n).2.1 ≤ n ∧ ∀ i, i < (gs_run R A n).2.1 → (gs_run R A n).2.2.2 i < n ∧ ∀ j, j < i → (gs_run R A n).2.2.2 j < (gs_run R A n).2.2.2 i
  | 0 => ⟨Nat.le_refl 0, fun i hi => absurd hi (Nat.not_lt_zero _)⟩
  | n + 1 => by
    obtain ⟨i0, ih⟩ := gs_lead R A n
    rw [gs_run_s]
    unfold gs_col
    generalize gs_run R A n = t at i0 ih ⊢
    split
    · refine ⟨by show t.2.1 + 1 ≤ n + 1; omega, fun i hi => ?_⟩
      have hi' : i < t.2.1 + 1 := hi
      show (if i = t.2.1 then n else t.2.2.2 i) < n + 1 ∧ ∀ j, j < i → (if j = t.2.1 then n else t.2.2.2 j) < (if i = t.2.1 then n else t.2.2.2 i)
      by_cases e : i = t.2.1
      · rw [if_pos e]
        refine ⟨by omega, fun j hj => ?_⟩
        rw [if_neg (by omega)]
        exact (ih j (by omega)).1
      · rw [if_neg e]
        refine ⟨by have := (ih i (by omega)).1; omega, fun j hj => ?_⟩
        rw [if_neg (by omega)]
        exact (ih i (by omega)).2 j hj
    · exact ⟨by omega, fun i hi => ⟨by have := (ih i hi).1; omega, (ih i hi).2⟩⟩
theorem nu_cellAt {m : qm_M} {R : Nat} {A : gA} (h : cM m R A) (hR : R ≤ 4) {r c : Nat} (hr : r < R) (hc : c < 8) : F_St_cellAt (nI r) (nI c) m = some (some (.long (bn (A r c))), m) := by
  unfold F_St_cellAt X_St_cellAt_e
  have e1 : nI r < (4 : Int32) := nI_lt (a := r) (b := 4) (by omega) (by omega)
  have e2 : nI c < (8 : Int32) := nI_lt (a := c) (b := 8) (by omega) (by omega)
  rw [if_neg (nI_pos (by omega)), if_pos e1, if_neg (nI_pos (by omega)), if_pos e2, nI_8, qm_in_nI (by omega) (by omega), nI_clamp (by omega), qe_b_e, h r c hr hc]
theorem nu_hasLead {m : qm_M} {R : Nat} {t : gT} (h : cMS m R t) (hr : t.2.1 ≤ 4) (v : Int32) (d : Nat) : ∀ (f i : Nat), t.2.1 - i = d → i ≤ t.2.1 → d < f → ((∃ j, i ≤ j ∧ j < t.2.1 ∧ nI (t.2.2.2 j) = v) → L_St_hasLead_2 f v (nI i) m = some (some (.int 1), m)) ∧ ((∀ j, i ≤ j → j < t.2.1 → ¬ nI (t.2.2.2 j) = v) → L_St_hasLead_2 f v (nI i) m = some (some (.int 0), m)) := by
  obtain ⟨hA, h67, hv, h69⟩ := h
  induction d with
  | zero =>
    intro f i h1 h2 h3
    obtain ⟨f, rfl⟩ : ∃ g, f = g + 1 := ⟨f - 1, by omega⟩
    refine ⟨fun ⟨j, a, b, _⟩ => by omega, fun _ => ?_⟩
    show X_St_hasLead_2 _ _ _ _ = _
    unfold X_St_hasLead_2
    rw [h67, if_neg (nI_nlt (by omega) (by omega))]
  | succ d ih =>
    intro f i h1 h2 h3
    obtain ⟨f, rfl⟩ : ∃ g, f = g + 1 := ⟨f - 1, by omega⟩
    have hi : i < t.2.1 := by omega
    obtain ⟨i1, i2⟩ := ih f (i + 1) (by omega) (by omega) (by omega)
    have st : L_St_hasLead_2 (f + 1) v (nI i) m = if nI (t.2.2.2 i) = v then some (some (.int 1), m) else L_St_hasLead_2 f v (nI (i + 1)) m := by
      show X_St_hasLead_2 _ _ _ _ = _
      unfold X_St_hasLead_2
      rw [h67, if_pos (nI_lt hi (by omega)), qm_in_nI (by omega) (by omega), nI_clamp (by omega), qe_b_e, h69 i hi, nI_1]
    rw [st]
    refine ⟨fun ⟨j, a, b, c⟩ => ?_, fun q => ?_⟩
    · by_cases z : nI (t.2.2.2 i) = v
      · rw [if_pos z]
      · rw [if_neg z]
        refine i1 ⟨j, ?_, b, c⟩
        by_cases y : j = i
        · rw [y] at c; exact absurd c z
        · omega
    · rw [if_neg (q i (Nat.le_refl _) hi)]
      exact i2 (fun j a b => q j (by omega) b)
theorem nu_besideLead {m : qm_M} {R : Nat} {t : gT} (h : cMS m R t) (hR : R ≤ 4) (hr : t.2.1 ≤ R) (v : Int32) {c : Nat} (hc : c < 8) (d : Nat) : ∀ (f i : Nat), t.2.1 - i = d → i ≤ t.2.1 → d < f → (∀ j, i ≤ j → j < t.2.1 → nI (t.2.2.2 j) = v → (∀ k, i ≤ k → k < j → ¬ nI (t.2.2.2 k) = v) → L_St_besideLead_2 f v (nI c) (nI i) m = some (some (.long (bn (t.1 j c))), m)) ∧ ((∀ j, i ≤ j → j < t.2.1 → ¬ nI (t.2.2.2 j) = v) → L_St_besideLead_2 f v (nI c) (nI i) m = some (some (.long 0), m)) := by
  obtain ⟨hA, h67, hv, h69⟩ := h
  induction d with
  | zero =>
    intro f i h1 h2 h3
    obtain ⟨f, rfl⟩ : ∃ g, f = g + 1 := ⟨f - 1, by omega⟩
    refine ⟨fun j a b => by omega, fun _ => ?_⟩
    show X_St_besideLead_2 _ _ _ _ _ _ = _
    unfold X_St_besideLead_2
    rw [h67, if_neg (nI_nlt (by omega) (by omega))]
  | succ d ih =>
    intro f i h1 h2 h3
    obtain ⟨f, rfl⟩ : ∃ g, f = g + 1 := ⟨f - 1, by omega⟩
    have hi : i < t.2.1 := by omega
    obtain ⟨i1, i2⟩ := ih f (i + 1) (by omega) (by omega) (by omega)
    have st : L_St_besideLead_2 (f + 1) v (nI c) (nI i) m = if nI (t.2.2.2 i) = v then some (some (.long (bn (t.1 i c))), m) else L_St_besideLead_2 f v (nI c) (nI (i + 1)) m := by
      show X_St_besideLead_2 _ _ _ _ _ _ = _
      unfold X_St_besideLead_2
      rw [h67, if_pos (nI_lt hi (by omega)), qm_in_nI (by omega) (by omega), nI_clamp (by omega), qe_b_e, h69 i hi, nu_cellAt hA hR (by omega) hc, qe_rL_e, nI_1]
    rw [st]
    refine ⟨fun j a b e k => ?_, fun q => ?_⟩
    · by_cases y : j = i
      · rw [← y, if_pos e]
      · rw [if_neg (k i (Nat.le_refl _) (by omega))]
        exact i1 j (by omega) b e (fun k2 a2 b2 => k k2 (by omega) b2)
    · rw [if_neg (q i (Nat.le_refl _) hi)]
      exact i2 (fun j a b => q j (by omega) b)
theorem w_determinant : rd2 F_T_determinant F_M_determinant := by
  intro mc mm s hc hm g
  obtain ⟨r0, c0, k1, k2, l1, l2, R, C, h1, h2, h3⟩ := id g.1
  have e0 := h2.2.2.2.2.2.2.1
  have e1 := h2.2.2.2.2.2.2.2
  unfold F_T_determinant X_T_determinant_e F_M_determinant X_M_determinant_e
  have f0 : mc.1 1 8 = nI R := cs_g hc (k := 0) (by omega) e0
  have f1 : mc.1 1 9 = nI C := cs_g hc (k := 1) (by omega) e1
  have hE : (lg_cmp (mm.2 113 15) (mm.2 113 16) = 0) ↔ R = C := by
    rw [hm.2.1 15 (by omega), hm.2.1 16 (by omega), e0, e1, lN_cmpE (by omega) (by omega)]
  have hE2 : (nI R = nI C) ↔ R = C := nI_eq (by omega) (by omega)
  rw [f0, f1]
  by_cases q : R = C
  · obtain ⟨mc1, a1, a2, a3⟩ := nu_reduceGrid hc e0 e1 (by omega) (by omega)
    obtain ⟨mm1, b1, b2, b3, b4, b5⟩ := mt_laysStepForm hm e0 e1 (by omega) (by omega)
    have hle := gs_run_le (R := R) (A := gG s.1 R C) C
    have f2 : mc1.1 1 8 = nI R := by rw [a3.1 1 (by omega) (by omega)]; exact f0
    rw [if_pos (hE2.mpr q), if_pos (hE.mpr q), a1, qe_rV_e, b1, qe_rV_e, a2.2.1, f2, b2.2.1, b2.2.2.1, a2.2.2.1, b2.2.2.2.1]
    by_cases y : (gs_run R (gG s.1 R C) C).2.1 < R
    · rw [if_pos (nI_lt y (by omega)), if_neg (fun z => by have := (nI_eq (by omega) (by omega)).mp z; omega)]
      exact ⟨_, _, _, rfl, rfl, a3, b4, b5⟩
    · rw [if_neg (nI_nlt (by omega) (by omega)), if_pos (by rw [show (gs_run R (gG s.1 R C) C).2.1 = R by omega])]
      exact ⟨_, _, _, rfl, rfl, a3, b4, b5⟩
  · rw [if_neg (fun z => q (hE2.mp z)), if_neg (fun z => q (hE.mp z))]
    exact rd2.no hm rfl rfl
theorem w_entry (v w x : Int32) : rd2 (F_T_entry v w x) (F_M_entry v w x) := by
  intro mc mm s hc hm g
  obtain ⟨r0, c0, k1, k2, l1, l2, R, C, h1, h2, h3⟩ := id g.1
  have e0 := h2.2.2.2.2.2.2.1
  have e1 := h2.2.2.2.2.2.2.2
  unfold F_T_entry X_T_entry_e F_M_entry X_M_entry_e
  rcases nu_hasEntry hc e0 e1 (by omega) (by omega) v w with ⟨i, j, hi, hj, rfl, rfl, e⟩ | ⟨e, q⟩
  · rw [e, qe_rI_e, if_neg n10, mt_isEntry1 hm.2.1 e0 e1 (by omega) (by omega) hi hj, qe_rI_e, if_neg n10]
    rcases nw_lt x (N := 2) (by omega) (by omega) with ⟨k, hk, rfl⟩ | ⟨x1, x2⟩
    · have nk : ¬ (1 : Int32) < nI k := nI_nlt (a := 1) (b := k) (by omega) (by omega)
      have ek : (nI k = 0) ↔ k = 0 := nI_eq (a := k) (b := 0) (by omega) (by omega)
      rw [if_neg (nI_pos (by omega)), if_neg nk, mt_in1 (j := k) (a := 0) (b := 1) (n := 0) (k := 1) rfl rfl rfl (by omega) (by omega) (by omega), qe_rI_e, if_neg n10]
      by_cases q : k = 0
      · rw [if_pos (ek.mpr q), if_pos (ek.mpr q), nu_entryAt1 hc (by omega) (by omega) e, mt_entryOf hm.2.1 (by omega) (by omega)]
        exact rd2.no hm rfl rfl
      · obtain ⟨mc1, a1, a2, a3⟩ := nu_reduceGrid hc e0 e1 (by omega) (by omega)
        obtain ⟨mm1, b1, b2, b3, b4, b5⟩ := mt_laysStepForm hm e0 e1 (by omega) (by omega)
        rw [if_neg (fun z => q (ek.mp z)), if_neg (fun z => q (ek.mp z)), a1, qe_rV_e, nu_cellAt a2.1 (by omega) hi (by omega), qe_rL_e, b1, qe_rV_e, mt_cellAt, qe_rI_e, qm_in_nI (by omega) (by omega), nI_clamp (by omega), qe_b_e, b2.1 i j hi (by omega)]
        exact ⟨_, _, _, rfl, rfl, a3, b4, b5⟩
    · have hT : ∀ A : Option qm_R, (if x < 0 then some (some (Value.long 0), mc) else if 1 < x then some (some (Value.long 0), mc) else A) = some (some (.long 0), mc) := fun A => by
        by_cases q : x < 0
        · rw [if_pos q]
        · have q2 : (1 : Int32) < x := x2.resolve_left q
          rw [if_neg q, if_pos q2]
      rw [hT, mt_in0 (a := 0) (b := 1) (n := 0) (k := 1) rfl rfl (by omega) (by omega) x2]
      exact rd2.no hm rfl rfl
  · rw [e, mt_isEntry0 hm.2.1 e0 e1 (by omega) (by omega) q]
    exact rd2.no hm rfl rfl
