/-! the model finds; moves, move, play, answer, as both answer -/
theorem le_M_findsOf_31 (K5 : Int32 → Int32 → Int32 → Int32 → Int32 → qm_M → Option qm_R) (n : Nat) (v1 : Int32) (v2 : Int32) (v3 : Int32) (v4 : Int32) (v5 : Int32) (v6 : Int32) (m : qm_M) : L_M_findsOf_31 K5 (n + 1) v1 v2 v3 v4 v5 v6 m = X_M_findsOf_31 F_M_maySet F_M_cellsOf F_M_worthOfAll K5 (L_M_findsOf_31 K5 n) (L_M_findsOf_85 K5 (L_M_findsOf_31 K5 n)) v1 v2 v3 v4 v5 v6 m := rfl
theorem le_M_findsOf_5  (n : Nat) (v1 : Int32) (v2 : Int32) (v3 : Int32) (v4 : Int32) (v5 : Int32) (m : qm_M) : L_M_findsOf_5 (n + 1) v1 v2 v3 v4 v5 m = X_M_findsOf_5 F_M_maySet F_M_cellsOf F_M_worthOfAll (L_M_findsOf_5 n) (L_M_findsOf_31 (L_M_findsOf_5 n) 1000000) v1 v2 v3 v4 v5 m := rfl
theorem le_M_finds_23 (K11 : Int32 → Int32 → Int32 → qm_M → Option qm_R) (n : Nat) (v1 : Int32) (v2 : Int32) (v3 : Int32) (v4 : Int32) (m : qm_M) : L_M_finds_23 K11 (n + 1) v1 v2 v3 v4 m = X_M_finds_23 F_M_laysCells F_M_manyOf F_M_place_III F_M_has F_M_findsOf K11 (L_M_finds_23 K11 n) v1 v2 v3 v4 m := rfl
theorem le_M_finds_11  (n : Nat) (v1 : Int32) (v2 : Int32) (v3 : Int32) (m : qm_M) : L_M_finds_11 (n + 1) v1 v2 v3 m = X_M_finds_11 F_M_laysCells F_M_manyOf F_M_place_III F_M_has F_M_findsOf (L_M_finds_23 (L_M_finds_11 n) 1000000) v1 v2 v3 m := rfl
theorem le_Pl_greatestOf_4  (n : Nat) (v0 : Int32) (v1 : Int32) (v2 : Int32) (m : qm_M) : L_Pl_greatestOf_4 (n + 1) v0 v1 v2 m = X_Pl_greatestOf_4 (L_Pl_greatestOf_4 n) v0 v1 v2 m := rfl
theorem iB_eq (x y : nb_F) : (iB (x ^^^ y) = 0) ↔ iB y = iB x := by
  rw [← iB_x]
  constructor
  · intro h
    have e : iB x ^^^ iB y ^^^ iB y = 0 ^^^ iB y := by rw [h]
    rw [Int32.xor_assoc, Int32.xor_self, Int32.xor_zero, Int32.zero_xor] at e
    exact e.symm
  · intro h
    rw [h, Int32.xor_self]
theorem xs_ltB {b : Nat} (hb : b ≤ 64) {f : Nat → nb_F} : ∀ n, (∀ i, i < n → (f i).toNat < 2 ^ b) → (xs n f).toNat < 2 ^ b
  | 0, _ => Nat.two_pow_pos b
  | n + 1, h => by
    rw [xs_s, BitVec.toNat_xor]
    exact Nat.xor_lt_two_pow (xs_ltB hb n (fun i hi => h i (by omega))) (h n (by omega))
theorem cf_lt {K L : Nat → Nat} {i : Nat} (hi : i < 36) : (cf K L i).toNat < 256 := by
  unfold cf
  have a1 := @cw_6 (K 0) (L 0) (i / 6) (by omega)
  have b1 := @cw_6 (K 1) (L 1) (i % 6) (by omega)
  have m2 := tb_mul (show cw (K 0) (L 0) (i / 6) < 64 by omega) (show cw (K 1) (L 1) (i % 6) < 64 by omega)
  rw [ef_p2 K L (by omega) (by omega), m2.1, bN_toNat (by omega)]
  exact m2.2
theorem hs_ltB (K L : Nat → Nat) (x : nb_F) : (hs (cf K L) x 36).toNat < 256 := by
  unfold hs
  refine xs_ltB (b := 8) (by omega) 36 (fun i hi => ?_)
  by_cases q : x.getLsbD i = true
  · rw [if_pos q]
    exact cf_lt hi
  · rw [if_neg q]
    decide
theorem tW_m1 (s : sT) : ¬ iB (tW s) = -1 := by
  unfold iB tW
  have := hs_ltB (bK s.1) (bL s.1) (nb (s.1 6))
  exact nI_m1 (by omega)
def ffr (m m1 : qm_M) : Prop := (∀ a, a ≠ 112 → a ≠ 133 → a ≠ 134 → a ≠ 135 → a ≠ 136 → m1.1 a = m.1 a) ∧ (∀ j, j < 36 ∨ 39 < j → m1.1 112 j = m.1 112 j) ∧ m1.2 = m.2
theorem ffr.rf (m : qm_M) : ffr m m := ⟨fun _ _ _ _ _ _ => rfl, fun _ _ => rfl, rfl⟩
theorem ffr.tr {m m1 m2 : qm_M} (h : ffr m m1) (g : ffr m1 m2) : ffr m m2 := ⟨fun a x y z w v => (g.1 a x y z w v).trans (h.1 a x y z w v), fun a x => (g.2.1 a x).trans (h.2.1 a x), g.2.2.trans h.2.2⟩
theorem lcf.ffr {m m1 : qm_M} (g : lcf m m1) : ffr m m1 := ⟨fun a _ x y z w => g.1 a x y z w, fun _ _ => by rw [g.1 112 (by decide) (by decide) (by decide) (by decide)], g.2⟩
theorem ffr.now {m m1 : qm_M} {P : sP} (g : ffr m m1) (h : ms_now m P) : ms_now m1 P := fun i hi => by rw [g.2.2]; exact h i hi
theorem ffr.ms {m m1 : qm_M} {s : sT} (g : ffr m m1) (h : ms m s) : ms m1 s := h.fr (g.2.1 2 (by omega)) (g.2.1 24 (by omega)) (g.1 116 (by decide) (by decide) (by decide) (by decide) (by decide)) (g.1 129 (by decide) (by decide) (by decide) (by decide) (by decide)) (fun a _ _ => by rw [g.2.2])
theorem ffr.lo {m m1 : qm_M} (g : ffr m m1) : lo_fr m m1 := ⟨fun a h => g.1 a (by omega) (by omega) (by omega) (by omega) (by omega), fun a _ => by rw [g.2.2]⟩
def kfr (m m1 : qm_M) : Prop := (∀ a, a ≠ 112 → m1.1 a = m.1 a) ∧ (∀ j, j < 36 ∨ 39 < j → m1.1 112 j = m.1 112 j) ∧ m1.2 = m.2
theorem kfr.rf (m : qm_M) : kfr m m := ⟨fun _ _ => rfl, fun _ _ => rfl, rfl⟩
theorem kfr.tr {m m1 m2 : qm_M} (h : kfr m m1) (g : kfr m1 m2) : kfr m m2 := ⟨fun a x => (g.1 a x).trans (h.1 a x), fun a x => (g.2.1 a x).trans (h.2.1 a x), g.2.2.trans h.2.2⟩
theorem kfr.I (m : qm_M) {j : Nat} (hj : 36 ≤ j ∧ j ≤ 39) (x : Int32) : kfr m (qm_sI m 112 j x) := ⟨fun a h => (qm_sI_other a h).1, fun i hi => me_oth _ _ _ _ (Or.inr (by omega)), rfl⟩
theorem kfr.ffr {m m1 : qm_M} (g : kfr m m1) : ffr m m1 := ⟨fun a x _ _ _ _ => g.1 a x, g.2.1, g.2.2⟩
def mIn (m0 : qm_M) (p : Nat) (m : qm_M) : Prop := kfr m0 m ∧ m.1 112 39 = nI p
def mFo (s : sT) (m0 : qm_M) (a : Nat × Nat) (r : Option qm_R) : Prop := ∃ m', r = some (some (.int 1), m') ∧ m'.1 112 36 = nI a.1 ∧ m'.1 112 37 = nI a.2 ∧ m'.1 112 38 = iB (tW s ^^^ ef (bK s.1) (bL s.1) a.1 a.2) ∧ kfr m0 m'
theorem mt_find31 {m0 : qm_M} {s : sT} (h : ms_now m0 s.1) (g : px_ok s.1) (hcl : clM m0 (bK s.1) (bL s.1)) (K5 : Int32 → Int32 → Int32 → Int32 → Int32 → qm_M → Option qm_R) (v1 w k : Int32) {R c p0 : Nat} (hR : R < 64) (hc : c < 6) {m : qm_M} (h0 : mIn m0 p0 m) :
    (∃ p' m', wk (fun p => decide (nI p = k)) (rg (mvC (bK s.1) (bL s.1) (eW s w) R c) (2 ^ c)) p0 = .inr p' ∧ mIn m0 p' m' ∧ L_M_findsOf_31 K5 1000000 v1 (nI c) w k (nI R) (nI (2 ^ c)) m = K5 v1 (nI c) w k (nI R + 1) m') ∨ (∃ a, wk (fun p => decide (nI p = k)) (rg (mvC (bK s.1) (bL s.1) (eW s w) R c) (2 ^ c)) p0 = .inl a ∧ mFo s m0 a (L_M_findsOf_31 K5 1000000 v1 (nI c) w k (nI R) (nI (2 ^ c)) m)) := by
  have h32 := pow_6 hc
  have hp0 := Nat.two_pow_pos c
  obtain ⟨hp, -, -⟩ := g.prl
  obtain ⟨s1, s2, s3, s4⟩ := hp 1 (by omega)
  refine wkE (fun F U m => L_M_findsOf_31 K5 F v1 (nI c) w k (nI R) (nI (2 ^ c + U)) m) (2 ^ c) (mvC (bK s.1) (bL s.1) (eW s w) R c) (fun p => decide (nI p = k)) p0 (mIn m0) (mFo s m0) (fun m' => K5 v1 (nI c) w k (nI R + 1) m') (fun F U p m hU hI => ?_) (fun F p m hI => ?_) 1000000 m (by omega) h0
  · obtain ⟨gf, h39⟩ := hI
    have hn : ms_now m s.1 := gf.ffr.now h
    have a2 := mt_maySet (m := m) (v := 1) hn (by omega) s1 s2 s3 s4 (show 0 < 2 ^ c + U by omega) (by omega)
    have a2' : F_M_maySet (1 : Int32) (nI (2 ^ c + U)) m = _ := a2
    have el : nI (2 ^ c + U) < qo_ishl (2 : Int32) (nI c) := by rw [ishl2 (by omega)]; exact nI_lt (by omega) (by omega)
    have ea : nI (2 ^ c + U) + 1 = nI (2 ^ c + (U + 1)) := nI_add _ 1
    have hw := mt_worthOfAll (m := m) (f := cf (bK s.1) (bL s.1)) (fun i hi => by rw [gf.1 136 (by decide)]; exact hcl i hi) (s.1 6 ^^^ bn (sC R (2 ^ c + U) 6))
    have ex : nb (s.1 6 ^^^ bn (sC R (2 ^ c + U) 6)) = nb (s.1 6) ^^^ sC R (2 ^ c + U) 6 := rfl
    have ew : hs (cf (bK s.1) (bL s.1)) (nb (s.1 6 ^^^ bn (sC R (2 ^ c + U) 6))) 36 = tW s ^^^ ef (bK s.1) (bL s.1) R (2 ^ c + U) := by
      rw [ex, hs_x, hs_move _ _ (by omega)]
      rfl
    rw [ew] at hw
    have hx : (fit (bK s.1) (bL s.1) (eW s w) R (2 ^ c + U) && al (bK s.1 1) (bL s.1 1) (2 ^ c + U)) = true ↔ (w = 0 ∨ iB (tW s ^^^ ef (bK s.1) (bL s.1) R (2 ^ c + U)) = 0) ∧ al (bK s.1 1) (bL s.1 1) (2 ^ c + U) = true := by
      rw [Bool.and_eq_true]
      unfold fit eW
      rw [decide_eq_true_iff, iB_eq]
      by_cases z : w = 0
      · rw [if_pos z]
        exact ⟨fun y => ⟨Or.inl z, y.2⟩, fun y => ⟨Or.inl rfl, y.2⟩⟩
      · rw [if_neg z]
        exact ⟨fun y => ⟨Or.inr (y.1.resolve_left (tW_m1 s)), y.2⟩, fun y => ⟨Or.inr (y.1.resolve_left z), y.2⟩⟩
    have l85 : L_M_findsOf_85 K5 (L_M_findsOf_31 K5 F) v1 (nI c) w k (nI R) (nI (2 ^ c + U)) (iB (tW s ^^^ ef (bK s.1) (bL s.1) R (2 ^ c + U))) m = if nI p = k then some (some (.int 1), qm_sI (qm_sI (qm_sI m 112 36 (nI R)) 112 37 (nI (2 ^ c + U))) 112 38 (iB (tW s ^^^ ef (bK s.1) (bL s.1) R (2 ^ c + U)))) else L_M_findsOf_31 K5 F v1 (nI c) w k (nI R) (nI (2 ^ c + (U + 1))) (qm_sI (qm_sI (qm_sI (qm_sI m 112 36 (nI R)) 112 37 (nI (2 ^ c + U))) 112 38 (iB (tW s ^^^ ef (bK s.1) (bL s.1) R (2 ^ c + U)))) 112 39 (nI (p + 1))) := by
      unfold L_M_findsOf_85 X_M_findsOf_85
      dsimp only
      have e39 : (qm_sI (qm_sI (qm_sI m 112 36 (nI R)) 112 37 (nI (2 ^ c + U))) 112 38 (iB (tW s ^^^ ef (bK s.1) (bL s.1) R (2 ^ c + U)))).1 112 39 = nI p := by
        rw [me_oth _ _ _ _ (Or.inr (by decide)), me_oth _ _ _ _ (Or.inr (by decide)), me_oth _ _ _ _ (Or.inr (by decide))]
        exact h39
      rw [e39, ea, nI_1]
    have hL : L_M_findsOf_31 K5 (F + 1) v1 (nI c) w k (nI R) (nI (2 ^ c + U)) m = if (fit (bK s.1) (bL s.1) (eW s w) R (2 ^ c + U) && al (bK s.1 1) (bL s.1 1) (2 ^ c + U)) = true then L_M_findsOf_85 K5 (L_M_findsOf_31 K5 F) v1 (nI c) w k (nI R) (nI (2 ^ c + U)) (iB (tW s ^^^ ef (bK s.1) (bL s.1) R (2 ^ c + U))) m else L_M_findsOf_31 K5 F v1 (nI c) w k (nI R) (nI (2 ^ c + (U + 1))) m := by
      rw [le_M_findsOf_31]
      unfold X_M_findsOf_31
      rw [if_pos el, a2', qe_rI_e, ea]
      by_cases z : al (bK s.1 1) (bL s.1 1) (2 ^ c + U) = true
      · rw [if_pos z, if_neg n10, mt_cellsOf hR (by omega), qe_rL_e, hn 6 (by omega), hw, qe_rI_e]
        by_cases y : w = 0
        · rw [if_pos y, if_pos (hx.mpr ⟨Or.inl y, z⟩)]
        · rw [if_neg y]
          by_cases x : iB (tW s ^^^ ef (bK s.1) (bL s.1) R (2 ^ c + U)) = 0
          · rw [if_pos x, if_pos (hx.mpr ⟨Or.inr x, z⟩)]
          · rw [if_neg x, if_neg (fun u => (hx.mp u).1.elim y x)]
      · rw [if_neg z, if_pos rfl, if_neg (fun u => z (hx.mp u).2)]
    rw [hL, l85]
    unfold mvC
    by_cases z : (fit (bK s.1) (bL s.1) (eW s w) R (2 ^ c + U) && al (bK s.1 1) (bL s.1 1) (2 ^ c + U)) = true
    · rw [if_pos z, if_pos z, wk_c]
      have gq := gf.tr ((kfr.I m (j := 36) (by omega) (nI R)).tr ((kfr.I _ (j := 37) (by omega) (nI (2 ^ c + U))).tr (kfr.I _ (j := 38) (by omega) (iB (tW s ^^^ ef (bK s.1) (bL s.1) R (2 ^ c + U))))))
      by_cases y : nI p = k
      · rw [if_pos (decide_eq_true y), if_pos y]
        refine Or.inr ⟨_, rfl, _, rfl, ?_, ?_, me_self _ _ _ _, gq⟩
        · rw [me_oth _ _ _ _ (Or.inr (by decide)), me_oth _ _ _ _ (Or.inr (by decide)), me_self]
        · rw [me_oth _ _ _ _ (Or.inr (by decide)), me_self]
      · rw [if_neg (show ¬ decide (nI p = k) = true by rw [decide_eq_true_iff]; exact y), if_neg y, wk_n]
        exact Or.inl ⟨p + 1, _, rfl, ⟨gq.tr (kfr.I _ (by omega) _), me_self _ _ _ _⟩, rfl⟩
    · rw [if_neg z, if_neg z, wk_n]
      exact Or.inl ⟨p, m, rfl, ⟨gf, h39⟩, rfl⟩
  · have el : ¬ nI (2 ^ c + 2 ^ c) < qo_ishl (2 : Int32) (nI c) := by rw [ishl2 (by omega)]; exact nI_nlt (Nat.le_refl _) (by omega)
    show L_M_findsOf_31 K5 (F + 1) v1 (nI c) w k (nI R) (nI (2 ^ c + 2 ^ c)) m = _
    rw [le_M_findsOf_31]
    unfold X_M_findsOf_31
    rw [if_neg el]
theorem mt_findsOf {m0 : qm_M} {s : sT} (h : ms_now m0 s.1) (g : px_ok s.1) (hcl : clM m0 (bK s.1) (bL s.1)) (w k : Int32) {r c p0 : Nat} (hr : r < 6) (hc : c < 6) {m : qm_M} (h0 : mIn m0 p0 m) :
    (∃ p' m', wk (fun p => decide (nI p = k)) (rg (mvR (bK s.1) (bL s.1) (eW s w) r c) (2 ^ r)) p0 = .inr p' ∧ mIn m0 p' m' ∧ F_M_findsOf (nI r) (nI c) w k m = some (some (.int 0), m')) ∨ (∃ a, wk (fun p => decide (nI p = k)) (rg (mvR (bK s.1) (bL s.1) (eW s w) r c) (2 ^ r)) p0 = .inl a ∧ mFo s m0 a (F_M_findsOf (nI r) (nI c) w k m)) := by
  have h32 := pow_6 hr
  have hc32 := pow_6 hc
  have hp0 := Nat.two_pow_pos r
  obtain ⟨hp, -, -⟩ := g.prl
  obtain ⟨s1, s2, s3, s4⟩ := hp 0 (by omega)
  unfold F_M_findsOf X_M_findsOf_e
  rw [no_ishl1 (by omega)]
  refine wkE (fun F S m => L_M_findsOf_5 F (nI r) (nI c) w k (nI (2 ^ r + S)) m) (2 ^ r) (mvR (bK s.1) (bL s.1) (eW s w) r c) (fun p => decide (nI p = k)) p0 (mIn m0) (mFo s m0) (fun m' => some (some (.int 0), m')) (fun F S p m hS hI => ?_) (fun F p m hI => ?_) 1000000 m (by omega) h0
  · have el : nI (2 ^ r + S) < qo_ishl (2 : Int32) (nI r) := by rw [ishl2 (by omega)]; exact nI_lt (by omega) (by omega)
    have ea : nI (2 ^ r + S) + 1 = nI (2 ^ r + (S + 1)) := nI_add _ 1
    have a1 := mt_maySet (m := m) (v := 0) (hI.1.ffr.now h) (by omega) s1 s2 s3 s4 (show 0 < 2 ^ r + S by omega) (by omega)
    have a1' : F_M_maySet (0 : Int32) (nI (2 ^ r + S)) m = _ := a1
    have hL : L_M_findsOf_5 (F + 1) (nI r) (nI c) w k (nI (2 ^ r + S)) m = if al (bK s.1 0) (bL s.1 0) (2 ^ r + S) = true then L_M_findsOf_31 (L_M_findsOf_5 F) 1000000 (nI r) (nI c) w k (nI (2 ^ r + S)) (nI (2 ^ c)) m else L_M_findsOf_5 F (nI r) (nI c) w k (nI (2 ^ r + (S + 1))) m := by
      rw [le_M_findsOf_5]
      unfold X_M_findsOf_5
      rw [if_pos el, a1', qe_rI_e, ea, no_ishl1 (by omega)]
      by_cases q : al (bK s.1 0) (bL s.1 0) (2 ^ r + S) = true
      · rw [if_pos q, if_neg n10, if_pos q]
      · rw [if_neg q, if_pos rfl, if_neg q]
    rw [hL]
    unfold mvR
    by_cases q : al (bK s.1 0) (bL s.1 0) (2 ^ r + S) = true
    · rw [if_pos q, if_pos q]
      have := mt_find31 h g hcl (L_M_findsOf_5 F) (nI r) w k (R := 2 ^ r + S) (by omega) hc hI
      rw [ea] at this
      exact this
    · rw [if_neg q, if_neg q, wk_n]
      exact Or.inl ⟨p, m, rfl, hI, rfl⟩
  · have el : ¬ nI (2 ^ r + 2 ^ r) < qo_ishl (2 : Int32) (nI r) := by rw [ishl2 (by omega)]; exact nI_nlt (Nat.le_refl _) (by omega)
    show L_M_findsOf_5 (F + 1) (nI r) (nI c) w k (nI (2 ^ r + 2 ^ r)) m = _
    rw [le_M_findsOf_5]
    unfold X_M_findsOf_5
    rw [if_neg el]
theorem mt_finds {m0 : qm_M} {s : sT} (h : ms m0 s) (g : px_ok s.1) (w k : Int32) :
    (∃ p' m', wk (fun p => decide (nI p = k)) (mvA s (eW s w)) 0 = .inr p' ∧ F_M_finds w k m0 = some (some (.int 0), m') ∧ m'.1 112 39 = nI p' ∧ ffr m0 m') ∨ (∃ a m', wk (fun p => decide (nI p = k)) (mvA s (eW s w)) 0 = .inl a ∧ F_M_finds w k m0 = some (some (.int 1), m') ∧ m'.1 112 36 = nI a.1 ∧ m'.1 112 37 = nI a.2 ∧ m'.1 112 38 = iB (tW s ^^^ ef (bK s.1) (bL s.1) a.1 a.2) ∧ ffr m0 m') := by
  obtain ⟨hp, ⟨r1, r2, r3⟩, ⟨c1, c2, c3⟩⟩ := g.prl
  obtain ⟨ma, b1, b2, b3⟩ := mt_laysCells h g
  have hna := b3.now h.2.1
  have key : (∃ p' m', wk (fun p => decide (nI p = k)) (mvA s (eW s w)) 0 = .inr p' ∧ mIn ma p' m' ∧ L_M_finds_11 1000000 w k 0 (qm_sI ma 112 39 0) = some (some (.int 0), m')) ∨ (∃ a, wk (fun p => decide (nI p = k)) (mvA s (eW s w)) 0 = .inl a ∧ mFo s ma a (L_M_finds_11 1000000 w k 0 (qm_sI ma 112 39 0))) := by
    refine wkE (fun F r m => L_M_finds_11 F w k (nI r) m) (bR s.1) (mvr (bK s.1) (bL s.1) (eW s w) (nb (s.1 6)) (bC s.1)) (fun p => decide (nI p = k)) 0 (mIn ma) (mFo s ma) (fun m' => some (some (.int 0), m')) (fun F r p m hr hI => ?_) (fun F p m hI => ?_) 1000000 (qm_sI ma 112 39 0) (by omega) ⟨kfr.I ma (by omega) _, me_self _ _ _ _⟩
    · have m0' : F_M_manyOf (0 : Int32) m = _ := mt_manyOf (hI.1.ffr.now hna) (k := 0) (by omega) r1
      have hL : L_M_finds_11 (F + 1) w k (nI r) m = L_M_finds_23 (L_M_finds_11 F) 1000000 w k (nI r) 0 m := by
        rw [le_M_finds_11]
        unfold X_M_finds_11
        rw [m0', qe_rI_e, if_pos (nI_lt hr (by omega))]
      rw [hL]
      refine wkE (fun F2 c m => L_M_finds_23 (L_M_finds_11 F) F2 w k (nI r) (nI c) m) (bC s.1) (mvc (bK s.1) (bL s.1) (eW s w) (nb (s.1 6)) r) (fun p => decide (nI p = k)) p (mIn ma) (mFo s ma) (fun m' => L_M_finds_11 F w k (nI (r + 1)) m') (fun F2 c p m hc hI => ?_) (fun F2 p m hI => ?_) 1000000 m (by omega) hI
      · have hnow := hI.1.ffr.now hna
        have m1' : F_M_manyOf (1 : Int32) m = _ := mt_manyOf hnow (k := 1) (by omega) c1
        have hL2 : L_M_finds_23 (L_M_finds_11 F) (F2 + 1) w k (nI r) (nI c) m = if (nb (s.1 6)).getLsbD (6 * r + c) = true then (qe_rI (F_M_findsOf (nI r) (nI c) w k m) fun x1 m1 => if x1 = 0 then L_M_finds_23 (L_M_finds_11 F) F2 w k (nI r) (nI (c + 1)) m1 else some (some (.int 1), m1)) else L_M_finds_23 (L_M_finds_11 F) F2 w k (nI r) (nI (c + 1)) m := by
          rw [le_M_finds_23]
          unfold X_M_finds_23 F_M_place_III X_M_place_III_e
          rw [m1', qe_rI_e, if_pos (nI_lt hc (by omega)), qe_rI_e, nI_6, mt_has _ (by omega), qe_rI_e, hnow 6 (by omega), nI_1]
          by_cases q : (nb (s.1 6)).getLsbD (6 * r + c) = true
          · rw [if_pos q, if_neg n10, if_pos q]
          · rw [if_neg q, if_pos rfl, if_neg q]
        show (∃ p' m', wk _ (mvc (bK s.1) (bL s.1) (eW s w) (nb (s.1 6)) r c) p = _ ∧ _ ∧ L_M_finds_23 (L_M_finds_11 F) (F2 + 1) w k (nI r) (nI c) m = _) ∨ (∃ a, wk _ (mvc (bK s.1) (bL s.1) (eW s w) (nb (s.1 6)) r c) p = _ ∧ mFo s ma a (L_M_finds_23 (L_M_finds_11 F) (F2 + 1) w k (nI r) (nI c) m))
        rw [hL2]
        unfold mvc
        by_cases q : (nb (s.1 6)).getLsbD (6 * r + c) = true
        · rw [if_pos q, if_pos q]
          rcases mt_findsOf hna g b2 w k (r := r) (c := c) (by omega) (by omega) hI with ⟨p', m', x1, x2, x3⟩ | ⟨a, x1, m', x2, x3⟩
          · rw [x3, qe_rI_e, if_pos rfl]
            exact Or.inl ⟨p', m', x1, x2, rfl⟩
          · rw [x2, qe_rI_e, if_neg n10]
            exact Or.inr ⟨a, x1, m', rfl, x3⟩
        · rw [if_neg q, if_neg q, wk_n]
          exact Or.inl ⟨p, m, rfl, hI, rfl⟩
      · have m1' : F_M_manyOf (1 : Int32) m = _ := mt_manyOf (hI.1.ffr.now hna) (k := 1) (by omega) c1
        show L_M_finds_23 (L_M_finds_11 F) (F2 + 1) w k (nI r) (nI (bC s.1)) m = _
        rw [le_M_finds_23]
        unfold X_M_finds_23
        rw [m1', qe_rI_e, if_neg (nI_nlt (Nat.le_refl _) (by omega)), nI_1]
    · have m0' : F_M_manyOf (0 : Int32) m = _ := mt_manyOf (hI.1.ffr.now hna) (k := 0) (by omega) r1
      show L_M_finds_11 (F + 1) w k (nI (bR s.1)) m = _
      rw [le_M_finds_11]
      unfold X_M_finds_11
      rw [m0', qe_rI_e, if_neg (nI_nlt (Nat.le_refl _) (by omega))]
  unfold F_M_finds X_M_finds_e
  rw [b1, qe_rV_e]
  dsimp only
  rcases key with ⟨p', m', x1, ⟨x2, x3⟩, x4⟩ | ⟨a, x1, m', x2, x3, x4, x5, x6⟩
  · exact Or.inl ⟨p', m', x1, x4, x3, b3.ffr.tr x2.ffr⟩
  · exact Or.inr ⟨a, m', x1, x2, x3, x4, x5, b3.ffr.tr x6.ffr⟩
/-- moves lie on the board -/
theorem rg_mem {α : Type} {f : Nat → List α} {n : Nat} {a : α} : a ∈ rg f n ↔ ∃ i, i < n ∧ a ∈ f i := by
  unfold rg
  rw [List.mem_flatMap]
  exact ⟨fun ⟨i, h1, h2⟩ => ⟨i, List.mem_range.mp h1, h2⟩, fun ⟨i, h1, h2⟩ => ⟨i, List.mem_range.mpr h1, h2⟩⟩
theorem wk_mem {α : Type} {q : Nat → Bool} {a : α} : ∀ (l : List α) (p : Nat), wk q l p = .inl a → a ∈ l
  | [], p, h => by
    rw [wk_n] at h
    cases h
  | b :: l, p, h => by
    rw [wk_c] at h
    by_cases z : q p = true
    · rw [if_pos z] at h
      cases h
      exact List.mem_cons_self
    · rw [if_neg z] at h
      exact List.mem_cons_of_mem _ (wk_mem l (p + 1) h)
theorem mvA_mem {s : sT} {e : Int32} {a : Nat × Nat} (g : px_ok s.1) (h : a ∈ mvA s e) : a.1 < 2 ^ bR s.1 ∧ a.2 < 2 ^ bC s.1 ∧ a.1 < 64 ∧ a.2 < 64 := by
  obtain ⟨-, ⟨r1, r2, r3⟩, ⟨c1, c2, c3⟩⟩ := g.prl
  obtain ⟨r, hr, h⟩ := rg_mem.mp h
  obtain ⟨c, hc, h⟩ := rg_mem.mp h
  unfold mvc at h
  by_cases q : (nb (s.1 6)).getLsbD (6 * r + c) = true
  · rw [if_pos q] at h
    obtain ⟨S, hS, h⟩ := rg_mem.mp h
    unfold mvR at h
    by_cases q : al (bK s.1 0) (bL s.1 0) (2 ^ r + S) = true
    · rw [if_pos q] at h
      obtain ⟨U, hU, h⟩ := rg_mem.mp h
      unfold mvC at h
      by_cases q : (fit (bK s.1) (bL s.1) e (2 ^ r + S) (2 ^ c + U) && al (bK s.1 1) (bL s.1 1) (2 ^ c + U)) = true
      · rw [if_pos q] at h
        rw [List.mem_singleton.mp h]
        have e1 : 2 ^ r + S < 2 ^ bR s.1 := Nat.lt_of_lt_of_le (show 2 ^ r + S < 2 ^ (r + 1) by rw [Nat.pow_succ]; omega) (Nat.pow_le_pow_right (by omega) hr)
        have e2 : 2 ^ c + U < 2 ^ bC s.1 := Nat.lt_of_lt_of_le (show 2 ^ c + U < 2 ^ (c + 1) by rw [Nat.pow_succ]; omega) (Nat.pow_le_pow_right (by omega) hc)
        have e3 : 2 ^ bR s.1 ≤ 64 := Nat.le_trans (Nat.pow_le_pow_right (by omega) r3) (by decide)
        have e4 : 2 ^ bC s.1 ≤ 64 := Nat.le_trans (Nat.pow_le_pow_right (by omega) c3) (by decide)
        exact ⟨e1, e2, by show 2 ^ r + S < 64; omega, by show 2 ^ c + U < 64; omega⟩
      · rw [if_neg q] at h
        cases h
    · rw [if_neg q] at h
      cases h
  · rw [if_neg q] at h
    cases h
theorem mvA_len {s : sT} {e : Int32} (g : px_ok s.1) : (mvA s e).length ≤ 65536 := by
  obtain ⟨-, ⟨r1, r2, r3⟩, ⟨c1, c2, c3⟩⟩ := g.prl
  have h1 : ∀ r, r < bR s.1 → (mvr (bK s.1) (bL s.1) e (nb (s.1 6)) (bC s.1) r).length ≤ 8192 := fun r hr => by
    have h2 : ∀ c, c < bC s.1 → (mvc (bK s.1) (bL s.1) e (nb (s.1 6)) r c).length ≤ 1024 := fun c hc => by
      unfold mvc
      by_cases q : (nb (s.1 6)).getLsbD (6 * r + c) = true
      · rw [if_pos q]
        have h3 : ∀ S, S < 2 ^ r → (mvR (bK s.1) (bL s.1) e r c S).length ≤ 32 := fun S hS => by
          unfold mvR
          by_cases q : al (bK s.1 0) (bL s.1 0) (2 ^ r + S) = true
          · rw [if_pos q]
            have h4 := rg_len (f := mvC (bK s.1) (bL s.1) e (2 ^ r + S) c) (B := 1) (2 ^ c) (fun U _ => by
              unfold mvC
              split
              · exact Nat.le_refl _
              · exact Nat.zero_le _)
            have := pow_6 (n := c) (by omega)
            omega
          · rw [if_neg q]
            exact Nat.zero_le _
        have h5 := rg_len (f := mvR (bK s.1) (bL s.1) e r c) (B := 32) (2 ^ r) h3
        have := pow_6 (n := r) (by omega)
        omega
      · rw [if_neg q]
        exact Nat.zero_le _
    have h6 := rg_len (f := mvc (bK s.1) (bL s.1) e (nb (s.1 6)) r) (B := 1024) (bC s.1) h2
    unfold mvr
    omega
  have h7 := rg_len (f := mvr (bK s.1) (bL s.1) e (nb (s.1 6)) (bC s.1)) (B := 8192) (bR s.1) h1
  unfold mvA
  omega
