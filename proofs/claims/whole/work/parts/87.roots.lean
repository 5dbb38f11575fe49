/-! the class finds roots -/
theorem nodup_1 {S : List nb_F} (h : S.Nodup) (g : ∀ r s, r ∈ S → s ∈ S → r = s) : S.length ≤ 1 := by
  cases S with
  | nil => exact Nat.zero_le _
  | cons a l =>
    cases l with
    | nil => exact Nat.le_refl _
    | cons b l =>
      have e := g a b List.mem_cons_self (List.mem_cons_of_mem _ List.mem_cons_self)
      rw [e] at h
      exact absurd List.mem_cons_self (List.nodup_cons.mp h).1
theorem x_rc (a b c : nb_F) : a ^^^ b ^^^ c = a ^^^ c ^^^ b := by rw [BitVec.xor_assoc, BitVec.xor_comm b c, BitVec.xor_assoc]
theorem ishl_q {k : Nat} (hk : k ≤ 4) : qo_ishl (1 : Int32) (nI k) = nI (2 ^ k) ∧ qo_ishl (1 : Int32) (nI (2 ^ k)) = nI (2 ^ (2 ^ k)) := by
  have c : ∀ k, k < 5 → qo_ishl (1 : Int32) (nI k) = nI (2 ^ k) ∧ qo_ishl (1 : Int32) (nI (2 ^ k)) = nI (2 ^ (2 ^ k)) := nb_k5 (by decide) (by decide) (by decide) (by decide) (by decide)
  exact c k (by omega)
/-- the places' roots in level k, in order -/
def rtS (k : Nat) (P : Nat → nb_F) (t : Nat) (a : Nat → Nat) : Prop := inc t a ∧ ∀ i, (∃ u, u < t ∧ a u = i) ↔ i < 2 ^ (2 ^ k) ∧ pf_e 8 P (bN i) = 0
def poR (m : qm_M) (k : Nat) (P : Nat → nb_F) : Prop := ∃ t a, t ≤ 7 ∧ m.1 70 14 = nI t ∧ (∀ u, u < t → m.1 105 u = nI (a u)) ∧ rtS k P t a
def cvPo (m : qm_M) : Prop := m.1 70 12 = -1 ∨ ∃ k, k ≤ 4 ∧ m.1 70 12 = nI k ∧ poR m k (fun i => nb (m.2 106 i))
theorem nu_find103 {m0 : qm_M} {k : Nat} (hk : k ≤ 4) {R : List nb_F} (hR : R.length ≤ 7) (hd : R.Nodup) (hin : ∀ r, r ∈ R → nb_in k r) {im : Nat → Nat → nb_F} {F : nb_F → nb_F} (him : ∀ i, i < 2 ^ k → pa m0 (80 + i) 16 (im i) ∧ img F i (im i)) (hF : ∀ r, r ∈ R → F r = 0) (h13 : m0.1 70 13 = 1) (hp : prt m0 0 R) :
    ∃ m1 t a, L_Po_findRoots_103 1000000 (nI (2 ^ k)) 0 m0 = some (none, m1) ∧ t ≤ 7 ∧ m1.1 70 14 = nI t ∧ (∀ u, u < t → m1.1 105 u = nI (a u)) ∧ inc t a ∧ (∀ i, (∃ u, u < t ∧ a u = i) ↔ ∃ r, r ∈ R ∧ r.toNat = i) ∧ (∀ a, a ≠ 70 → a ≠ 105 → m1.1 a = m0.1 a) ∧ (∀ j, j ≠ 13 → j ≠ 14 → m1.1 70 j = m0.1 70 j) ∧ ∀ a, a ≠ 75 → a ≠ 76 → a ≠ 77 → a ≠ 78 → a < 97 ∨ 104 < a → m1.2 a = m0.2 a := by
  obtain ⟨hq1, hq2, hq3, hq4⟩ := q_le hk
  obtain ⟨m1, ⟨n, S, g1, g2, g3, g4, g5, g6, g7, g8⟩, e⟩ := lpU (fun f b (m : qm_M) => L_Po_findRoots_103 f (nI (2 ^ k)) (nI b) m) (2 ^ k) (fun b m => ∃ n S, sok R n S ∧ m.1 70 13 = nI n ∧ (∀ j, j < n → prt m j (S j)) ∧ (∀ j, j < n → ag k b (S j)) ∧ (∀ i, i < 2 ^ k → pa m (80 + i) 16 (im i)) ∧ (∀ a, a ≠ 70 → m.1 a = m0.1 a) ∧ (∀ j, j ≠ 13 → m.1 70 j = m0.1 70 j) ∧ ∀ a, a ≠ 75 → a ≠ 76 → a ≠ 77 → a ≠ 78 → a < 97 ∨ 104 < a → m.2 a = m0.2 a) (fun m => qe_rV (F_Po_readResults m) fun m3 => some (none, m3)) (fun f b m hb hI => by
      obtain ⟨n, S, g1, g2, g3, g4, g5, g6, g7, g8⟩ := hI
      obtain ⟨m2, a1, a2, a3, a4⟩ := nu_sumTraces hq4 g5 (fun i hi j hj => (him i hi).2.1 j hj) (nb_e b)
      obtain ⟨m3, n1, U, b1, b2, b3, b4, b5, b6⟩ := nu_splitParts (m0 := m2) hR hk hb hin a2 (fun r hr => tr_at (fun i hi => by
        obtain ⟨-, Q, N, -, -, x3⟩ := (him i hi).2
        rw [x3 r, hF r hr, nb_mul_0, nb_x0]) b) g1 (by rw [a3]; exact g2) (fun j hj => (g3 j hj).c (a4 (97 + j) (by omega))) g4
      refine ⟨m3, ⟨n1, U, b2, b3, b4, b5, fun i hi => (g5 i hi).c (by rw [b6.2.2 (80 + i) (by omega) (by omega) (by omega) (by omega), a4 (80 + i) (by omega)]), fun a x => by rw [b6.1 a x, a3]; exact g6 a x, fun j x => by rw [b6.2.1 j x, a3]; exact g7 j x, fun a x y z w v => by rw [b6.2.2 a x z w v, a4 a y]; exact g8 a x y z w v⟩, ?_⟩
      show L_Po_findRoots_103 (f + 1) (nI (2 ^ k)) (nI b) m = _
      rw [le_Po_findRoots_103]
      unfold X_Po_findRoots_103
      rw [if_pos (nI_lt hb (by omega)), no_lshl1 (by omega), a1, qe_rV_e, b1, qe_rV_e, nI_1]) (fun f m _ => by
      show L_Po_findRoots_103 (f + 1) (nI (2 ^ k)) (nI (2 ^ k)) m = _
      rw [le_Po_findRoots_103]
      unfold X_Po_findRoots_103
      rw [if_neg (nI_nlt (Nat.le_refl _) (by omega))]) 1000000 0 m0 (Nat.zero_le _) (by omega) ⟨1, fun _ => R, sok.one hd, h13, fun j hj => by rw [show j = 0 by omega]; exact hp, fun j hj r s _ _ c hc => absurd hc (Nat.not_lt_zero _), fun i hi => (him i hi).1, fun _ _ => rfl, fun _ _ => rfl, fun _ _ _ _ _ _ => rfl⟩
  have mem : ∀ j r, j < n → r ∈ S j → r ∈ R := fun j r hj hr => (g1.2.2.1 r).mp ⟨j, hj, hr⟩
  obtain ⟨m2, t, a, r1, r2, r3, r4, r5, r6, r7⟩ := nu_readResults hR (fun r hr => by have := nb_in_lt.mp (hin r hr); omega) g1 g2 g3 (fun j hj => nodup_1 (g1.1 j hj) (fun r s hr hs => tq2_sep hk (hin r (mem j r hj hr)) (hin s (mem j s hj hs)) (g4 j hj r s hr hs)))
  refine ⟨m2, t, a, ?_, r2, r3, r4, r5, r6, fun x h1 h2 => by rw [r7.1 x h1 h2]; exact g6 x h1, fun j h1 h2 => by rw [r7.2.1 j h2]; exact g7 j h1, fun x h1 h2 h3 h4 h5 => by rw [r7.2.2]; exact g8 x h1 h2 h3 h4 h5⟩
  have e' : L_Po_findRoots_103 1000000 (nI (2 ^ k)) 0 m0 = _ := e
  rw [e', r1, qe_rV_e]
theorem nu_find20 {m : qm_M} {s : sT} (h : cs m s) {k : Nat} (hk : k ≤ 4) (hnz : ¬ ∀ i, i < 8 → pP s.1 i = 0) :
    ∃ m1, L_Po_findRoots_20 (nI k) m = some (none, m1) ∧ poR m1 k (pP s.1) ∧ m1.1 70 12 = nI k ∧ (∀ i, i < 8 → m1.2 106 i = m.2 2 i) ∧ ou 70 106 m m1 := by
  obtain ⟨hq1, hq2, hq3, hq4⟩ := q_le hk
  have aP : ∀ i, i < 8 → m.2 2 i = bn (pP s.1 i) := fun i hi => by rw [cs_p h hi]; rfl
  obtain ⟨mB, b1, b2, b3, b4⟩ := nu_copy (m0 := qm_sI m 70 12 (nI k)) (a := 2) (b := 106) (n := 8) (k0 := 8) (by decide) (by decide) rfl rfl rfl rfl rfl rfl rfl (by omega) (by omega)
  obtain ⟨o1, o2, o3, o4, o5, o6⟩ := ary_of (o := 74) (by omega)
  obtain ⟨mC, c1, c2, c3, c4⟩ := nu_copy (m0 := mB) (a := 2) (b := 74) (n := 16) (k0 := 8) (by decide) (by decide) rfl rfl rfl o2 o3 o5 o6 (by omega) (by omega)
  generalize hc0 : (fun i => if i < 8 then pP s.1 i else 0) = c0
  have pC : pa mC 74 16 c0 := ⟨fun i hi => by
    rw [c2 i hi, ← hc0]
    show _ = bn (if i < 8 then pP s.1 i else 0)
    by_cases q : i < 8
    · rw [if_pos q, if_pos q, b4 2 (by decide)]
      exact aP i q
    · rw [if_neg q, if_neg q]
      rfl, fun i hi => by rw [← hc0]; exact if_neg (by omega)⟩
  have c08 : ∀ i, 8 ≤ i → c0 i = 0 := fun i hi => by rw [← hc0]; exact if_neg (by omega)
  have e0 : ∀ x, pf_e 16 c0 x = pf_e 8 (pP s.1) x := fun x => by
    rw [pf_e_len c08 (by omega) x, ← hc0]
    exact pf_e_c (fun i hi => if_pos hi) x
  have nz0 : ∀ L, isL c0 L → 1 ≤ L := fun L hL => by
    by_cases q : L = 0
    · refine absurd (fun i hi => ?_) hnz
      have := hL.1 i (by omega)
      rw [← hc0] at this
      exact (if_pos hi).symm.trans this
    · omega
  obtain ⟨L, l1, l2⟩ := isL_ex 8 c08
  have l0 := nz0 L l2
  obtain ⟨mD, sc, d1, d2, d3, d4, d5, d6⟩ := nu_makeMonic (ary_of (o := 74) (by omega)) (by omega) pC l2
  generalize hfm : (fun i => nb_mul sc (c0 i)) = fm at d3
  have hmon : fm (L - 1) = 1 := by rw [← hfm]; exact d4 l0
  have lf : isL fm L := ⟨fun i hi => by rw [← hfm]; show nb_mul sc (c0 i) = 0; rw [l2.1 i hi, nb_mul_0], Or.inr (by rw [hmon]; decide)⟩
  have eF : ∀ x, pf_e 16 fm x = nb_mul sc (pf_e 8 (pP s.1) x) := fun x => by rw [← hfm, pf_e_sc, e0 x]
  have zF : ∀ x, pf_e 16 fm x = 0 ↔ pf_e 8 (pP s.1) x = 0 := fun x => by
    rw [eF x]
    exact ⟨fun z => (nb_nz z).resolve_left d1, fun z => by rw [z, nb_mul_0]⟩
  obtain ⟨mE, c, e1, e2, e3, ⟨e4, Q, N, e5, e6, e7⟩, e8, e9⟩ := nu_raiseImage d3 lf l0 l1 hmon hq4
  have pF : pa (qm_sL mE 75 1 (mE.2 75 1 ^^^ 1)) 75 16 (fun i => c i ^^^ (if i = 1 then 1 else 0)) := ⟨fun i hi => by
    rw [me_2L, if_pos rfl]
    show _ = bn (c i ^^^ (if i = 1 then 1 else 0))
    by_cases q : i = 1
    · rw [if_pos q, if_pos q, e3.1 1 (by omega), q]
      rfl
    · rw [if_neg q, if_neg q, nb_x0]
      exact e3.1 i hi, fun i hi => by show c i ^^^ (if i = 1 then (1 : nb_F) else 0) = 0; rw [e3.2 i hi, if_neg (by omega), nb_xx]⟩
  have eh : ∀ x, pf_e 16 (fun i => c i ^^^ (if i = 1 then 1 else 0)) x = (nb_sqN (2 ^ k) x ^^^ x) ^^^ nb_mul (Q x) (pf_e 16 fm x) := fun x => by
    have e1 : pf_e 16 (fun i => if i = 1 then (1 : nb_F) else 0) x = x := by
      rw [pf_one x 1 (by omega), nb_mul_1]
      exact nb_1_mul x
    rw [pf_e_add 16 c (fun i => if i = 1 then 1 else 0) x, e7 x, e1, x_rc]
  have pF4 : pa (qm_sL mE 75 1 (mE.2 75 1 ^^^ 1)) 74 16 fm := d3.c (by rw [(qm_sL_other 74 (by decide)).2, e9 74 (by decide) (by decide) (by omega)])
  obtain ⟨mG, g, f1, f2, f3, f4, f5, f6⟩ := nu_meet (ary_of (o := 74) (by omega)) (ary_of (o := 75) (by omega)) (ary_of (o := 77) (by omega)) (by decide) (by decide) (by decide) (by omega) pF4 pF
  have hg : ∃ K, 1 ≤ K ∧ isL g K ∧ g (K - 1) = 1 := by
    rcases f4 with f4 | f4
    · exact f4
    · obtain ⟨u, v, p, q, -, -, -, -, -, y2, -⟩ := f3
      have z0 := pf_zero_c (N := 16) (by omega) (fun i hi => lf.1 i (by omega)) (fun x => by rw [y2 x, pf_e_z (fun i _ => f4 i) x, nb_mul_0]) (L - 1)
      rw [hmon] at z0
      exact absurd z0 (by decide)
  obtain ⟨K, k1, k2, k3⟩ := hg
  have k4 := isL_le k2 f2.2
  have eK : pf_e 16 g = pf_e K g := funext (fun x => pf_e_len k2.1 k4 x)
  rw [eK] at f3
  have hb : (64 : Nat) * 2 ^ (2 ^ k) ≤ 2 ^ 30 := by omega
  have er := gq hk e5 (by omega) eh f3 k2 k1 (by omega) k3
  generalize hR : (fq k).filter (fun r => decide (pf_e 16 fm r = 0)) = R at er
  have mR : ∀ r, r ∈ R ↔ nb_in k r ∧ pf_e 8 (pP s.1) r = 0 := fun r => by
    rw [← hR, List.mem_filter, mem_fq hk, decide_eq_true_iff, zF r]
  have nR : R.Nodup := by rw [← hR]; exact List.Nodup.sublist List.filter_sublist (fq_nd hk)
  have lR : R.length ≤ 7 := by
    by_cases q : R.length ≤ 7
    · exact q
    · exact absurd (pf_zero R 8 (pP s.1) nR (by omega) (fun a ha => ((mR a).mp ha).2)) hnz
  obtain ⟨mI, i1, i2, i3, i4⟩ := nu_copyP (m := qm_sI mG 70 13 1) (ary_of (o := 74) (by omega)) (ary_of (o := 97) (by omega)) (by decide) (by omega) f2
  obtain ⟨im, him⟩ : ∃ im : Nat → Nat → nb_F, ∀ i, i < 2 ^ k → pa mE (80 + i) 16 (im i) ∧ img (pf_e 16 fm) i (im i) := ⟨fun i => if hi : i < 2 ^ k then Classical.choose (e2 i hi) else fun _ => 0, fun i hi => by
    have e : (fun i => if hi : i < 2 ^ k then Classical.choose (e2 i hi) else fun _ => 0) i = Classical.choose (e2 i hi) := dif_pos hi
    rw [e]
    exact Classical.choose_spec (e2 i hi)⟩
  have frG : ∀ a, a ≠ 74 → a ≠ 75 → a ≠ 77 → a ≠ 97 → mI.2 a = mE.2 a := fun a x y z w => by
    rw [i4 a w]
    show mG.2 a = _
    rw [f6 a x y z, (qm_sL_other a y).2]
  have fr1 : ∀ a, a ≠ 70 → mI.1 a = m.1 a := fun a x => by
    rw [i3, (qm_sI_other a x).1, f5]
    show mE.1 a = _
    rw [e8, d5, c3, b3, (qm_sI_other a x).1]
  have fr2 : ∀ j, j ≠ 13 → j ≠ 12 → mI.1 70 j = m.1 70 j := fun j x y => by
    rw [i3, me_oth _ _ _ _ (Or.inr x), f5]
    show mE.1 70 j = _
    rw [e8, d5, c3, b3, me_oth _ _ _ _ (Or.inr y)]
  have h12 : mI.1 70 12 = nI k := by
    rw [i3, me_oth _ _ _ _ (Or.inr (by decide)), f5]
    show mE.1 70 12 = _
    rw [e8, d5, c3, b3, me_self]
  obtain ⟨m1, t, a, r1, r2, r3, r4, r5, r6, r7, r8, r9⟩ := nu_find103 (m0 := mI) hk lR nR (fun r hr => ((mR r).mp hr).1) (fun i hi => ⟨(him i hi).1.c (frG (80 + i) (by omega) (by omega) (by omega) (by omega)), (him i hi).2⟩) (fun r hr => (zF r).mpr ((mR r).mp hr).2) (by rw [i3, me_self]) ⟨g, i2, fun x => by rw [eK, er x]⟩
  refine ⟨m1, ?_, ⟨t, a, r2, r3, r4, r5, fun i => (r6 i).trans ⟨?_, ?_⟩⟩, by rw [r8 12 (by decide) (by decide)]; exact h12, fun i hi => ?_, fun x hx => ?_⟩
  · unfold L_Po_findRoots_20 X_Po_findRoots_20
    dsimp only
    rw [b1, qe_rV_e, c1, qe_rV_e, d2, qe_rV_e, (ishl_q hk).1, e1, qe_rV_e, f1, qe_rV_e, i1, qe_rV_e]
    exact r1
  · rintro ⟨r, x, rfl⟩
    obtain ⟨y1, y2⟩ := (mR r).mp x
    refine ⟨nb_in_lt.mp y1, ?_⟩
    rw [bN_of]
    exact y2
  · rintro ⟨x, y⟩
    exact ⟨bN i, (mR _).mpr ⟨(nb_in_bN hk (by omega)).mpr x, y⟩, bN_toNat (by omega)⟩
  · rw [r9 106 (by decide) (by decide) (by decide) (by decide) (by omega), frG 106 (by decide) (by decide) (by decide) (by decide), e9 106 (by decide) (by decide) (by omega), d6 106 (by decide), c4 106 (by decide), b2 i hi, if_pos hi]
    rfl
  · refine ⟨?_, ?_⟩
    · rw [r7 x (by omega) (by omega)]
      exact fr1 x (by omega)
    · rw [r9 x (by omega) (by omega) (by omega) (by omega) (by omega), frG x (by omega) (by omega) (by omega) (by omega), e9 x (by omega) (by omega) (by omega), d6 x (by omega), c4 x (by omega), b4 x (by omega)]
      rfl
theorem poR.c {m : qm_M} {k : Nat} {P Q : Nat → nb_F} (h : poR m k P) (e : ∀ i, i < 8 → P i = Q i) : poR m k Q := by
  obtain ⟨t, a, h1, h2, h3, h4, h5⟩ := h
  refine ⟨t, a, h1, h2, h3, h4, fun i => (h5 i).trans ?_⟩
  rw [pf_e_c e]
/-- with what is known from before -/
theorem nu_findRoots {m : qm_M} {s : sT} (h : cs m s) (hv : cvPo m) {k : Nat} (hk : k ≤ 4) (hnz : ¬ ∀ i, i < 8 → pP s.1 i = 0) :
    ∃ m1, F_Po_findRoots (nI k) m = some (none, m1) ∧ poR m1 k (pP s.1) ∧ cvPo m1 ∧ ou 70 106 m m1 := by
  have aP : ∀ i, i < 8 → nb (m.2 2 i) = pP s.1 i := fun i hi => by rw [cs_p h hi]; rfl
  have fin : ∃ m1, L_Po_findRoots_20 (nI k) m = some (none, m1) ∧ poR m1 k (pP s.1) ∧ cvPo m1 ∧ ou 70 106 m m1 := by
    obtain ⟨m1, a1, a2, a3, a4, a5⟩ := nu_find20 h hk hnz
    exact ⟨m1, a1, a2, Or.inr ⟨k, hk, a3, a2.c (fun i hi => by rw [a4 i hi, aP i hi])⟩, a5⟩
  unfold F_Po_findRoots X_Po_findRoots_e
  by_cases q : nI k = m.1 70 12
  · rw [if_pos q]
    obtain ⟨r, e1, e2⟩ := nu_alike (m := m) (a := 2) (b := 106) (n := 8) (by omega) (by omega) rfl rfl rfl rfl rfl rfl (by omega)
    rw [e1, qe_rI_e]
    rcases e2 with ⟨rfl, e2⟩ | ⟨rfl, -⟩
    · rw [if_neg n10]
      refine ⟨m, rfl, ?_, hv, ou.rf _ _ m⟩
      rcases hv with hv | ⟨k2, x1, x2, x3⟩
      · rw [← q] at hv
        exact absurd hv (by
          have c : ∀ k, k < 5 → ¬ nI k = -1 := nb_k5 (by decide) (by decide) (by decide) (by decide) (by decide)
          exact c k (by omega))
      · have ek : k = k2 := (nI_eq (by omega) (by omega)).mp (q.trans x2)
        rw [ek]
        exact x3.c (fun i hi => by rw [← e2 i hi, aP i hi])
    · rw [if_pos rfl]
      exact fin
  · rw [if_neg q]
    exact fin
