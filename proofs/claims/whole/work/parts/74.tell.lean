/-! tell -/
theorem le_M_tell_28  (n : Nat) (v2 : Int32) (m : qm_M) : L_M_tell_28 (n + 1) v2 m = X_M_tell_28 F_M_readsText F_M_keepsAct F_M_heads (L_M_tell_28 n) v2 m := rfl
/-- the model reads on: cells told -/
theorem mt_text28 {n : Nat} {T : Nat → Nat} {r c : Nat} (hr : 0 < r ∧ r ≤ 6) (hc : 0 < c ∧ c ≤ 6) : ∀ d f p H m, n - p ≤ d → d < f → mtt n T m → m.1 112 25 = nI p → p ≤ n → m.1 130 0 = nI r → m.1 130 1 = nI c → m.2 112 31 = bn H →
    (∀ z, rH n T r c d p H = .inl z → ∃ m1, L_M_readsText_28 f m = some (some (.int 0), m1) ∧ m1.1 112 26 = nI z ∧ mq m m1) ∧
    (∀ H1, rH n T r c d p H = .inr H1 → ∃ m1, L_M_readsText_28 f m = some (some (.int 1), m1) ∧ m1.2 112 31 = bn H1 ∧ m1.1 130 = m.1 130 ∧ m1.1 131 = m.1 131 ∧ m1.1 132 = m.1 132 ∧ mq m m1) := by
  intro d
  have oI : ∀ (m : qm_M) (o j : Nat) (x : Int32) (a : Nat), a ≠ o → (qm_sI m o j x).1 a = m.1 a := fun m o j x a g => (qm_sI_other a g).1
  -- nothing stands there any more
  have fin : ∀ f p H m, mtt n T m → m.1 112 25 = nI p → p ≤ n → n ≤ te (fun k => cB (T k)) n p → m.2 112 31 = bn H → ∃ m1, L_M_readsText_28 (f + 1) m = some (some (.int 1), m1) ∧ m1.2 112 31 = bn H ∧ m1.1 130 = m.1 130 ∧ m1.1 131 = m.1 131 ∧ m1.1 132 = m.1 132 ∧ mq m m1 := by
    intro f p H m h hp hpn hns hH
    have hn := h.1
    have hs := te_le (fun k => cB (T k)) hpn
    have htw := mt_takesWord h (w := 4) (by omega) hp hpn
    have hid := te_idem (fun k => cB (T k)) n p
    have hx := mt_next ((mq.I m (j := 25) (by omega) (nI (te (fun k => cB (T k)) n p))).mtt h) (me_self _ _ _ _) hs
    rw [hid] at hx
    rw [le_M_readsText_28]
    unfold X_M_readsText_28
    rw [htw, qe_rI_e]
    generalize te (fun k => cB (T k)) n p = s at *
    have hno : ¬ wq T s (te (fun k => cL (T k)) n s) 4 = true := fun z => by
      have q1 := (of_decide_eq_true z).1
      rw [te_n hns] at q1
      have := (wl_le 4).1
      omega
    have hbv : bv n T s = -1 := if_neg (by omega)
    rw [if_neg hno, if_neg hno, if_pos rfl, hx, qe_rI_e, hbv, if_pos rfl, me_sII]
    exact ⟨_, rfl, hH, oI _ _ _ _ _ (by decide), oI _ _ _ _ _ (by decide), oI _ _ _ _ _ (by decide), mq.I m (by omega) _⟩
  induction d with
  | zero =>
    intro f p H m h1 h3 h hp hpn e0 e1 e6
    obtain ⟨f, rfl⟩ : ∃ g, f = g + 1 := ⟨f - 1, by omega⟩
    refine ⟨fun z hz => (by cases hz), fun H1 hz => ?_⟩
    rw [← Sum.inr.inj hz]
    exact fin f p H m h hp hpn (by have := te_ge (fun k => cB (T k)) n p; omega) e6
  | succ d ih =>
    intro f p H m h1 h3 h hp hpn e0 e1 e6
    obtain ⟨f, rfl⟩ : ∃ g, f = g + 1 := ⟨f - 1, by omega⟩
    have hn := h.1
    have hs := te_le (fun k => cB (T k)) hpn
    have hps := te_ge (fun k => cB (T k)) n p
    rw [rH_s]
    by_cases q : n ≤ te (fun k => cB (T k)) n p
    · rw [if_pos q]
      refine ⟨fun z hz => (by cases hz), fun H1 hz => ?_⟩
      rw [← Sum.inr.inj hz]
      exact fin f p H m h hp hpn q e6
    · rw [if_neg q]
      have htw := mt_takesWord h (w := 4) (by omega) hp hpn
      have hid := te_idem (fun k => cB (T k)) n p
      have hx := mt_next ((mq.I m (j := 25) (by omega) (nI (te (fun k => cB (T k)) n p))).mtt h) (me_self _ _ _ _) hs
      rw [hid] at hx
      have hsv := fun {H : nb_F} {x : Nat × nb_F} => rS_v (n := n) (T := T) (r := r) (c := c) (s := te (fun k => cB (T k)) n p) (H := H) (x := x) hr.1 hc hs
      rw [le_M_readsText_28]
      unfold X_M_readsText_28
      rw [htw, qe_rI_e]
      generalize te (fun k => cB (T k)) n p = s at *
      have he := te_le (fun k => cL (T k)) hs
      cases hxx : rS n T r c s H with
      | inl z0 =>
        refine ⟨fun z hz => ?_, fun H1 hz => (by cases hz)⟩
        rw [← Sum.inl.inj hz]
        unfold rS at hxx
        by_cases cw : wq T s (te (fun k => cL (T k)) n s) 4 = true
        · rw [if_pos cw] at hxx
          rw [if_pos cw, if_pos cw, if_neg n10]
          generalize te (fun k => cL (T k)) n s = e at *
          have g1 : mq m (qm_sI m 112 25 (nI e)) := mq.I m (by omega) _
          have er : (qm_sI m 112 25 (nI e)).1 130 0 - 1 = nI (r - 1) := by rw [oI _ _ _ _ _ (by decide), e0]; exact pk_sub (b := 1) (by omega)
          rw [er]
          obtain ⟨a1, a2⟩ := mt_readsNumber (g1.mtt h) (me_self _ _ _ _) he (lo := 0) (hi := r - 1) (by omega) (by omega)
          cases hA : rN n T 0 (r - 1) e with
          | inl y0 =>
            rw [hA] at hxx
            obtain ⟨m1, r1, r2, r3⟩ := a1 y0 hA
            have r1' : F_M_readsNumber 0 (nI (r - 1)) _ = _ := r1
            rw [r1', qe_rI_e, if_pos rfl, ← Sum.inl.inj hxx]
            exact ⟨m1, rfl, r2, g1.tr r3⟩
          | inr x =>
            obtain ⟨a, q1⟩ := x
            rw [hA] at hxx
            have v1 := rN_v he hA
            have r1 := a2 a q1 hA
            have r1' : F_M_readsNumber 0 (nI (r - 1)) _ = _ := r1
            have g2 := (g1.tr (mq.I (qm_sI m 112 25 (nI e)) (j := 25) (by omega) (nI q1))).tr (mq.I _ (j := 27) (by omega) (nI a))
            have ec : (qm_sI (qm_sI (qm_sI m 112 25 (nI e)) 112 25 (nI q1)) 112 27 (nI a)).1 130 1 - 1 = nI (c - 1) := by rw [oI _ _ _ _ _ (by decide), oI _ _ _ _ _ (by decide), oI _ _ _ _ _ (by decide), e1]; exact pk_sub (b := 1) (by omega)
            rw [r1', qe_rI_e, if_neg n10, ec]
            obtain ⟨b1, b2⟩ := mt_readsNumber (g2.mtt h) (p := q1) (by rw [me_oth _ _ _ _ (Or.inr (by decide)), me_self]) v1.2.2.1 (lo := 0) (hi := c - 1) (by omega) (by omega)
            cases hB : rN n T 0 (c - 1) q1 with
            | inl y0 =>
              dsimp only at hxx
              rw [hB] at hxx
              obtain ⟨m1, s1, s2, s3⟩ := b1 y0 hB
              have s1' : F_M_readsNumber 0 (nI (c - 1)) _ = _ := s1
              rw [s1', qe_rI_e, if_pos rfl, ← Sum.inl.inj hxx]
              exact ⟨m1, rfl, s2, g2.tr s3⟩
            | inr y =>
              dsimp only at hxx
              rw [hB] at hxx
              cases hxx
        · rw [if_neg cw] at hxx
          have hbv : ¬ bv n T s = (-1 : Int32) := fun z => by
            have hsn : s < n := by omega
            have t := (h.2.2 s hsn).1
            unfold bv at z
            rw [if_pos hsn] at z
            have e : (-1 : Int32) < nI (T s) := by
              rw [Int32.lt_iff_toInt_lt, nI_toInt (by omega)]
              show (-1 : Int) < _
              omega
            rw [z] at e
            exact absurd e Int32.lt_irrefl
          rw [if_neg cw, if_neg cw, if_pos rfl, hx, qe_rI_e, if_neg hbv, me_sII, me_self, show (1 : Int32) = nI 1 from rfl, mt_fails, qe_rI_e, if_pos rfl]
          refine ⟨_, rfl, ?_, (mq.I m (by omega) _).tr (mq.I _ (by omega) _)⟩
          rw [me_self, ← Sum.inl.inj hxx]
      | inr x =>
        obtain ⟨w1, w2, w3⟩ := hsv hxx
        unfold rS at hxx
        by_cases cw : wq T s (te (fun k => cL (T k)) n s) 4 = true
        · rw [if_pos cw] at hxx
          rw [if_pos cw, if_pos cw, if_neg n10]
          generalize te (fun k => cL (T k)) n s = e at *
          have g1 : mq m (qm_sI m 112 25 (nI e)) := mq.I m (by omega) _
          have er : (qm_sI m 112 25 (nI e)).1 130 0 - 1 = nI (r - 1) := by rw [oI _ _ _ _ _ (by decide), e0]; exact pk_sub (b := 1) (by omega)
          rw [er]
          obtain ⟨a1, a2⟩ := mt_readsNumber (g1.mtt h) (me_self _ _ _ _) he (lo := 0) (hi := r - 1) (by omega) (by omega)
          cases hA : rN n T 0 (r - 1) e with
          | inl y0 =>
            rw [hA] at hxx
            cases hxx
          | inr xa =>
            obtain ⟨a, q1⟩ := xa
            rw [hA] at hxx
            have v1 := rN_v he hA
            have r1 := a2 a q1 hA
            have r1' : F_M_readsNumber 0 (nI (r - 1)) _ = _ := r1
            have g2 := (g1.tr (mq.I (qm_sI m 112 25 (nI e)) (j := 25) (by omega) (nI q1))).tr (mq.I _ (j := 27) (by omega) (nI a))
            have ec : (qm_sI (qm_sI (qm_sI m 112 25 (nI e)) 112 25 (nI q1)) 112 27 (nI a)).1 130 1 - 1 = nI (c - 1) := by rw [oI _ _ _ _ _ (by decide), oI _ _ _ _ _ (by decide), oI _ _ _ _ _ (by decide), e1]; exact pk_sub (b := 1) (by omega)
            rw [r1', qe_rI_e, if_neg n10, ec]
            obtain ⟨b1, b2⟩ := mt_readsNumber (g2.mtt h) (p := q1) (by rw [me_oth _ _ _ _ (Or.inr (by decide)), me_self]) v1.2.2.1 (lo := 0) (hi := c - 1) (by omega) (by omega)
            cases hB : rN n T 0 (c - 1) q1 with
            | inl y0 =>
              dsimp only at hxx
              rw [hB] at hxx
              cases hxx
            | inr y =>
              obtain ⟨b, q2⟩ := y
              dsimp only at hxx
              rw [hB] at hxx
              have v2 := rN_v v1.2.2.1 hB
              have s1 := b2 b q2 hB
              have s1' : F_M_readsNumber 0 (nI (c - 1)) _ = _ := s1
              have g3 := (g2.tr (mq.I (qm_sI (qm_sI (qm_sI m 112 25 (nI e)) 112 25 (nI q1)) 112 27 (nI a)) (j := 25) (by omega) (nI q2))).tr (mq.I _ (j := 27) (by omega) (nI b))
              rw [s1', qe_rI_e, if_neg n10, me_self, me_self, nb_e_shl (by omega) (by omega)]
              have hx2 := (Sum.inr.inj hxx).symm
              subst hx2
              dsimp only
              have g4 := g3.tr (mq.E (qm_sI (qm_sI (qm_sI (qm_sI (qm_sI m 112 25 (nI e)) 112 25 (nI q1)) 112 27 (nI a)) 112 25 (nI q2)) 112 27 (nI b)) 31 (bn (H ||| nb_e (6 * a + b))))
              have eH : (qm_sI (qm_sI (qm_sI (qm_sI (qm_sI m 112 25 (nI e)) 112 25 (nI q1)) 112 27 (nI a)) 112 25 (nI q2)) 112 27 (nI b)).2 112 31 ||| bn (nb_e (6 * a + b)) = bn (H ||| nb_e (6 * a + b)) := by
                simp only [me_2I]
                rw [e6]
                rfl
              rw [eH]
              have k130 : ∀ o, o ≠ 112 → (qm_sL (qm_sI (qm_sI (qm_sI (qm_sI (qm_sI m 112 25 (nI e)) 112 25 (nI q1)) 112 27 (nI a)) 112 25 (nI q2)) 112 27 (nI b)) 112 31 (bn (H ||| nb_e (6 * a + b)))).1 o = m.1 o := fun o ho => by
                rw [show (qm_sL (qm_sI (qm_sI (qm_sI (qm_sI (qm_sI m 112 25 (nI e)) 112 25 (nI q1)) 112 27 (nI a)) 112 25 (nI q2)) 112 27 (nI b)) 112 31 (bn (H ||| nb_e (6 * a + b)))).1 = (qm_sI (qm_sI (qm_sI (qm_sI (qm_sI m 112 25 (nI e)) 112 25 (nI q1)) 112 27 (nI a)) 112 25 (nI q2)) 112 27 (nI b)).1 from rfl, oI _ _ _ _ _ ho, oI _ _ _ _ _ ho, oI _ _ _ _ _ ho, oI _ _ _ _ _ ho, oI _ _ _ _ _ ho]
              obtain ⟨j1, j2⟩ := ih f q2 (H ||| nb_e (6 * a + b)) (qm_sL (qm_sI (qm_sI (qm_sI (qm_sI (qm_sI m 112 25 (nI e)) 112 25 (nI q1)) 112 27 (nI a)) 112 25 (nI q2)) 112 27 (nI b)) 112 31 (bn (H ||| nb_e (6 * a + b)))) (by omega) (by omega) (g4.mtt h) ((me_oth (qm_sI (qm_sI (qm_sI (qm_sI m 112 25 (nI e)) 112 25 (nI q1)) 112 27 (nI a)) 112 25 (nI q2)) 112 27 (nI b) (Or.inr (by decide))).trans (me_self _ _ _ _)) v2.2.2.1 (by rw [k130 130 (by decide)]; exact e0) (by rw [k130 130 (by decide)]; exact e1) (by rw [me_2L, if_pos rfl, if_pos rfl])
              refine ⟨fun z hz => ?_, fun H1 hz => ?_⟩
              · obtain ⟨m2, b1, b2, b3⟩ := j1 z hz
                exact ⟨m2, b1, b2, g4.tr b3⟩
              · obtain ⟨m2, b1, b2, b3, b4, b5, b6⟩ := j2 H1 hz
                exact ⟨m2, b1, b2, b3.trans (k130 130 (by decide)), b4.trans (k130 131 (by decide)), b5.trans (k130 132 (by decide)), g4.tr b6⟩
        · rw [if_neg cw] at hxx
          cases hxx
theorem mt_readsText {n : Nat} {T : Nat → Nat} {m : qm_M} (h : mtt n T m) :
    (∀ z, rT n T = .inl z → ∃ m1, F_M_readsText m = some (some (.int 0), m1) ∧ m1.1 112 26 = nI z ∧ mq m m1) ∧
    (∀ r k l r2 k2 l2 H, rT n T = .inr ((r, k, l), (r2, k2, l2), H) → ∃ m1, F_M_readsText m = some (some (.int 1), m1) ∧ (m1.1 130 0 = nI r ∧ m1.1 131 0 = nI k ∧ m1.1 132 0 = nI l) ∧ (m1.1 130 1 = nI r2 ∧ m1.1 131 1 = nI k2 ∧ m1.1 132 1 = nI l2) ∧ m1.2 112 31 = bn H ∧ mq m m1) := by
  have hn := h.1
  have g0 : mq m (qm_sL (qm_sI m 112 25 0) 112 31 0) := (mq.I m (by omega) _).tr (mq.E _ _ _)
  obtain ⟨a1, a2⟩ := mt_readsSide (g0.mtt h) (j := 0) (by omega) (p := 0) (by rw [me_1L, me_self]; rfl) (Nat.zero_le _)
  unfold F_M_readsText X_M_readsText_e rT
  dsimp only
  cases h1 : rD n T 0 with
  | inl z0 =>
    obtain ⟨m1, r1, r2, r3⟩ := a1 z0 h1
    have r1' : F_M_readsSide 0 _ = _ := r1
    rw [r1', qe_rI_e, if_pos rfl]
    exact ⟨fun z hz => ⟨m1, rfl, by rw [r2, Sum.inl.inj hz], g0.tr r3⟩, fun r k l r2 k2 l2 H hz => (by cases hz)⟩
  | inr x =>
    obtain ⟨r, k, l, q⟩ := x
    obtain ⟨m1, r1, r2, r3, r4, r5, r6, r7, r8⟩ := a2 r k l q h1
    have v1 := rD_v (Nat.zero_le _) h1
    have r1' : F_M_readsSide 0 _ = _ := r1
    rw [r1', qe_rI_e, if_neg n10]
    obtain ⟨b1, b2⟩ := mt_readsSide ((g0.tr r8).mtt h) (j := 1) (by omega) r2 v1.2.2.2.2.2
    dsimp only
    cases h2 : rD n T q with
    | inl z0 =>
      obtain ⟨m2, s1, s2, s3⟩ := b1 z0 h2
      have s1' : F_M_readsSide 1 m1 = _ := s1
      rw [s1', qe_rI_e, if_pos rfl]
      exact ⟨fun z hz => ⟨m2, rfl, by rw [s2, Sum.inl.inj hz], (g0.tr r8).tr s3⟩, fun r k l r2 k2 l2 H hz => (by cases hz)⟩
    | inr y =>
      obtain ⟨c, kc, lc, q2⟩ := y
      obtain ⟨m2, s1, s2, s3, s4, s5, s6, s7, s8⟩ := b2 c kc lc q2 h2
      have v2 := rD_v v1.2.2.2.2.2 h2
      have s1' : F_M_readsSide 1 m1 = _ := s1
      rw [s1', qe_rI_e, if_neg n10]
      have gA := (g0.tr r8).tr s8
      have i0 := s6 0 (by decide)
      obtain ⟨c1, c2⟩ := mt_text28 (n := n) (T := T) (r := r) (c := c) (by omega) (by omega) 120 1000000 q2 0 m2 (by omega) (by omega) (gA.mtt h) s2 v2.2.2.2.2.2 (i0.1.trans r3) s3 (by rw [s7, r7, me_2L, if_pos rfl, if_pos rfl]; rfl)
      dsimp only
      cases h3 : rH n T r c 120 q2 0 with
      | inl z0 =>
        obtain ⟨m3, t1, t2, t3⟩ := c1 z0 h3
        refine ⟨fun z hz => ?_, fun r k l r2 k2 l2 H hz => (by cases hz)⟩
        rw [← Sum.inl.inj hz]
        exact ⟨m3, t1, t2, gA.tr t3⟩
      | inr H0 =>
        obtain ⟨m3, t1, t2, t3, t4, t5, t6⟩ := c2 H0 h3
        refine ⟨fun z hz => (by cases hz), fun r9 k9 l9 r8' k8 l8 H9 hz => ?_⟩
        cases hz
        exact ⟨m3, t1, ⟨by rw [t3]; exact i0.1.trans r3, by rw [t4]; exact i0.2.1.trans r4, by rw [t5]; exact i0.2.2.trans r5⟩, ⟨by rw [t3]; exact s3, by rw [t4]; exact s4, by rw [t5]; exact s5⟩, t2, gA.tr t6⟩
/-! both -/
/-- a board told -/
def sB (P : sP) (r k l c kc lc : Nat) (H : nb_F) : sP := fun j => if j = 0 then lN r else if j = 1 then lN c else if j = 2 then lN k else if j = 3 then lN kc else if j = 4 then lN l else if j = 5 then lN lc else if j = 6 then bn H else P j
theorem px_ok.board {P : sP} (h : px_ok P) {r k l c kc lc : Nat} {H : nb_F} (h1 : 1 ≤ r ∧ r ≤ 6 ∧ k ≤ 3 ∧ 1 ≤ l ∧ l ≤ 8) (h2 : 1 ≤ c ∧ c ≤ 6 ∧ kc ≤ 3 ∧ 1 ≤ lc ∧ lc ≤ 8) (h3 : hbd r c H) : px_ok (sB P r k l c kc lc H) := by
  obtain ⟨r0, c0, k1, k2, l1, l2, g1, g2, a1, a2, a3⟩ := h
  exact ⟨r, c, k, kc, l, lc, g1, g2, by omega, ⟨rfl, rfl, rfl, rfl, rfl, rfl, a2.2.2.2.2.2.2.1, a2.2.2.2.2.2.2.2⟩, h3⟩
theorem cs.tape0 {m m1 : qm_M} {s : sT} (h : cs m s) (g : tq m m1) : cs (qm_sI m1 43 2 0) (s.1, s.2.1, s.2.2.1, (0, s.2.2.2.2)) := by
  obtain ⟨c1, ⟨x, hx, c2, c3, c4⟩, c5, c6, c7⟩ := h
  have e1 : ∀ a, a ≤ 42 → (qm_sI m1 43 2 0).1 a = m.1 a := fun a ha => by rw [(qm_sI_other a (by omega)).1]; exact g.1 a (by omega) (by omega)
  have e : ∀ o, o ≤ 40 → ∀ k, px_c (qm_sI m1 43 2 0) o k = px_c m o k := fun o ho k => px_c_eq (e1 o (by omega)) (g.2.2 o (by omega)) (g.2.2 (o + 1) (by omega)) (g.2.2 (o + 2) (by omega)) k
  refine ⟨fun k hk => (e 1 (by omega) k).trans (c1 k hk), ⟨x, hx, by rw [e1 4 (by omega)]; exact c2, by rw [e1 4 (by omega)]; exact c3, fun i hi k hk => (e _ (by omega) k).trans (c4 i hi k hk)⟩, fun z hz => ?_, me_self _ _ _ _, fun k hk => absurd hk (Nat.not_lt_zero _)⟩
  obtain ⟨d1, d2⟩ := c5 z hz
  exact ⟨by rw [e1 _ (by omega)]; exact d1, fun q k hk => (e _ (by omega) k).trans (d2 q k hk)⟩
theorem ms.tape0 {m m1 : qm_M} {s : sT} (h : ms m s) (g : mq m m1) : ms (qm_sI m1 112 24 0) (s.1, s.2.1, s.2.2.1, (0, s.2.2.2.2)) := by
  obtain ⟨⟨a1, a2⟩, a3, ⟨a4, a5⟩, a6, ⟨a7, a8⟩⟩ := h
  have eL : ∀ a, a ≠ 112 → (qm_sI m1 112 24 0).2 a = m.2 a := fun a ha => g.2.2 a ha
  refine ⟨⟨fun a b ha hb => ?_, fun k hk => ?_⟩, fun k hk => ?_, ⟨?_, fun i hi k hk => ?_⟩, fun z hz => ?_, me_self _ _ _ _, fun k hk => absurd hk (Nat.not_lt_zero _)⟩
  · rw [eL 117 (by omega)]; exact a1 a b ha hb
  · rw [eL 118 (by omega)]; exact a2 k hk
  · rw [eL 113 (by omega)]; exact a3 k hk
  · rw [me_oth _ _ _ _ (Or.inr (by decide)), g.2.1 2 (by omega)]; exact a4
  · rw [eL 114 (by omega)]; exact a5 i hi k hk
  · rw [eL 115 (by omega), me_oth _ _ _ _ (Or.inl (by decide)), g.1 116 (by omega) (by omega) (by omega) (by omega)]; exact a6 z hz
/-- what an act's keeping leaves -/
theorem nu_push45 {m : qm_M} {s : sT} (h : cs m s) {m1 : qm_M} (e : F_Pa_push m = some (none, m1)) : m1.1 45 = m.1 45 ∧ m1.2 45 = m.2 45 := by
  obtain ⟨c1, ⟨x, hx, c2, c3, c4⟩, c5, c6, c7⟩ := h
  obtain ⟨r1, r2, r3⟩ := po_ring hx
  obtain ⟨m2, b1, b2, b3, b4⟩ := nu_become r1 po_1 r2 m
  obtain ⟨⟨fo, -, -, -⟩, -, -⟩ := po_f r1
  have fin : ∀ y, ∃ u v, L_Pa_push_35 (nI y) m2 = some (none, qm_sI (qm_sI m2 4 1 u) 4 2 v) := fun y => by
    unfold L_Pa_push_35 X_Pa_push_35
    dsimp only
    split
    · exact ⟨_, _, rfl⟩
    · exact ⟨_, _, rfl⟩
  unfold F_Pa_push X_Pa_push_e at e
  rw [c2, qm_in_nI hx (by omega), nI_clamp (by omega), r3, fo, b1] at e
  dsimp only [qe_b, cond_true, qe_rV] at e
  rw [show m2.1 4 1 = nI x by rw [b4.1 4 (by omega)]; exact c2, nI_1] at e
  have done : ∀ u v : Int32, m1 = qm_sI (qm_sI m2 4 1 u) 4 2 v → m1.1 45 = m.1 45 ∧ m1.2 45 = m.2 45 := fun u v q => by
    subst q
    refine ⟨?_, ?_⟩
    · rw [(qm_sI_other 45 (by decide)).1, (qm_sI_other 45 (by decide)).1]
      exact b4.1 45 (by omega)
    · exact b4.2 45 (by omega) (by omega) (by omega)
  split at e
  · obtain ⟨u, v, q⟩ := fin (x + 1)
    rw [q] at e
    exact done u v (congrArg Prod.snd (Option.some.inj e)).symm
  · obtain ⟨u, v, q⟩ := fin 0
    have q' : L_Pa_push_35 0 m2 = _ := q
    rw [q'] at e
    exact done u v (congrArg Prod.snd (Option.some.inj e)).symm
/-- the model writes the board -/
theorem mt_tell28 {m : qm_M} {P : sP} {r k l c kc lc : Nat} {H : nb_F} (hP : ms_now m P) (t0 : m.1 130 0 = nI r ∧ m.1 131 0 = nI k ∧ m.1 132 0 = nI l) (t1 : m.1 130 1 = nI c ∧ m.1 131 1 = nI kc ∧ m.1 132 1 = nI lc) (tH : m.2 112 31 = bn H) (b0 : r < 100 ∧ k < 100 ∧ l < 100) (b1 : c < 100 ∧ kc < 100 ∧ lc < 100) :
    ∃ m1, L_M_tell_28 1000000 0 m = some (some (.int (sH (sB P r k l c kc lc H))), m1) ∧ ms_now m1 (sB P r k l c kc lc H) ∧ m1.1 = m.1 ∧ ∀ a, a ≠ 113 → m1.2 a = m.2 a := by
  have hm : ms_now (qm_sL (qm_sL (qm_sL (qm_sL (qm_sL (qm_sL (qm_sL m 113 0 (lN r)) 113 2 (lN k)) 113 4 (lN l)) 113 1 (lN c)) 113 3 (lN kc)) 113 5 (lN lc)) 113 6 (bn H)) (sB P r k l c kc lc H) := fun j hj => by
    simp only [me_2L, if_true]
    rw [hP j hj]
    unfold sB
    by_cases j0 : j = 0
    · subst j0; simp
    · by_cases j1 : j = 1
      · subst j1; simp
      · by_cases j2 : j = 2
        · subst j2; simp
        · by_cases j3 : j = 3
          · subst j3; simp
          · by_cases j4 : j = 4
            · subst j4; simp
            · by_cases j5 : j = 5
              · subst j5; simp
              · by_cases j6 : j = 6
                · subst j6; simp
                · simp only [j0, j1, j2, j3, j4, j5, j6, if_false]
  have e0 : L_M_tell_28 1000000 0 m = L_M_tell_28 999999 (nI 1) (qm_sL (qm_sL (qm_sL m 113 0 (lN r)) 113 2 (lN k)) 113 4 (lN l)) := by
    show L_M_tell_28 (999999 + 1) (nI 0) m = _
    rw [le_M_tell_28]
    unfold X_M_tell_28
    have q2 : nI 0 < (2 : Int32) := nI_lt (a := 0) (b := 2) (by omega) (by omega)
    have z0 : (0 : Int32) + nI 0 = nI 0 := nI_add 0 0
    have z2 : (2 : Int32) + nI 0 = nI 2 := nI_add 2 0
    have z4 : (4 : Int32) + nI 0 = nI 4 := nI_add 4 0
    rw [if_pos q2, z0, z2, z4]
    simp (disch := omega) only [qe_rI_e, qe_rL_e, qe_rV_e, qe_rR_e, qe_b_e, n10F, nI_lt0, nI_e0T, nI_e0F, nI_ltT, nI_ltF, nI_eqT, nI_eqF, qm_in_nI, nI_clamp, nI_1, nI_add, pk_mul, if_true, if_false, eq_self, me_1L, t0.1, t0.2.1, t0.2.2, nI_l]
  have e1 : L_M_tell_28 999999 (nI 1) (qm_sL (qm_sL (qm_sL m 113 0 (lN r)) 113 2 (lN k)) 113 4 (lN l)) = L_M_tell_28 999998 (nI 2) (qm_sL (qm_sL (qm_sL (qm_sL (qm_sL (qm_sL m 113 0 (lN r)) 113 2 (lN k)) 113 4 (lN l)) 113 1 (lN c)) 113 3 (lN kc)) 113 5 (lN lc)) := by
    show L_M_tell_28 (999998 + 1) (nI 1) _ = _
    rw [le_M_tell_28]
    unfold X_M_tell_28
    have q2 : nI 1 < (2 : Int32) := nI_lt (a := 1) (b := 2) (by omega) (by omega)
    have z0 : (0 : Int32) + nI 1 = nI 1 := nI_add 0 1
    have z2 : (2 : Int32) + nI 1 = nI 3 := nI_add 2 1
    have z4 : (4 : Int32) + nI 1 = nI 5 := nI_add 4 1
    rw [if_pos q2, z0, z2, z4]
    simp (disch := omega) only [qe_rI_e, qe_rL_e, qe_rV_e, qe_rR_e, qe_b_e, n10F, nI_lt0, nI_e0T, nI_e0F, nI_ltT, nI_ltF, nI_eqT, nI_eqF, qm_in_nI, nI_clamp, nI_1, nI_add, pk_mul, if_true, if_false, eq_self, me_1L, t1.1, t1.2.1, t1.2.2, nI_l]
  refine ⟨qm_sL (qm_sL (qm_sL (qm_sL (qm_sL (qm_sL (qm_sL m 113 0 (lN r)) 113 2 (lN k)) 113 4 (lN l)) 113 1 (lN c)) 113 3 (lN kc)) 113 5 (lN lc)) 113 6 (bn H), ?_, hm, rfl, fun a ha => ?_⟩
  · rw [e0, e1]
    show L_M_tell_28 (999997 + 1) (nI 2) _ = _
    rw [le_M_tell_28]
    unfold X_M_tell_28
    have q2 : ¬ nI 2 < (2 : Int32) := nI_nlt (a := 2) (b := 2) (by omega) (by omega)
    have eH : (qm_sL (qm_sL (qm_sL (qm_sL (qm_sL (qm_sL m 113 0 (lN r)) 113 2 (lN k)) 113 4 (lN l)) 113 1 (lN c)) 113 3 (lN kc)) 113 5 (lN lc)).2 112 31 = bn H := by
      simp only [me_2L]
      exact tH
    rw [if_neg q2, eH]
    dsimp only
    rw [mt_heads hm, qe_rI_e]
  · rw [(qm_sL_other a ha).2, (qm_sL_other a ha).2, (qm_sL_other a ha).2, (qm_sL_other a ha).2, (qm_sL_other a ha).2, (qm_sL_other a ha).2, (qm_sL_other a ha).2]
theorem tq.hi {m m1 : qm_M} (g : tq m m1) : hi_fr m m1 := ⟨fun a h => g.1 a (by omega) (by omega), fun a h => g.2.2 a (by omega)⟩
theorem mq.lo {m m1 : qm_M} (g : mq m m1) : lo_fr m m1 := ⟨fun a h => g.1 a (by omega) (by omega) (by omega) (by omega), fun a h => g.2.2 a (by omega)⟩
theorem w_tell : act2 F_T_tell F_M_tell := by
  intro mc mm s hc hm g
  obtain ⟨g1, g2, g3, g4, g5, g6⟩ := id g
  -- the bytes
  have hb : ∀ k, ∃ u, k < s.2.2.2.1 → u < 256 ∧ s.2.2.2.2 k = sx u ∧ s.2.2.2.2 k &&& 255 = nI u := fun k => by
    by_cases q : k < s.2.2.2.1
    · obtain ⟨u, u1, u2, u3⟩ := sx_ex (g6 k q)
      exact ⟨u, fun _ => ⟨u1, u2, u3⟩⟩
    · exact ⟨0, fun z => absurd z q⟩
  obtain ⟨T, hT⟩ := Classical.skolem.mp hb
  have hct : ct s.2.2.2.1 T mc := ⟨g5, hc.2.2.2.1, fun k hk => ⟨(hT k hk).1, (hc.2.2.2.2 k hk).trans (hT k hk).2.1⟩⟩
  have hmt : mtt s.2.2.2.1 T mm := ⟨g5, hm.2.2.2.2.1, fun k hk => ⟨(hT k hk).1, by rw [hm.2.2.2.2.2 k hk]; exact (hT k hk).2.2⟩⟩
  obtain ⟨a1, a2⟩ := nu_read hct
  obtain ⟨b1, b2⟩ := mt_readsText hmt
  have gs : gd (s.1, s.2.1, s.2.2.1, (0, s.2.2.2.2)) := ⟨g1, g2, g3, g4, Nat.zero_le _, fun k hk => absurd hk (Nat.not_lt_zero _)⟩
  unfold F_T_tell X_T_tell_e F_M_tell X_M_tell_e
  cases hr : rT s.2.2.2.1 T with
  | inl z =>
    obtain ⟨mc1, r1, r2⟩ := a1 z hr
    obtain ⟨mm1, t1, t2, t3⟩ := b1 z hr
    have zf := rT_f hr
    rw [r1, qe_rI_e, t1, qe_rI_e, if_pos rfl]
    dsimp only
    rw [if_neg (nI_nz zf.1 (by omega)), me_oth _ _ _ _ (Or.inr (by decide)), t2]
    exact ⟨_, (s.1, s.2.1, s.2.2.1, (0, s.2.2.2.2)), _, _, rfl, rfl, hc.tape0 r2, hm.tape0 t3, gs, r2.hi.tr (hi_fr.I _ (by omega)), t3.lo.tr (lo_fr.I _ (by omega))⟩
  | inr w =>
    obtain ⟨⟨r, k, l⟩, ⟨c, kc, lc⟩, H⟩ := w
    obtain ⟨mc1, r1, d0, d2, d4, d1, d3, d5, d6, r2⟩ := a2 r k l c kc lc H hr
    obtain ⟨mm1, t1, t2, t3, t4, t5⟩ := b2 r k l c kc lc H hr
    obtain ⟨v1, v2, v3⟩ := rT_v hr
    have hc1 := hc.tape0 r2
    have hm1 := hm.tape0 t5
    obtain ⟨mc2, p1, p2, p3⟩ := nu_push hc1 gs.2.1
    obtain ⟨i45, l45⟩ := nu_push45 hc1 p1
    have po45 : po 45 := by show 45 ∈ po_l; decide
    obtain ⟨mc3, q1, q2, q3, q4, q5⟩ := nu_becomeBoard po_1 po45 (by decide) mc2
    obtain ⟨mm2, y1, y2, y3, y4⟩ := mt_keepsAct hm1 gs.2.1
    have o45 : ∀ i, mc2.1 45 i = mc1.1 45 i := fun i => by rw [i45, me_oth _ _ _ _ (Or.inl (by decide))]
    have kk : ∀ o i, 130 ≤ o → o ≤ 132 → mm2.1 o i = mm1.1 o i := fun o i h1 h2 => by rw [y3, me_oth _ _ _ _ (Or.inl (by omega)), me_oth _ _ _ _ (Or.inl (by omega))]
    obtain ⟨mm3, u1, u2, u3, u4⟩ := mt_tell28 (P := s.1) (H := H) y2.2.1 (r := r) (k := k) (l := l) (c := c) (kc := kc) (lc := lc) (by rw [kk _ _ (by omega) (by omega), kk _ _ (by omega) (by omega), kk _ _ (by omega) (by omega)]; exact t2) (by rw [kk _ _ (by omega) (by omega), kk _ _ (by omega) (by omega), kk _ _ (by omega) (by omega)]; exact t3) (by rw [y4 112 (by omega)]; exact t4) (by omega) (by omega)
    have fr1 : px_fr 1 mc2 mc3 := ⟨fun x hx => q3 x hx, fun x hx _ _ => q5 x hx⟩
    have hcs : cs mc3 (st_act (s.1, s.2.1, s.2.2.1, (0, s.2.2.2.2)) (sB s.1 r k l c kc lc H)) := p2.now fr1 (fun j hj => by
      have hj' := p2.1 j hj
      show px_c mc3 1 j = sB s.1 r k l c kc lc H j
      unfold px_c at hj' ⊢
      unfold sB
      by_cases c1 : j < 6
      · rw [if_pos c1, q2, if_pos c1, o45]
        by_cases j0 : j = 0
        · subst j0; rw [d0, if_pos rfl, nI_l (by omega)]
        · by_cases j1 : j = 1
          · subst j1; rw [d1, if_neg j0, if_pos rfl, nI_l (by omega)]
          · by_cases j2 : j = 2
            · subst j2; rw [d2, if_neg j0, if_neg j1, if_pos rfl, nI_l (by omega)]
            · by_cases j3 : j = 3
              · subst j3; rw [d3, if_neg j0, if_neg j1, if_neg j2, if_pos rfl, nI_l (by omega)]
              · by_cases j4 : j = 4
                · subst j4; rw [d4, if_neg j0, if_neg j1, if_neg j2, if_neg j3, if_pos rfl, nI_l (by omega)]
                · have j5 : j = 5 := by omega
                  subst j5; rw [d5, if_neg j0, if_neg j1, if_neg j2, if_neg j3, if_neg j4, if_pos rfl, nI_l (by omega)]
      · rw [if_neg c1] at hj' ⊢
        rw [if_neg (show ¬ j = 0 by omega), if_neg (show ¬ j = 1 by omega), if_neg (show ¬ j = 2 by omega), if_neg (show ¬ j = 3 by omega), if_neg (show ¬ j = 4 by omega), if_neg (show ¬ j = 5 by omega)]
        by_cases c2 : j = 6
        · rw [if_pos c2, if_pos c2, q4, l45]
          exact d6
        · rw [if_neg c2] at hj' ⊢
          rw [if_neg c2]
          by_cases c3 : j < 15
          · rw [if_pos c3] at hj' ⊢
            rw [q5 _ (by omega)]; exact hj'
          · rw [if_neg c3] at hj' ⊢
            by_cases c4 : j < 17
            · rw [if_pos c4] at hj' ⊢
              rw [q2, if_neg (by omega)]; exact hj'
            · rw [if_neg c4] at hj' ⊢
              rw [q5 _ (by omega)]; exact hj')
    rw [r1, qe_rI_e, t1, qe_rI_e, if_neg n10]
    dsimp only
    rw [if_pos rfl, p1, qe_rV_e, q1, qe_rV_e, nu_headsShown hcs, qe_rI_e, y1, qe_rV_e, u1]
    refine ⟨_, st_act (s.1, s.2.1, s.2.2.1, (0, s.2.2.2.2)) (sB s.1 r k l c kc lc H), _, _, rfl, rfl, hcs, y2.now u3 u4 u2, gs.act (g1.board (by omega) (by omega) v3), ?_, ?_⟩
    · exact ((r2.hi.tr (hi_fr.I _ (by omega))).tr p3).tr (fr1.hi (by omega))
    · exact ((t5.lo.tr (lo_fr.I _ (by omega))).tr (mt_keepsAct_lo y3 y4)).tr ⟨fun a _ => by rw [u3], fun a ha => u4 a (by omega)⟩
