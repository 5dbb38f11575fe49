/-! the class reads a whole text -/
theorem le_Ta_read_98  (n : Nat) (v1 : Int32) (m : qm_M) : L_Ta_read_98 (n + 1) v1 m = X_Ta_read_98 F_Ta_readNumber F_Ta_readKind F_Ta_skipBlanks F_Ta_readHeads (L_Ta_read_98 n) v1 m := rfl
theorem nb_e_shl {a b : Nat} (ha : a < 6) (hb : b < 6) : qo_lshl (1 : Int64) (((6 : Int32) * nI a) + nI b) = bn (nb_e (6 * a + b)) := by
  rw [nI_6, no_lshl1 (by omega)]
def tq (m m1 : qm_M) : Prop := (∀ a, a ≠ 43 → a ≠ 45 → m1.1 a = m.1 a) ∧ m1.1 43 2 = m.1 43 2 ∧ ∀ a, a ≠ 45 → m1.2 a = m.2 a
theorem tq.rf (m : qm_M) : tq m m := ⟨fun _ _ _ => rfl, rfl, fun _ _ => rfl⟩
theorem tq.tr {m m1 m2 : qm_M} (h : tq m m1) (g : tq m1 m2) : tq m m2 := ⟨fun a x y => (g.1 a x y).trans (h.1 a x y), g.2.1.trans h.2.1, fun a x => (g.2.2 a x).trans (h.2.2 a x)⟩
theorem tq.I (m : qm_M) {j : Nat} (hj : j ≠ 2) (x : Int32) : tq m (qm_sI m 43 j x) := ⟨fun a h1 _ => (qm_sI_other a h1).1, me_oth _ _ _ _ (Or.inr (Ne.symm hj)), fun _ _ => rfl⟩
theorem tq.D (m : qm_M) (j : Nat) (x : Int32) : tq m (qm_sI m 45 j x) := ⟨fun a _ h2 => (qm_sI_other a h2).1, me_oth _ _ _ _ (Or.inl (by decide)), fun _ _ => rfl⟩
theorem tq.E (m : qm_M) (j : Nat) (x : Int64) : tq m (qm_sL m 45 j x) := ⟨fun _ _ _ => rfl, rfl, fun a h => (qm_sL_other a h).2⟩
theorem tq.ct {n : Nat} {T : Nat → Nat} {m m1 : qm_M} (g : tq m m1) (h : ct n T m) : ct n T m1 := ⟨h.1, g.2.1.trans h.2.1, fun k hk => ⟨(h.2.2 k hk).1, by rw [g.1 44 (by omega) (by omega)]; exact (h.2.2 k hk).2⟩⟩
theorem nI_nz {z : Nat} (h0 : 0 < z) (h : z ≤ 962) : ¬ nI z = 0 := nI_ne0 h0 (by omega)
/-- two numbers and their cell -/
theorem nu_heads25 {n p : Nat} {T : Nat → Nat} {m : qm_M} {r c : Nat} {H : nb_F} (h : ct n T m) (hp : m.1 43 3 = nI p) (hpn : p ≤ n) (h4 : m.1 43 4 = 0) (hr : 0 < r ∧ r ≤ 6) (hc : 0 < c ∧ c ≤ 6) (e0 : m.1 45 0 = nI r) (e1 : m.1 45 1 = nI c) (e6 : m.2 45 6 = bn H) :
    (∀ z, rN n T 0 (r - 1) p = .inl z → ∃ m1, L_Ta_readHeads_25 m = some (none, m1) ∧ m1.1 43 4 = nI z ∧ tq m m1) ∧
    (∀ x, rN n T 0 (r - 1) p = .inr x → (∀ z, rN n T 0 (c - 1) x.2 = .inl z → ∃ m1, L_Ta_readHeads_25 m = some (none, m1) ∧ m1.1 43 4 = nI z ∧ tq m m1) ∧
      ∀ y, rN n T 0 (c - 1) x.2 = .inr y → ∃ m1, L_Ta_readHeads_25 m = some (none, m1) ∧ m1.1 43 4 = 0 ∧ m1.1 43 3 = nI y.2 ∧ m1.2 45 6 = bn (H ||| nb_e (6 * x.1 + y.1)) ∧ m1.1 45 = m.1 45 ∧ tq m m1) := by
  have hn := h.1
  have er : nI r - 1 = nI (r - 1) := pk_sub (b := 1) (by omega)
  have ec : nI c - 1 = nI (c - 1) := pk_sub (b := 1) (by omega)
  obtain ⟨a1, a2⟩ := nu_readNumber h hp hpn h4 (lo := 0) (hi := r - 1) (by omega) (by omega)
  have hb : L_Ta_readHeads_25 m = qe_rI (F_Ta_readNumber (nI 0) (nI (r - 1)) m) fun x1 m1 => qe_rI (F_Ta_readNumber (0 : Int32) ((m1.1 45 1) - (1 : Int32)) m1) fun x2 m2 => if (m2.1 43 4) = 0 then qe_rL (F_Ps_bitOf x1 x2 m2) fun x3 m3 => some (none, qm_sL m3 45 6 ((m2.2 45 6) ||| x3)) else some (none, m2) := by
    unfold L_Ta_readHeads_25 X_Ta_readHeads_25
    rw [e0, er]
    rfl
  rw [hb]
  refine ⟨fun z hz => ?_, fun x hx => ⟨fun z hz => ?_, fun y hy => ?_⟩⟩
  · obtain ⟨v, q, e⟩ := a1 z hz
    have zf := rN_f hpn hz
    have nz : ¬ (qm_sI (qm_sI m 43 3 (nI q)) 43 4 (nI z)).1 43 4 = 0 := by rw [me_self]; exact nI_nz zf.1 (by omega)
    rw [e, qe_rI_e, nu_readNumber0 nz, qe_rI_e, if_neg nz]
    exact ⟨_, rfl, me_self _ _ _ _, (tq.I m (by omega) _).tr (tq.I _ (by omega) _)⟩
  all_goals
    obtain ⟨a, q⟩ := x
    have v1 := rN_v hpn hx
    have e := a2 a q hx
    have hm1 := h.st (j := 3) (by omega) (nI q)
    have hc1 : (qm_sI m 43 3 (nI q)).1 45 1 - 1 = nI (c - 1) := by rw [me_oth _ _ _ _ (Or.inl (by decide)), e1, ec]
    obtain ⟨b1, b2⟩ := nu_readNumber hm1 (me_self _ _ _ _) v1.2.2.1 (by rw [me_oth _ _ _ _ (Or.inr (by decide))]; exact h4) (lo := 0) (hi := c - 1) (by omega) (by omega)
    rw [e, qe_rI_e, hc1]
  · obtain ⟨v, q3, e3⟩ := b1 z hz
    have zf := rN_f v1.2.2.1 hz
    have nz : ¬ (qm_sI (qm_sI (qm_sI m 43 3 (nI q)) 43 3 (nI q3)) 43 4 (nI z)).1 43 4 = 0 := by rw [me_self]; exact nI_nz zf.1 (by omega)
    have e3' : F_Ta_readNumber 0 (nI (c - 1)) (qm_sI m 43 3 (nI q)) = _ := e3
    rw [e3', qe_rI_e, if_neg nz]
    exact ⟨_, rfl, me_self _ _ _ _, ((tq.I m (by omega) _).tr (tq.I _ (by omega) _)).tr (tq.I _ (by omega) _)⟩
  · obtain ⟨b, q3⟩ := y
    have v2 := rN_v v1.2.2.1 hy
    have e3 := b2 b q3 hy
    have e3' : F_Ta_readNumber 0 (nI (c - 1)) (qm_sI m 43 3 (nI q)) = _ := e3
    rw [e3', qe_rI_e, me_sII]
    have z4 : (qm_sI m 43 3 (nI q3)).1 43 4 = 0 := by rw [me_oth _ _ _ _ (Or.inr (by decide))]; exact h4
    unfold F_Ps_bitOf X_Ps_bitOf_e
    rw [if_pos z4, qe_rL_e, nb_e_shl (by omega) (by omega)]
    refine ⟨_, rfl, z4, ?_, ?_, ?_, (tq.I m (by omega) _).tr (tq.E _ _ _)⟩
    · show (qm_sI m 43 3 (nI q3)).1 43 3 = nI q3
      exact me_self _ _ _ _
    · rw [me_2L, if_pos rfl, if_pos rfl, me_2I, e6]
      rfl
    · rw [me_1L]
      exact (qm_sI_other 45 (by decide)).1
/-- one word and its numbers -/
theorem nu_readHeads {n s : Nat} {T : Nat → Nat} {m : qm_M} {r c : Nat} {H : nb_F} (h : ct n T m) (hp : m.1 43 3 = nI s) (hsn : s ≤ n) (h4 : m.1 43 4 = 0) (hr : 0 < r ∧ r ≤ 6) (hc : 0 < c ∧ c ≤ 6) (e0 : m.1 45 0 = nI r) (e1 : m.1 45 1 = nI c) (e6 : m.2 45 6 = bn H) :
    (∀ z, rS n T r c s H = .inl z → ∃ m1, F_Ta_readHeads m = some (none, m1) ∧ m1.1 43 4 = nI z ∧ tq m m1) ∧
    (∀ x, rS n T r c s H = .inr x → ∃ m1, F_Ta_readHeads m = some (none, m1) ∧ m1.1 43 4 = 0 ∧ m1.1 43 3 = nI x.1 ∧ m1.2 45 6 = bn x.2 ∧ m1.1 45 = m.1 45 ∧ tq m m1) := by
  have hn := h.1
  have he := te_le (fun k => cL (T k)) hsn
  have hse := te_ge (fun k => cL (T k)) n s
  have hw := nu_readWord h hp hsn
  unfold rS
  generalize te (fun k => cL (T k)) n s = e at *
  have hm1 := h.st (j := 3) (by omega) (nI e)
  have hz := nu_isWord hm1 (w := 4) (by omega) (me_self _ _ _ _) hse he
  have m4 : (qm_sI m 43 3 (nI e)).1 43 4 = 0 := by rw [me_oth _ _ _ _ (Or.inr (by decide))]; exact h4
  unfold F_Ta_readHeads X_Ta_readHeads_e
  rw [hw, qe_rV_e, hp, hz, qe_rI_e]
  by_cases cw : wq T s e 4 = true
  · rw [if_pos cw, if_pos cw, if_neg n10]
    obtain ⟨k1, k2⟩ := nu_heads25 (m := qm_sI m 43 3 (nI e)) (r := r) (c := c) (H := H) hm1 (me_self _ _ _ _) he m4 hr hc (by rw [me_oth _ _ _ _ (Or.inl (by decide))]; exact e0) (by rw [me_oth _ _ _ _ (Or.inl (by decide))]; exact e1) e6
    have fr0 := tq.I m (j := 3) (by omega) (nI e)
    have s45 : (qm_sI m 43 3 (nI e)).1 45 = m.1 45 := (qm_sI_other 45 (by decide)).1
    cases hx : rN n T 0 (r - 1) e with
    | inl z0 =>
      obtain ⟨m1, r1, r2, r3⟩ := k1 z0 hx
      refine ⟨fun z hz => ?_, fun x hz => (by cases hz)⟩
      rw [← Sum.inl.inj hz]
      exact ⟨m1, r1, r2, fr0.tr r3⟩
    | inr x =>
      obtain ⟨l1, l2⟩ := k2 x hx
      dsimp only
      cases hy : rN n T 0 (c - 1) x.2 with
      | inl z0 =>
        obtain ⟨m1, r1, r2, r3⟩ := l1 z0 hy
        refine ⟨fun z hz => ?_, fun x hz => (by cases hz)⟩
        rw [← Sum.inl.inj hz]
        exact ⟨m1, r1, r2, fr0.tr r3⟩
      | inr y =>
        obtain ⟨m1, r1, r2, r3, r4, r5, r6⟩ := l2 y hy
        refine ⟨fun z hz => (by cases hz), fun w hz => ?_⟩
        rw [← Sum.inr.inj hz]
        exact ⟨m1, r1, r2, r3, r4, r5.trans s45, fr0.tr r6⟩
  · rw [if_neg cw, if_neg cw, if_pos rfl, show (1 : Int32) = nI 1 from rfl, nu_blame0 m4, qe_rV_e]
    refine ⟨fun z hz => ?_, fun x hz => (by cases hz)⟩
    rw [← Sum.inl.inj hz]
    have nz : ¬ (qm_sI (qm_sI m 43 3 (nI e)) 43 4 (nI (8 * s + 1))).1 43 4 = 0 := by rw [me_self]; exact nI_nz (by omega) (by omega)
    refine ⟨qm_sI (qm_sI m 43 3 (nI e)) 43 4 (nI (8 * s + 1)), ?_, me_self _ _ _ _, (tq.I m (by omega) _).tr (tq.I _ (by omega) _)⟩
    unfold L_Ta_readHeads_25 X_Ta_readHeads_25
    rw [nu_readNumber0 nz, qe_rI_e, nu_readNumber0 nz, qe_rI_e, if_neg nz]
theorem nu_read98z {m : qm_M} {z : Nat} (h0 : 0 < z) (hz : z ≤ 962) (h : m.1 43 4 = nI z) (f : Nat) (i : Int32) : L_Ta_read_98 (f + 1) i m = some (some (.int (nI z)), m) := by
  rw [le_Ta_read_98]
  unfold X_Ta_read_98
  rw [h, if_neg (nI_nz h0 hz)]
  by_cases q : i < 120
  · rw [if_pos q]
  · rw [if_neg q]
theorem nu_read98 {n : Nat} {T : Nat → Nat} {r c : Nat} (hr : 0 < r ∧ r ≤ 6) (hc : 0 < c ∧ c ≤ 6) : ∀ d f i p H m, 120 - i = d → i ≤ 120 → d + 1 < f → ct n T m → m.1 43 3 = nI p → p ≤ n → m.1 43 4 = 0 → m.1 45 0 = nI r → m.1 45 1 = nI c → m.2 45 6 = bn H →
    (∀ z, rH n T r c d p H = .inl z → ∃ m1, L_Ta_read_98 f (nI i) m = some (some (.int (nI z)), m1) ∧ tq m m1) ∧ (∀ H1, rH n T r c d p H = .inr H1 → ∃ m1, L_Ta_read_98 f (nI i) m = some (some (.int 0), m1) ∧ m1.2 45 6 = bn H1 ∧ m1.1 45 = m.1 45 ∧ tq m m1) := by
  intro d
  induction d with
  | zero =>
    intro f i p H m h1 h2 h3 h hp hpn h4 e0 e1 e6
    obtain ⟨f, rfl⟩ : ∃ g, f = g + 1 := ⟨f - 1, by omega⟩
    have ei : i = 120 := by omega
    subst ei
    have e12 : ¬ nI 120 < (120 : Int32) := nI_nlt (a := 120) (b := 120) (by omega) (by omega)
    refine ⟨fun z hz => (by cases hz), fun H1 hz => ⟨m, ?_, ?_, rfl, tq.rf m⟩⟩
    · rw [le_Ta_read_98]
      unfold X_Ta_read_98
      rw [if_neg e12, h4]
    · rw [← Sum.inr.inj hz]; exact e6
  | succ d ih =>
    intro f i p H m h1 h2 h3 h hp hpn h4 e0 e1 e6
    obtain ⟨f, rfl⟩ : ∃ g, f = g + 1 := ⟨f - 1, by omega⟩
    have hn := h.1
    have e12 : nI i < (120 : Int32) := nI_lt (a := i) (b := 120) (by omega) (by omega)
    have hs := te_le (fun k => cB (T k)) hpn
    have hb := nu_skipBlanks h hp hpn
    rw [le_Ta_read_98]
    unfold X_Ta_read_98
    rw [if_pos e12, if_pos h4, hb, qe_rV_e, me_self, rH_s]
    generalize te (fun k => cB (T k)) n p = s at *
    have hm1 := h.st (j := 3) (by omega) (nI s)
    have n2 : (qm_sI m 43 3 (nI s)).1 43 2 = nI n := hm1.2.1
    have fr0 := tq.I m (j := 3) (by omega) (nI s)
    have s45 : (qm_sI m 43 3 (nI s)).1 45 = m.1 45 := (qm_sI_other 45 (by decide)).1
    rw [n2]
    by_cases q : n ≤ s
    · rw [if_pos q, if_neg (nI_nlt q (by omega))]
      exact ⟨fun z hz => (by cases hz), fun H1 hz => ⟨_, rfl, by rw [← Sum.inr.inj hz]; exact e6, s45, fr0⟩⟩
    · rw [if_neg q, if_pos (nI_lt (by omega) (by omega)), nI_1]
      obtain ⟨k1, k2⟩ := nu_readHeads (m := qm_sI m 43 3 (nI s)) (r := r) (c := c) (H := H) hm1 (me_self _ _ _ _) hs (by rw [me_oth _ _ _ _ (Or.inr (by decide))]; exact h4) hr hc (by rw [s45]; exact e0) (by rw [s45]; exact e1) e6
      cases hx : rS n T r c s H with
      | inl z0 =>
        obtain ⟨m1, r1, r2, r3⟩ := k1 z0 hx
        have zf := rS_f hs hx
        obtain ⟨g, rfl⟩ : ∃ g, f = g + 1 := ⟨f - 1, by omega⟩
        rw [r1, qe_rV_e, nu_read98z zf.1 (by omega) r2]
        exact ⟨fun z hz => ⟨m1, by rw [Sum.inl.inj hz], fr0.tr r3⟩, fun H1 hz => (by cases hz)⟩
      | inr x =>
        obtain ⟨m1, r1, r2, r3, r4, r5, r6⟩ := k2 x hx
        have v1 := rS_v hr.1 hc hs hx
        rw [r1, qe_rV_e]
        obtain ⟨j1, j2⟩ := ih f (i + 1) x.1 x.2 m1 (by omega) (by omega) (by omega) (r6.ct hm1) r3 v1.1 r2 (by rw [r5, s45]; exact e0) (by rw [r5, s45]; exact e1) r4
        refine ⟨fun z hz => ?_, fun H1 hz => ?_⟩
        · obtain ⟨m2, b1, b2⟩ := j1 z hz
          exact ⟨m2, b1, (fr0.tr r6).tr b2⟩
        · obtain ⟨m2, b1, b2, b3, b4⟩ := j2 H1 hz
          exact ⟨m2, b1, b2, b3.trans (r5.trans s45), (fr0.tr r6).tr b4⟩
/-- a side: how many, a rule, its limit -/
def rD (n : Nat) (T : Nat → Nat) (p : Nat) : Nat ⊕ (Nat × Nat × Nat × Nat) :=
  match rN n T 1 6 p with
  | .inl z => .inl z
  | .inr x => match rK n T x.2 with
    | .inl z => .inl z
    | .inr k => match rN n T 1 8 k.2 with
      | .inl z => .inl z
      | .inr y => .inr (x.1, k.1, y.1, y.2)
theorem rD_f {n : Nat} {T : Nat → Nat} {p z : Nat} (hp : p ≤ n) (h : rD n T p = .inl z) : 0 < z ∧ z ≤ 8 * n + 2 := by
  unfold rD at h
  split at h
  · rename_i y e1
    rw [← Sum.inl.inj h]; exact rN_f hp e1
  · rename_i x e1
    have v1 := rN_v (v := x.1) (q := x.2) hp e1
    split at h
    · rename_i y e2
      rw [← Sum.inl.inj h]; exact rK_f v1.2.2.1 e2
    · rename_i k e2
      have v2 := rK_v (v := k.1) (q := k.2) v1.2.2.1 e2
      split at h
      · rename_i y e3
        rw [← Sum.inl.inj h]; exact rN_f v2.2.1 e3
      · cases h
theorem rD_v {n : Nat} {T : Nat → Nat} {p r k l q : Nat} (hp : p ≤ n) (h : rD n T p = .inr (r, k, l, q)) : 1 ≤ r ∧ r ≤ 6 ∧ k ≤ 3 ∧ 1 ≤ l ∧ l ≤ 8 ∧ q ≤ n := by
  unfold rD at h
  split at h
  · cases h
  · rename_i x e1
    have v1 := rN_v (v := x.1) (q := x.2) hp e1
    split at h
    · cases h
    · rename_i k e2
      have v2 := rK_v (v := k.1) (q := k.2) v1.2.2.1 e2
      split at h
      · cases h
      · rename_i y e3
        have v3 := rN_v (v := y.1) (q := y.2) v2.2.1 e3
        cases h
        omega
/-- a whole text: the fault, or a board -/
def rT (n : Nat) (T : Nat → Nat) : Nat ⊕ ((Nat × Nat × Nat) × (Nat × Nat × Nat) × nb_F) :=
  match rD n T 0 with
  | .inl z => .inl z
  | .inr x => match rD n T x.2.2.2 with
    | .inl z => .inl z
    | .inr y => match rH n T x.1 y.1 120 y.2.2.2 0 with
      | .inl z => .inl z
      | .inr H => .inr ((x.1, x.2.1, x.2.2.1), (y.1, y.2.1, y.2.2.1), H)
theorem rT_v {n : Nat} {T : Nat → Nat} {r k l r2 k2 l2 : Nat} {H : nb_F} (h : rT n T = .inr ((r, k, l), (r2, k2, l2), H)) : (1 ≤ r ∧ r ≤ 6 ∧ k ≤ 3 ∧ 1 ≤ l ∧ l ≤ 8) ∧ (1 ≤ r2 ∧ r2 ≤ 6 ∧ k2 ≤ 3 ∧ 1 ≤ l2 ∧ l2 ≤ 8) ∧ hbd r r2 H := by
  unfold rT at h
  split at h
  · cases h
  · rename_i x e1
    obtain ⟨xa, xb, xc, xd⟩ := x
    have v1 := rD_v (Nat.zero_le _) e1
    split at h
    · cases h
    · rename_i y e2
      obtain ⟨ya, yb, yc, yd⟩ := y
      have v2 := rD_v v1.2.2.2.2.2 e2
      split at h
      · cases h
      · rename_i H1 e3
        have v3 := rH_bd (r := xa) (c := ya) (by omega) (by omega) 120 yd 0 H1 v2.2.2.2.2.2 (fun i hi => by rw [show (0 : nb_F).getLsbD i = false from BitVec.getLsbD_zero] at hi; cases hi) e3
        cases h
        exact ⟨⟨v1.1, v1.2.1, v1.2.2.1, v1.2.2.2.1, v1.2.2.2.2.1⟩, ⟨v2.1, v2.2.1, v2.2.2.1, v2.2.2.2.1, v2.2.2.2.2.1⟩, v3⟩
theorem rT_f {n : Nat} {T : Nat → Nat} {z : Nat} (h : rT n T = .inl z) : 0 < z ∧ z ≤ 8 * n + 2 := by
  unfold rT at h
  split at h
  · rename_i y e1
    rw [← Sum.inl.inj h]; exact rD_f (Nat.zero_le _) e1
  · rename_i x e1
    obtain ⟨xa, xb, xc, xd⟩ := x
    have v1 := rD_v (Nat.zero_le _) e1
    split at h
    · rename_i y e2
      rw [← Sum.inl.inj h]; exact rD_f v1.2.2.2.2.2 e2
    · rename_i y e2
      obtain ⟨ya, yb, yc, yd⟩ := y
      have v2 := rD_v v1.2.2.2.2.2 e2
      split at h
      · rename_i w e3
        rw [← Sum.inl.inj h]; exact rH_f (by omega) (by omega) 120 yd 0 w v2.2.2.2.2.2 e3
      · cases h
/-- the class reads a side: fields a, b, e of the draft -/
theorem nu_side {n p : Nat} {T : Nat → Nat} {m : qm_M} (h : ct n T m) (hp : m.1 43 3 = nI p) (hpn : p ≤ n) (h4 : m.1 43 4 = 0) (a b e : Nat) (hab : a ≠ b ∧ a ≠ e ∧ b ≠ e) :
    (∀ z, rD n T p = .inl z → ∃ m1, (∀ K : qm_M → Option qm_R, (qe_rI (F_Ta_readNumber 1 6 m) fun x1 m3 => qe_rI (F_Ta_readKind (qm_sI m3 45 a x1)) fun x2 m5 => qe_rI (F_Ta_readNumber 1 8 (qm_sI m5 45 b x2)) fun x3 m7 => K (qm_sI m7 45 e x3)) = K m1) ∧ m1.1 43 4 = nI z ∧ tq m m1) ∧
    (∀ r k l q, rD n T p = .inr (r, k, l, q) → ∃ m1, (∀ K : qm_M → Option qm_R, (qe_rI (F_Ta_readNumber 1 6 m) fun x1 m3 => qe_rI (F_Ta_readKind (qm_sI m3 45 a x1)) fun x2 m5 => qe_rI (F_Ta_readNumber 1 8 (qm_sI m5 45 b x2)) fun x3 m7 => K (qm_sI m7 45 e x3)) = K m1) ∧ m1.1 43 4 = 0 ∧ m1.1 43 3 = nI q ∧ m1.1 45 a = nI r ∧ m1.1 45 b = nI k ∧ m1.1 45 e = nI l ∧ (∀ i, i ≠ a → i ≠ b → i ≠ e → m1.1 45 i = m.1 45 i) ∧ tq m m1) := by
  have hn := h.1
  obtain ⟨a1, a2⟩ := nu_readNumber h hp hpn h4 (lo := 1) (hi := 6) (by omega) (by omega)
  have d4 : ∀ (m : qm_M) (j : Nat) (x : Int32) (i : Nat), (qm_sI m 45 j x).1 43 i = m.1 43 i := fun m j x i => me_oth _ _ _ _ (Or.inl (by decide))
  have d5 : ∀ (m : qm_M) (j : Nat) (x : Int32) (i : Nat), (qm_sI m 43 j x).1 45 i = m.1 45 i := fun m j x i => me_oth _ _ _ _ (Or.inl (by decide))
  unfold rD
  cases h1 : rN n T 1 6 p with
  | inl z0 =>
    refine ⟨fun z hz => ?_, fun r k l q hz => (by cases hz)⟩
    rw [← Sum.inl.inj hz]
    obtain ⟨v, q, e1⟩ := a1 z0 h1
    have e1' : F_Ta_readNumber 1 6 m = _ := e1
    have zf := rN_f hpn h1
    have nz0 : ¬ nI z0 = 0 := nI_nz zf.1 (by omega)
    have nz1 : ¬ (qm_sI (qm_sI (qm_sI m 43 3 (nI q)) 43 4 (nI z0)) 45 a v).1 43 4 = 0 := by rw [d4, me_self]; exact nz0
    have nz2 : ¬ (qm_sI (qm_sI (qm_sI (qm_sI m 43 3 (nI q)) 43 4 (nI z0)) 45 a v) 45 b 0).1 43 4 = 0 := by rw [d4]; exact nz1
    refine ⟨qm_sI (qm_sI (qm_sI (qm_sI (qm_sI m 43 3 (nI q)) 43 4 (nI z0)) 45 a v) 45 b 0) 45 e 0, fun K => ?_, ?_, ?_⟩
    · rw [e1', qe_rI_e, nu_readKind0 nz1, qe_rI_e, nu_readNumber0 nz2, qe_rI_e]
    · rw [d4, d4, d4, me_self]
    · exact ((((tq.I m (by omega) _).tr (tq.I _ (by omega) _)).tr (tq.D _ _ _)).tr (tq.D _ _ _)).tr (tq.D _ _ _)
  | inr x =>
    obtain ⟨r, q⟩ := x
    have v1 := rN_v hpn h1
    have e1 := a2 r q h1
    have e1' : F_Ta_readNumber 1 6 m = _ := e1
    have g1 : tq m (qm_sI (qm_sI m 43 3 (nI q)) 45 a (nI r)) := (tq.I m (by omega) _).tr (tq.D _ _ _)
    have p1 : (qm_sI (qm_sI m 43 3 (nI q)) 45 a (nI r)).1 43 3 = nI q := by rw [d4, me_self]
    have z1 : (qm_sI (qm_sI m 43 3 (nI q)) 45 a (nI r)).1 43 4 = 0 := by rw [d4, me_oth _ _ _ _ (Or.inr (by decide))]; exact h4
    obtain ⟨b1, b2⟩ := nu_readKind (g1.ct h) p1 v1.2.2.1 z1
    dsimp only
    cases h2 : rK n T q with
    | inl z0 =>
      refine ⟨fun z hz => ?_, fun r k l q hz => (by cases hz)⟩
      rw [← Sum.inl.inj hz]
      obtain ⟨v, q2, e2⟩ := b1 z0 h2
      have zf := rK_f v1.2.2.1 h2
      have nz0 : ¬ nI z0 = 0 := nI_nz zf.1 (by omega)
      have nz2 : ¬ (qm_sI (qm_sI (qm_sI (qm_sI (qm_sI m 43 3 (nI q)) 45 a (nI r)) 43 3 (nI q2)) 43 4 (nI z0)) 45 b v).1 43 4 = 0 := by rw [d4, me_self]; exact nz0
      refine ⟨qm_sI (qm_sI (qm_sI (qm_sI (qm_sI (qm_sI m 43 3 (nI q)) 45 a (nI r)) 43 3 (nI q2)) 43 4 (nI z0)) 45 b v) 45 e 0, fun K => ?_, ?_, ?_⟩
      · rw [e1', qe_rI_e, e2, qe_rI_e, nu_readNumber0 nz2, qe_rI_e]
      · rw [d4, d4, me_self]
      · exact (((g1.tr (tq.I _ (by omega) _)).tr (tq.I _ (by omega) _)).tr (tq.D _ _ _)).tr (tq.D _ _ _)
    | inr x =>
      obtain ⟨k, q2⟩ := x
      have v2 := rK_v v1.2.2.1 h2
      have e2 := b2 k q2 h2
      have g2 : tq m (qm_sI (qm_sI (qm_sI (qm_sI m 43 3 (nI q)) 45 a (nI r)) 43 3 (nI q2)) 45 b (nI k)) := (g1.tr (tq.I _ (by omega) _)).tr (tq.D _ _ _)
      have p2 : (qm_sI (qm_sI (qm_sI (qm_sI m 43 3 (nI q)) 45 a (nI r)) 43 3 (nI q2)) 45 b (nI k)).1 43 3 = nI q2 := by rw [d4, me_self]
      have z2 : (qm_sI (qm_sI (qm_sI (qm_sI m 43 3 (nI q)) 45 a (nI r)) 43 3 (nI q2)) 45 b (nI k)).1 43 4 = 0 := by rw [d4, me_oth _ _ _ _ (Or.inr (by decide))]; exact z1
      obtain ⟨c1, c2⟩ := nu_readNumber (g2.ct h) p2 v2.2.1 z2 (lo := 1) (hi := 8) (by omega) (by omega)
      dsimp only
      cases h3 : rN n T 1 8 q2 with
      | inl z0 =>
        refine ⟨fun z hz => ?_, fun r k l q hz => (by cases hz)⟩
        rw [← Sum.inl.inj hz]
        obtain ⟨v, q3, e3⟩ := c1 z0 h3
        have e3' : F_Ta_readNumber 1 8 (qm_sI (qm_sI (qm_sI (qm_sI m 43 3 (nI q)) 45 a (nI r)) 43 3 (nI q2)) 45 b (nI k)) = _ := e3
        refine ⟨qm_sI (qm_sI (qm_sI (qm_sI (qm_sI (qm_sI (qm_sI m 43 3 (nI q)) 45 a (nI r)) 43 3 (nI q2)) 45 b (nI k)) 43 3 (nI q3)) 43 4 (nI z0)) 45 e v, fun K => ?_, ?_, ?_⟩
        · rw [e1', qe_rI_e, e2, qe_rI_e, e3', qe_rI_e]
        · rw [d4, me_self]
        · exact ((g2.tr (tq.I _ (by omega) _)).tr (tq.I _ (by omega) _)).tr (tq.D _ _ _)
      | inr x =>
        obtain ⟨l, q3⟩ := x
        have e3 := c2 l q3 h3
        have e3' : F_Ta_readNumber 1 8 (qm_sI (qm_sI (qm_sI (qm_sI m 43 3 (nI q)) 45 a (nI r)) 43 3 (nI q2)) 45 b (nI k)) = _ := e3
        refine ⟨fun z hz => (by cases hz), fun r1 k1 l1 q1 hz => ?_⟩
        cases hz
        refine ⟨qm_sI (qm_sI (qm_sI (qm_sI (qm_sI (qm_sI m 43 3 (nI q)) 45 a (nI r)) 43 3 (nI q2)) 45 b (nI k)) 43 3 (nI q3)) 45 e (nI l), fun K => ?_, ?_, ?_, ?_, ?_, ?_, fun i i1 i2 i3 => ?_, ?_⟩
        · rw [e1', qe_rI_e, e2, qe_rI_e, e3', qe_rI_e]
        · rw [d4, me_oth _ _ _ _ (Or.inr (by decide))]; exact z2
        · rw [d4, me_self]
        · rw [me_oth _ _ _ _ (Or.inr hab.2.1), d5, me_oth _ _ _ _ (Or.inr hab.1), d5, me_self]
        · rw [me_oth _ _ _ _ (Or.inr hab.2.2), d5, me_self]
        · rw [me_self]
        · rw [me_oth _ _ _ _ (Or.inr i3), d5, me_oth _ _ _ _ (Or.inr i2), d5, me_oth _ _ _ _ (Or.inr i1), d5]
        · exact (g2.tr (tq.I _ (by omega) _)).tr (tq.D _ _ _)
/-- the class reads -/
theorem nu_read {n : Nat} {T : Nat → Nat} {m : qm_M} (h : ct n T m) :
    (∀ z, rT n T = .inl z → ∃ m1, F_Ta_read m = some (some (.int (nI z)), m1) ∧ tq m m1) ∧
    (∀ r k l r2 k2 l2 H, rT n T = .inr ((r, k, l), (r2, k2, l2), H) → ∃ m1, F_Ta_read m = some (some (.int 0), m1) ∧ m1.1 45 0 = nI r ∧ m1.1 45 2 = nI k ∧ m1.1 45 4 = nI l ∧ m1.1 45 1 = nI r2 ∧ m1.1 45 3 = nI k2 ∧ m1.1 45 5 = nI l2 ∧ m1.2 45 6 = bn H ∧ tq m m1) := by
  have hn := h.1
  have g0 : tq m (qm_sI (qm_sI m 43 3 0) 43 4 0) := (tq.I m (by omega) _).tr (tq.I _ (by omega) _)
  obtain ⟨a1, a2⟩ := nu_side (g0.ct h) (p := 0) (by rw [me_oth _ _ _ _ (Or.inr (by decide)), me_self]; rfl) (Nat.zero_le _) (me_self _ _ _ _) 0 2 4 (by decide)
  obtain ⟨K1, k1⟩ : ∃ K1 : qm_M → Option qm_R, ∀ m9, K1 m9 = L_Ta_read_98 1000000 0 (qm_sL m9 45 6 0) := ⟨_, fun _ => rfl⟩
  obtain ⟨K2, k2⟩ : ∃ K2 : qm_M → Option qm_R, ∀ m8, K2 m8 = qe_rI (F_Ta_readNumber 1 6 m8) fun x1 m3 => qe_rI (F_Ta_readKind (qm_sI m3 45 1 x1)) fun x2 m5 => qe_rI (F_Ta_readNumber 1 8 (qm_sI m5 45 3 x2)) fun x3 m7 => K1 (qm_sI m7 45 5 x3) := ⟨_, fun _ => rfl⟩
  have hb : F_Ta_read m = (qe_rI (F_Ta_readNumber 1 6 (qm_sI (qm_sI m 43 3 0) 43 4 0)) fun x1 m3 => qe_rI (F_Ta_readKind (qm_sI m3 45 0 x1)) fun x2 m5 => qe_rI (F_Ta_readNumber 1 8 (qm_sI m5 45 2 x2)) fun x3 m7 => K2 (qm_sI m7 45 4 x3)) := by
    simp only [k2, k1]
    rfl
  rw [hb]
  unfold rT
  cases h1 : rD n T 0 with
  | inl z0 =>
    obtain ⟨m1, r1, r2, r3⟩ := a1 z0 h1
    have zf := rD_f (Nat.zero_le _) h1
    have nz : ¬ m1.1 43 4 = 0 := by rw [r2]; exact nI_nz zf.1 (by omega)
    refine ⟨fun z hz => ?_, fun r k l r2 k2 l2 H hz => (by cases hz)⟩
    rw [← Sum.inl.inj hz, r1 K2, k2]
    have d4 : ∀ (m : qm_M) (j : Nat) (x : Int32) (i : Nat), (qm_sI m 45 j x).1 43 i = m.1 43 i := fun m j x i => me_oth _ _ _ _ (Or.inl (by decide))
    have nz1 : ¬ (qm_sI m1 45 1 0).1 43 4 = 0 := by rw [d4]; exact nz
    have nz2 : ¬ (qm_sI (qm_sI m1 45 1 0) 45 3 0).1 43 4 = 0 := by rw [d4]; exact nz1
    have ez : (qm_sL (qm_sI (qm_sI (qm_sI m1 45 1 0) 45 3 0) 45 5 0) 45 6 0).1 43 4 = nI z0 := by rw [me_1L, d4, d4, d4]; exact r2
    rw [nu_readNumber0 nz, qe_rI_e, nu_readKind0 nz1, qe_rI_e, nu_readNumber0 nz2, qe_rI_e, k1]
    have ee := nu_read98z zf.1 (by omega) ez 999999 0
    exact ⟨_, ee, (((((g0.tr r3).tr (tq.D _ _ _)).tr (tq.D _ _ _)).tr (tq.D _ _ _)).tr (tq.E _ _ _))⟩
  | inr x =>
    obtain ⟨r, k, l, q⟩ := x
    obtain ⟨m1, r1, r2, r3, r4, r5, r6, r7, r8⟩ := a2 r k l q h1
    have v1 := rD_v (Nat.zero_le _) h1
    rw [r1 K2, k2]
    obtain ⟨b1, b2⟩ := nu_side ((g0.tr r8).ct h) r3 v1.2.2.2.2.2 r2 1 3 5 (by decide)
    dsimp only
    cases h2 : rD n T q with
    | inl z0 =>
      obtain ⟨m2, s1, s2, s3⟩ := b1 z0 h2
      have zf := rD_f v1.2.2.2.2.2 h2
      refine ⟨fun z hz => ?_, fun r k l r2 k2 l2 H hz => (by cases hz)⟩
      rw [← Sum.inl.inj hz]
      rw [s1 K1, k1]
      exact ⟨_, nu_read98z zf.1 (by omega) (m := qm_sL m2 45 6 0) s2 999999 0, ((g0.tr r8).tr s3).tr (tq.E _ _ _)⟩
    | inr y =>
      obtain ⟨c, kc, lc, q2⟩ := y
      obtain ⟨m2, s1, s2, s3, s4, s5, s6, s7, s8⟩ := b2 c kc lc q2 h2
      have v2 := rD_v v1.2.2.2.2.2 h2
      rw [s1 K1, k1]
      have gA := ((g0.tr r8).tr s8).tr (tq.E m2 6 0)
      obtain ⟨c1, c2⟩ := nu_read98 (n := n) (T := T) (r := r) (c := c) (by omega) (by omega) 120 1000000 0 q2 0 (qm_sL m2 45 6 0) rfl (by omega) (by omega) (gA.ct h) s3 v2.2.2.2.2.2 s2 ((s7 0 (by decide) (by decide) (by decide)).trans r4) s4 (by rw [me_2L, if_pos rfl, if_pos rfl]; rfl)
      dsimp only
      cases h3 : rH n T r c 120 q2 0 with
      | inl z0 =>
        obtain ⟨m3, t1, t2⟩ := c1 z0 h3
        refine ⟨fun z hz => ?_, fun r k l r2 k2 l2 H hz => (by cases hz)⟩
        rw [← Sum.inl.inj hz]
        exact ⟨m3, t1, gA.tr t2⟩
      | inr H0 =>
        obtain ⟨m3, t1, t2, t3, t4⟩ := c2 H0 h3
        refine ⟨fun z hz => (by cases hz), fun r9 k9 l9 r8' k8 l8 H9 hz => ?_⟩
        cases hz
        refine ⟨m3, t1, ?_, ?_, ?_, ?_, ?_, ?_, t2, gA.tr t4⟩
        · rw [t3]; exact (s7 0 (by decide) (by decide) (by decide)).trans r4
        · rw [t3]; exact (s7 2 (by decide) (by decide) (by decide)).trans r5
        · rw [t3]; exact (s7 4 (by decide) (by decide) (by decide)).trans r6
        · rw [t3]; exact s4
        · rw [t3]; exact s5
        · rw [t3]; exact s6
