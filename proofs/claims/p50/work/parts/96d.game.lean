/-! all boards measured; game and boards as both answer -/
theorem le_Le_measure_17  (n : Nat) (v1 : Int32) (m : qm_M) : L_Le_measure_17 (n + 1) v1 m = X_Le_measure_17 F_Le_measured (L_Le_measure_17 n) v1 m := rfl
theorem mvU_e {K L K2 L2 : Nat → Nat} (h0 : K 0 = K2 0) (h1 : K 1 = K2 1) (g0 : L 0 = L2 0) (g1 : L 1 = L2 1) : mvU K L = mvU K2 L2 := by
  funext r c i j S U
  unfold mvU
  rw [h0, h1, g0, g1]
theorem mvq_e {K L K2 L2 : Nat → Nat} (h : mvU K L = mvU K2 L2) : mvq K L = mvq K2 L2 := by
  funext r c p
  unfold mvq mvp mvS
  rw [h]
theorem ltb_e {K L K2 L2 : Nat → Nat} (h : mvq K L = mvq K2 L2) : ∀ r c B, ltb K L r c B = ltb K2 L2 r c B := fun r c B => by
  induction B with
  | zero => rfl
  | succ B ih =>
    funext i
    rw [ltb_s, ltb_s, ih]
    unfold chl
    rw [h]
theorem ln_e {K L K2 L2 : Nat → Nat} (h0 : K 0 = K2 0) (h1 : K 1 = K2 1) (g0 : L 0 = L2 0) (g1 : L 1 = L2 1) : ln K L = ln K2 L2 := by
  funext r c B
  unfold ln
  rw [ltb_e (mvq_e (mvU_e h0 h1 g0 g1))]
/-- boards lost by who is to play -/
def lc (f : Nat → Nat) : Nat → Nat
  | 0 => 0
  | n + 1 => lc f n + (1 - f n % 2)
theorem lc_s (f : Nat → Nat) (n : Nat) : lc f (n + 1) = lc f n + (1 - f n % 2) := rfl
theorem lc_le (f : Nat → Nat) : ∀ n, lc f n ≤ n
  | 0 => Nat.le_refl _
  | n + 1 => by
    have := lc_le f n
    rw [lc_s]
    omega
/-- the first of the greatest -/
def bx (f : Nat → Nat) : Nat → Nat
  | 0 => 0
  | n + 1 => if f (bx f n) < f n then n else bx f n
theorem bx_s (f : Nat → Nat) (n : Nat) : bx f (n + 1) = if f (bx f n) < f n then n else bx f n := rfl
theorem bx_le (f : Nat → Nat) : ∀ n, bx f n ≤ n
  | 0 => Nat.le_refl _
  | n + 1 => by
    have := bx_le f n
    rw [bx_s]
    split <;> omega
theorem bx_lt (f : Nat → Nat) : ∀ n, bx f (n + 1) < n + 1
  | 0 => by
    show (if f (bx f 0) < f 0 then 0 else bx f 0) < 1
    rw [if_neg (show ¬ f (bx f 0) < f 0 from Nat.lt_irrefl (f 0))]
    exact Nat.zero_lt_one
  | n + 1 => by
    have := bx_lt f n
    rw [bx_s]
    split <;> omega
def msf (m m1 : qm_M) : Prop := (∀ a, a ≠ 60 → a ≠ 61 → m1.1 a = m.1 a) ∧ (∀ j, j < 7 → m1.1 60 j = m.1 60 j) ∧ m1.2 = m.2
theorem msf.tr {m m1 m2 : qm_M} (h : msf m m1) (g : msf m1 m2) : msf m m2 := ⟨fun a x y => (g.1 a x y).trans (h.1 a x y), fun j x => (g.2.1 j x).trans (h.2.1 j x), g.2.2.trans h.2.2⟩
theorem msf.I0 (m : qm_M) {j : Nat} (hj : 7 ≤ j) (x : Int32) : msf m (qm_sI m 60 j x) := ⟨fun a h _ => (qm_sI_other a h).1, fun k hk => me_oth _ _ _ _ (Or.inr (by omega)), rfl⟩
theorem msf.I1 (m : qm_M) (j : Nat) (x : Int32) : msf m (qm_sI m 61 j x) := ⟨fun a _ h => (qm_sI_other a h).1, fun k hk => me_oth _ _ _ _ (Or.inl (by decide)), rfl⟩
theorem msf.T {m m1 : qm_M} {K L : Nat → Nat} {r c : Nat} (g : msf m m1) (h : lsT m K L r c) : lsT m1 K L r c := ⟨h.1.c (g.1 62 (by decide) (by decide)), fun p hp => by rw [g.1 63 (by decide) (by decide)]; exact h.2 p hp⟩
/-- what the class has measured of n boards -/
def msN (m : qm_M) (f : Nat → Nat) (n : Nat) : Prop := (∀ i, i < n → m.1 61 i = nI (f i)) ∧ m.1 60 7 = nI (lc f n) ∧ m.1 60 8 = nI (f (bx f n)) ∧ m.1 60 9 = nI (bx f n)
theorem nu_measure {m0 : qm_M} {K L : Nat → Nat} {r c : Nat} (h4 : m0.1 60 4 = nI r) (h5 : m0.1 60 5 = nI c) (hr : r ≤ 6) (hc : c ≤ 6) (hrc : r * c ≤ 12) (hT : lsT m0 K L r c) :
    ∃ m1, F_Le_measure m0 = some (none, m1) ∧ msN m1 (ln K L r c) (2 ^ (r * c)) ∧ msf m0 m1 := by
  have p12 := pow_12b hrc
  have hle := ln_le (K := K) (L := L) hr hc
  have lim : ∀ {m : qm_M}, msf m0 m → qo_ishl (1 : Int32) ((m.1 60 4) * (m.1 60 5)) = nI (2 ^ (r * c)) := fun g => by
    rw [g.2.1 4 (by omega), g.2.1 5 (by omega), h4, h5, pk_mul, no_ishl1 (by omega)]
  obtain ⟨m1, ⟨h1, h2⟩, e⟩ := lpU (fun f B (m : qm_M) => L_Le_measure_17 f (nI B) m) (2 ^ (r * c)) (fun B m => msN m (ln K L r c) B ∧ msf m0 m) (fun m => some (none, m)) (fun f B m hB hI => by
      obtain ⟨⟨i1, i2, i3, i4⟩, g⟩ := hI
      have hb := hle B
      have hbb := hle (bx (ln K L r c) B)
      have hb2 := bx_le (ln K L r c) B
      have hlc := lc_le (ln K L r c) B
      have hm := nu_measured (m := m) (K := K) (L := L) (by rw [g.2.1 4 (by omega)]; exact h4) (by rw [g.2.1 5 (by omega)]; exact h5) hr hc hrc (g.T hT) (B := B) (by omega) i1
      have e1 : (1 : Int32) - nI (ln K L r c B % 2) = nI (1 - ln K L r c B % 2) := nI_sub (a := 1) (by omega)
      have g1 := g.tr (msf.I1 m B (nI (ln K L r c B)))
      have g2 := g1.tr (msf.I0 _ (j := 7) (by omega) (nI (lc (ln K L r c) (B + 1))))
      have hL : L_Le_measure_17 (f + 1) (nI B) m = if ln K L r c (bx (ln K L r c) B) < ln K L r c B then L_Le_measure_17 f (nI (B + 1)) (qm_sI (qm_sI (qm_sI (qm_sI m 61 B (nI (ln K L r c B))) 60 7 (nI (lc (ln K L r c) (B + 1)))) 60 8 (nI (ln K L r c B))) 60 9 (nI B)) else L_Le_measure_17 f (nI (B + 1)) (qm_sI (qm_sI m 61 B (nI (ln K L r c B))) 60 7 (nI (lc (ln K L r c) (B + 1)))) := by
        rw [le_Le_measure_17]
        unfold X_Le_measure_17
        rw [lim g, if_pos (nI_lt hB (by omega)), hm, qe_rI_e, qm_in_nI (show B < 4096 by omega) (by omega), qe_b_e, nI_clamp (by omega)]
        dsimp only
        rw [me_oth _ 61 _ _ (Or.inl (show (60 : Nat) ≠ 61 by decide)), i2, nI_and1 (by omega), e1, nI_add, ← lc_s (ln K L r c) B, me_oth _ 60 7 _ (i := 8) (Or.inr (by decide)), me_oth _ 61 _ _ (Or.inl (show (60 : Nat) ≠ 61 by decide)), i3, nI_1]
        by_cases q : ln K L r c (bx (ln K L r c) B) < ln K L r c B
        · rw [if_pos q, if_pos (nI_lt q (by omega))]
        · rw [if_neg q, if_neg (nI_nlt (by omega) (by omega))]
      have old : ∀ i, i < B + 1 → (qm_sI m 61 B (nI (ln K L r c B))).1 61 i = nI (ln K L r c i) := fun i hi => by
        by_cases z : i = B
        · rw [z, me_self]
        · rw [me_oth _ _ _ _ (Or.inr z)]
          exact i1 i (by omega)
      show ∃ s', _ ∧ L_Le_measure_17 (f + 1) (nI B) m = _
      rw [hL]
      by_cases q : ln K L r c (bx (ln K L r c) B) < ln K L r c B
      · rw [if_pos q]
        refine ⟨_, ⟨⟨fun i hi => ?_, ?_, ?_, ?_⟩, (g2.tr (msf.I0 _ (by omega) _)).tr (msf.I0 _ (by omega) _)⟩, rfl⟩
        · rw [me_oth _ _ _ _ (Or.inl (by decide)), me_oth _ _ _ _ (Or.inl (by decide)), me_oth _ _ _ _ (Or.inl (by decide))]
          exact old i hi
        · rw [me_oth _ _ _ _ (Or.inr (by decide)), me_oth _ _ _ _ (Or.inr (by decide)), me_self]
        · rw [me_oth _ _ _ _ (Or.inr (by decide)), me_self, bx_s, if_pos q]
        · rw [me_self, bx_s, if_pos q]
      · rw [if_neg q]
        refine ⟨_, ⟨⟨fun i hi => ?_, ?_, ?_, ?_⟩, g2⟩, rfl⟩
        · rw [me_oth _ _ _ _ (Or.inl (by decide))]
          exact old i hi
        · rw [me_self]
        · rw [me_oth _ _ _ _ (Or.inr (by decide)), me_oth _ _ _ _ (Or.inl (by decide)), i3, bx_s, if_neg q]
        · rw [me_oth _ _ _ _ (Or.inr (by decide)), me_oth _ _ _ _ (Or.inl (by decide)), i4, bx_s, if_neg q]) (fun f m hI => by
      show L_Le_measure_17 (f + 1) (nI (2 ^ (r * c))) m = _
      rw [le_Le_measure_17]
      unfold X_Le_measure_17
      rw [lim hI.2, if_neg (nI_nlt (Nat.le_refl _) (by omega))]) 1000000 0 (qm_sI (qm_sI (qm_sI m0 60 7 0) 60 8 0) 60 9 0) (Nat.zero_le _) (by omega) (by
        have h0 : ln K L r c 0 = 0 := Nat.le_zero.mp (hle 0)
        refine ⟨⟨fun i hi => absurd hi (Nat.not_lt_zero _), ?_, ?_, ?_⟩, ((msf.I0 m0 (by omega) _).tr (msf.I0 _ (by omega) _)).tr (msf.I0 _ (by omega) _)⟩
        · rw [me_oth _ _ _ _ (Or.inr (by decide)), me_oth _ _ _ _ (Or.inr (by decide)), me_self]
          rfl
        · rw [me_oth _ _ _ _ (Or.inr (by decide)), me_self]
          show (0 : Int32) = nI (ln K L r c 0)
          rw [h0]
          rfl
        · rw [me_self]
          rfl)
  exact ⟨m1, e, h1, h2⟩
/-- the class's lengths are tuned -/
def leT (m : qm_M) (K L : Nat → Nat) (r c : Nat) : Prop := m.1 60 4 = nI r ∧ m.1 60 5 = nI c ∧ msN m (ln K L r c) (2 ^ (r * c))
def cvLe (m : qm_M) : Prop := m.1 60 3 = -1 ∨ ∃ r c K L, kb r c K L ∧ r * c ≤ 12 ∧ m.1 60 3 = nI (key r c K L) ∧ leT m K L r c
theorem leT.c {m m1 : qm_M} {K L : Nat → Nat} {r c : Nat} (h : leT m K L r c) (e0 : m1.1 60 = m.1 60) (e1 : m1.1 61 = m.1 61) : leT m1 K L r c := by
  obtain ⟨a1, a2, a3, a4, a5, a6⟩ := h
  refine ⟨?_, ?_, ?_, ?_, ?_, ?_⟩
  · rw [e0]; exact a1
  · rw [e0]; exact a2
  · rw [e1]; exact a3
  · rw [e0]; exact a4
  · rw [e0]; exact a5
  · rw [e0]; exact a6
theorem cvLe.c {m m1 : qm_M} (h : cvLe m) (e0 : m1.1 60 = m.1 60) (e1 : m1.1 61 = m.1 61) : cvLe m1 := by
  rcases h with h | ⟨r, c, K, L, h1, h2, h3, h4⟩
  · exact Or.inl (by rw [e0]; exact h)
  · exact Or.inr ⟨r, c, K, L, h1, h2, by rw [e0]; exact h3, h4.c e0 e1⟩
theorem nu_canHold {m : qm_M} {r c : Nat} (h0 : m.1 1 0 = nI r) (h1 : m.1 1 1 = nI c) (hr : r ≤ 6) (hc : c ≤ 6) : F_Le_canHold m = some (some (.int (if 12 < r * c then 0 else 1)), m) := by
  have hb : r * c ≤ 6 * 6 := Nat.mul_le_mul hr hc
  unfold F_Le_canHold X_Le_canHold_e
  rw [h0, h1, pk_mul]
  by_cases q : 12 < r * c
  · have e : (12 : Int32) < nI (r * c) := nI_lt (a := 12) q (by omega)
    rw [if_pos q, if_pos e]
  · have e : ¬ (12 : Int32) < nI (r * c) := nI_nlt (a := 12) (by omega) (by omega)
    rw [if_neg q, if_neg e]
theorem nu_tuneL {m0 : qm_M} {s : sT} (h : cs m0 s) (g : px_ok s.1) (hv : cvPl m0) (hl : cvLe m0) (hrc : bR s.1 * bC s.1 ≤ 12) :
    ∃ m1, F_Le_tune m0 = some (none, m1) ∧ leT m1 (bK s.1) (bL s.1) (bR s.1) (bC s.1) ∧ cvPl m1 ∧ cvLe m1 ∧ ou 48 63 m0 m1 := by
  obtain ⟨hp, ⟨r1, r2, r3⟩, ⟨c1, c2, c3⟩⟩ := g.prl
  obtain ⟨k1, k2, k3, k4, k5⟩ := hp 0 (by omega)
  obtain ⟨l1, l2, l3, l4, l5⟩ := hp 1 (by omega)
  have hkb : kb (bR s.1) (bC s.1) (bK s.1) (bL s.1) := ⟨r3, c3, k3, l3, k5, l5⟩
  have hR := cs_i h (k := 0) (by omega) r1
  have hC := cs_i h (k := 1) (by omega) c1
  unfold F_Le_tune X_Le_tune_e
  rw [nu_rulesKey h g, qe_rI_e]
  by_cases q : m0.1 60 3 = nI (key (bR s.1) (bC s.1) (bK s.1) (bL s.1))
  · rw [if_pos q]
    refine ⟨m0, rfl, ?_, hv, hl, ou.rf _ _ m0⟩
    rcases hl with hl | ⟨r, c, K, L, h1, h2, h3, h4⟩
    · exact absurd (q.symm.trans hl) (nI_m1 (key_lt hkb))
    · obtain ⟨y1, y2, z1, z2, z3, z4⟩ := key_un h1 hkb ((nI_eq (key_lt h1) (key_lt hkb)).mp (h3.symm.trans q))
      unfold leT at h4 ⊢
      rw [y1, y2, ln_e z1 z2 z3 z4] at h4
      exact h4
  · have m3e : ∀ x : Int32, (qm_sI m0 60 3 x).1 1 0 = nI (bR s.1) := fun x => by
      rw [me_oth _ _ _ _ (Or.inl (by decide))]
      exact hR
    have m4e : ∀ x y : Int32, (qm_sI (qm_sI m0 60 3 x) 60 4 y).1 1 1 = nI (bC s.1) := fun x y => by
      rw [me_oth _ _ _ _ (Or.inl (by decide)), me_oth _ _ _ _ (Or.inl (by decide))]
      exact hC
    rw [if_neg q, nu_canHold hR hC r3 c3, qe_rI_e, if_neg (show ¬ 12 < bR s.1 * bC s.1 by omega), if_neg n10]
    dsimp only
    rw [m3e, m4e]
    generalize hk : nI (key (bR s.1) (bC s.1) (bK s.1) (bL s.1)) = ky at *
    have o5 : ou 60 60 m0 (qm_sI (qm_sI (qm_sI m0 60 3 ky) 60 4 (nI (bR s.1))) 60 5 (nI (bC s.1))) := ((ou.I m0 (o := 60) ⟨by omega, by omega⟩ _ _).tr (ou.I _ ⟨by omega, by omega⟩ _ _)).tr (ou.I _ ⟨by omega, by omega⟩ _ _)
    have x3 : (qm_sI (qm_sI (qm_sI m0 60 3 ky) 60 4 (nI (bR s.1))) 60 5 (nI (bC s.1))).1 60 3 = ky := by
      rw [me_oth _ _ _ _ (Or.inr (by decide)), me_oth _ _ _ _ (Or.inr (by decide)), me_self]
    have x4 : (qm_sI (qm_sI (qm_sI m0 60 3 ky) 60 4 (nI (bR s.1))) 60 5 (nI (bC s.1))).1 60 4 = nI (bR s.1) := by
      rw [me_oth _ _ _ _ (Or.inr (by decide)), me_self]
    have x5 : (qm_sI (qm_sI (qm_sI m0 60 3 ky) 60 4 (nI (bR s.1))) 60 5 (nI (bC s.1))).1 60 5 = nI (bC s.1) := by
      rw [me_self]
    generalize (qm_sI (qm_sI (qm_sI m0 60 3 ky) 60 4 (nI (bR s.1))) 60 5 (nI (bC s.1))) = m5 at *
    obtain ⟨m6, t1, t2, t3, t4⟩ := nu_tuneP (m0 := m5) (o5.cs (by omega) h) g (hv.hi (fun a h1 h2 => (o5 a (by omega)).1))
    have e60 := (t4 60 (by omega)).1
    obtain ⟨m7, u1, u2, u3⟩ := nu_listMoves (m0 := m6) hp.b t2 (by rw [e60]; exact x4) (by rw [e60]; exact x5) r3 c3 hrc
    obtain ⟨m8, w1, w2, w3⟩ := nu_measure (m0 := m7) (by rw [u3.2.1 4 (by decide), e60]; exact x4) (by rw [u3.2.1 5 (by decide), e60]; exact x5) r3 c3 hrc u2
    have f3 : ∀ j, j < 6 → m8.1 60 j = m5.1 60 j := fun j hj => by rw [w3.2.1 j (by omega), u3.2.1 j (by omega), e60]
    have hT : leT m8 (bK s.1) (bL s.1) (bR s.1) (bC s.1) := ⟨by rw [f3 4 (by omega)]; exact x4, by rw [f3 5 (by omega)]; exact x5, w2⟩
    rw [t1, qe_rV_e, u1, qe_rV_e, w1, qe_rV_e]
    refine ⟨m8, rfl, hT, t3.hi (fun a h1 h2 => (w3.1 a (by omega) (by omega)).trans (u3.1 a (by omega) (by omega) (by omega))), Or.inr ⟨_, _, _, _, hkb, hrc, by rw [f3 3 (by omega), x3, hk], hT⟩, fun a ha => ⟨?_, ?_⟩⟩
    · rw [w3.1 a (by omega) (by omega), u3.1 a (by omega) (by omega) (by omega), (t4 a (by omega)).1, (o5 a (by omega)).1]
    · rw [w3.2.2, u3.2.2, (t4 a (by omega)).2, (o5 a (by omega)).2]
theorem nu_lengthOf {m : qm_M} {K L : Nat → Nat} {r c : Nat} (h : leT m K L r c) (hr : r ≤ 6) (hrc : r * c ≤ 12) {X : Int64} (h6 : m.2 1 6 = X) (hx : ∀ i, sRow (nb X) i < 2 ^ c) : F_Le_lengthOf m = some (some (.int (nI (ln K L r c (pkR c (nb X) r)))), m) := by
  obtain ⟨h4, h5, h7, -⟩ := h
  have p12 := pow_12b hrc
  have hlt := pkR_lt hx r
  rw [Nat.mul_comm] at hlt
  have e : nI (pkR c (nb X) r) &&& ((4096 : Int32) - 1) = nI (pkR c (nb X) r) := by
    have e0 : (4096 : Int32) - 1 = nI 4095 := by decide
    have e1 : nI (pkR c (nb X) r) &&& nI 4095 = nI (pkR c (nb X) r &&& 4095) := nI_and (by omega) (by omega)
    have e2 : pkR c (nb X) r &&& 4095 = pkR c (nb X) r % 4096 := Nat.and_two_pow_sub_one_eq_mod _ 12
    rw [e0, e1, e2, Nat.mod_eq_of_lt (by omega)]
  unfold F_Le_lengthOf X_Le_lengthOf_e
  rw [h6, nu_packed h4 h5 hr hrc X hx, qe_rI_e, e, qm_in_nI (show pkR c (nb X) r < 4096 by omega) (by omega), qe_b_e, nI_clamp (by omega), h7 _ hlt]
theorem hd_row {P : sP} (h : px_ok P) : ∀ i, sRow (nb (P 6)) i < 2 ^ bC P := fun i => by
  refine Nat.lt_pow_two_of_testBit _ (fun j hj => ?_)
  rw [sRow_bit]
  by_cases q : j < 6
  · by_cases z : (nb (P 6)).getLsbD (6 * i + j) = true
    · have := (h.heads _ z).2
      omega
    · have z2 : (nb (P 6)).getLsbD (6 * i + j) = false := by simpa using z
      rw [z2, Bool.and_false]
  · rw [decide_eq_false q, Bool.false_and]
/-- the model's games -/
def gfr (m m1 : qm_M) : Prop := (∀ a, a < 137 ∨ 138 < a → m1.1 a = m.1 a) ∧ m1.2 = m.2
theorem gfr.rf (m : qm_M) : gfr m m := ⟨fun _ _ => rfl, rfl⟩
theorem gfr.tr {m m1 m2 : qm_M} (h : gfr m m1) (g : gfr m1 m2) : gfr m m2 := ⟨fun a x => (g.1 a x).trans (h.1 a x), g.2.trans h.2⟩
theorem gfr.now {m m1 : qm_M} {P : sP} (g : gfr m m1) (h : ms_now m P) : ms_now m1 P := fun i hi => by rw [g.2]; exact h i hi
theorem gfr.M {m m1 : qm_M} {K L : Nat → Nat} {r c : Nat} (g : gfr m m1) (h : lsM m K L r c) : lsM m1 K L r c := ⟨h.1.c (g.1 140 (by omega)), fun p hp => by rw [g.1 139 (by omega)]; exact h.2 p hp⟩
theorem gm_ms {m m1 m2 : qm_M} {s : sT} (g : lmf m m1) (g2 : gfr m1 m2) (h : ms m s) : ms m2 s ∧ lo_fr m m2 := by
  have e : ∀ a, a < 137 → m2.1 a = m.1 a := fun a ha => (g2.1 a (by omega)).trans (g.1 a (by omega) (by omega))
  have e2 : m2.2 = m.2 := g2.2.trans g.2
  exact ⟨h.fr (by rw [e 112 (by omega)]) (by rw [e 112 (by omega)]) (e 116 (by omega)) (e 129 (by omega)) (fun a _ _ => by rw [e2]), fun a ha => e a (by omega), fun a _ => by rw [e2]⟩
theorem gmM.s {m : qm_M} {K L : Nat → Nat} {r c k : Nat} (h : gmM m K L r c k) : gmM (qm_sI (qm_sI m 137 k (nI (ln K L r c k % 2))) 138 k (nI (ln K L r c k))) K L r c (k + 1) ∧ gfr m (qm_sI (qm_sI m 137 k (nI (ln K L r c k % 2))) 138 k (nI (ln K L r c k))) := by
  refine ⟨fun i hi => ?_, fun a ha => ?_, rfl⟩
  · by_cases z : i = k
    · rw [z, me_self, me_oth _ _ _ _ (Or.inl (by decide)), me_self]
      exact ⟨rfl, rfl⟩
    · rw [me_oth _ _ _ _ (Or.inl (by decide)), me_oth _ _ _ _ (Or.inr z), me_oth _ _ _ _ (Or.inr z), me_oth _ _ _ _ (Or.inl (by decide))]
      exact h i (by omega)
  · rw [(qm_sI_other a (by omega)).1, (qm_sI_other a (by omega)).1]
def rdL (FT FM : qm_M → Option qm_R) : Prop := ∀ mc mm s, cs mc s → cvPl mc → cvLe mc → ms mm s → gd s → ∃ r mc1 mm1, FT mc = some (some r, mc1) ∧ FM mm = some (some r, mm1) ∧ cvPl mc1 ∧ cvLe mc1 ∧ ou 48 63 mc mc1 ∧ ms mm1 s ∧ lo_fr mm mm1
