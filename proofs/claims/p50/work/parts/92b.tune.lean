/-! the class's play is tuned; worths and sets as both answer -/
def bK (P : sP) (v : Nat) : Nat := (nb (P (2 + v))).toNat
def bL (P : sP) (v : Nat) : Nat := (nb (P (4 + v))).toNat
def bR (P : sP) : Nat := (nb (P 0)).toNat
def bC (P : sP) : Nat := (nb (P 1)).toNat
theorem nb_lNt {n : Nat} (h : n < 2 ^ 64) : (nb (lN n)).toNat = n := bN_toNat h
theorem px_ok.prl {P : sP} (h : px_ok P) : prl P (bK P) (bL P) ∧ (P 0 = lN (bR P) ∧ 1 ≤ bR P ∧ bR P ≤ 6) ∧ (P 1 = lN (bC P) ∧ 1 ≤ bC P ∧ bC P ≤ 6) := by
  obtain ⟨r, c, k1, k2, l1, l2, g1, g2, ⟨a1, a2, a3, a4, a5, a6, a7, a8, a9, a10, -⟩, ⟨b0, b1, b2, b3, b4, b5, -⟩, -⟩ := h
  refine ⟨fun v hv => ?_, ?_, ?_⟩
  · unfold bK bL
    rcases (show v = 0 ∨ v = 1 by omega) with rfl | rfl
    · rw [b2, b4, nb_lNt (by omega), nb_lNt (by omega)]
      exact ⟨rfl, rfl, a5, a7, a8⟩
    · rw [show (2 : Nat) + 1 = 3 from rfl, show (4 : Nat) + 1 = 5 from rfl, b3, b5, nb_lNt (by omega), nb_lNt (by omega)]
      exact ⟨rfl, rfl, a6, a9, a10⟩
  · unfold bR
    rw [b0, nb_lNt (by omega)]
    exact ⟨rfl, a1, a2⟩
  · unfold bC
    rw [b1, nb_lNt (by omega)]
    exact ⟨rfl, a3, a4⟩
/-- tuned to rules -/
def plT (m : qm_M) (K L : Nat → Nat) : Prop := (m.1 49 4 = nI (K 0) ∧ m.1 49 5 = nI (L 0) ∧ tabR m 49 (K 0) (L 0)) ∧ (m.1 54 4 = nI (K 1) ∧ m.1 54 5 = nI (L 1) ∧ tabR m 54 (K 1) (L 1)) ∧ efM m K L
def key (r c : Nat) (K L : Nat → Nat) : Nat := 4096 * (8 * r + c) + (256 * (4 * K 0 + K 1) + (16 * L 0 + L 1))
def kb (r c : Nat) (K L : Nat → Nat) : Prop := r ≤ 6 ∧ c ≤ 6 ∧ K 0 ≤ 3 ∧ K 1 ≤ 3 ∧ L 0 ≤ 8 ∧ L 1 ≤ 8
theorem key_un {r c r2 c2 : Nat} {K L K2 L2 : Nat → Nat} (h : kb r c K L) (h2 : kb r2 c2 K2 L2) (e : key r c K L = key r2 c2 K2 L2) : r = r2 ∧ c = c2 ∧ K 0 = K2 0 ∧ K 1 = K2 1 ∧ L 0 = L2 0 ∧ L 1 = L2 1 := by
  unfold key kb at *
  omega
theorem key_lt {r c : Nat} {K L : Nat → Nat} (h : kb r c K L) : key r c K L < 2 ^ 31 := by
  unfold key kb at *
  omega
theorem nu_rulesKey {m : qm_M} {s : sT} (h : cs m s) (g : px_ok s.1) : F_Ps_rulesKey 1 m = some (some (.int (nI (key (bR s.1) (bC s.1) (bK s.1) (bL s.1)))), m) := by
  obtain ⟨hp, ⟨r1, r2, r3⟩, ⟨c1, c2, c3⟩⟩ := g.prl
  obtain ⟨k1, k2, k3, k4, k5⟩ := hp 0 (by omega)
  obtain ⟨l1, l2, l3, l4, l5⟩ := hp 1 (by omega)
  have i1 : qm_isO 1 5 = true := rfl
  have s3 : qo_ishl (nI (bR s.1)) 3 = nI (2 ^ 3 * bR s.1) := by rw [Nat.mul_comm]; exact nI_shl (k := 3) (by omega)
  have s2 : qo_ishl (nI (bK s.1 0)) 2 = nI (2 ^ 2 * bK s.1 0) := by rw [Nat.mul_comm]; exact nI_shl (k := 2) (by omega)
  have s12 : ∀ x, qo_ishl (nI x) 12 = nI (2 ^ 12 * x) := fun x => by rw [Nat.mul_comm]; exact nI_shl (k := 12) (by omega)
  have s8 : ∀ x, qo_ishl (nI x) 8 = nI (2 ^ 8 * x) := fun x => by rw [Nat.mul_comm]; exact nI_shl (k := 8) (by omega)
  have s4 : ∀ x, qo_ishl (nI x) 4 = nI (2 ^ 4 * x) := fun x => by rw [Nat.mul_comm]; exact nI_shl (k := 4) (by omega)
  unfold F_Ps_rulesKey X_Ps_rulesKey_e key
  dsimp only
  rw [i1, qe_b_e, qe_b_e, qe_b_e, qe_b_e, qe_b_e, qe_b_e, cs_i h (by omega) r1, cs_i h (by omega) c1, cs_i h (by omega) k1, cs_i h (by omega) l1, cs_i h (by omega) k2, cs_i h (by omega) l2, s3, s2, nI_orP (by omega) (by omega), nI_orP (by omega) (by omega), s12, s8, s4, nI_orP (by omega) (by omega)]
  have e1 : 2 ^ 12 * (2 ^ 3 * bR s.1 + bC s.1) + 2 ^ 8 * (2 ^ 2 * bK s.1 0 + bK s.1 1) = 2 ^ 8 * (16 * (8 * bR s.1 + bC s.1) + (4 * bK s.1 0 + bK s.1 1)) := by omega
  rw [e1, nI_orP (by omega) (by omega)]
  have e2 : 2 ^ 8 * (16 * (8 * bR s.1 + bC s.1) + (4 * bK s.1 0 + bK s.1 1)) + 2 ^ 4 * bL s.1 0 = 2 ^ 4 * (16 * (16 * (8 * bR s.1 + bC s.1) + (4 * bK s.1 0 + bK s.1 1)) + bL s.1 0) := by omega
  have e3 : 2 ^ 4 * (16 * (16 * (8 * bR s.1 + bC s.1) + (4 * bK s.1 0 + bK s.1 1)) + bL s.1 0) + bL s.1 1 = 4096 * (8 * bR s.1 + bC s.1) + (256 * (4 * bK s.1 0 + bK s.1 1) + (16 * bL s.1 0 + bL s.1 1)) := by omega
  rw [e2, nI_orP (by omega) (by omega), e3]
def cvPl (m : qm_M) : Prop := cvR m 49 ∧ cvR m 54 ∧ (∀ x, x < 64 → m.1 59 x = 0 ∧ m.1 59 (64 * x) = 0) ∧ (m.1 48 3 = -1 ∨ ∃ r c K L, kb r c K L ∧ m.1 48 3 = nI (key r c K L) ∧ plT m K L)
theorem tabR.c {m m1 : qm_M} {o κ l : Nat} (h : tabR m o κ l) (e1 : m1.1 (o + 1) = m.1 (o + 1)) (e2 : m1.1 (o + 2) = m.1 (o + 2)) : tabR m1 o κ l := fun n hn => by rw [e1, e2]; exact h n hn
theorem nu_worthOf {m : qm_M} {o κ l n : Nat} (ho : ru o) (h : tabR m o κ l) (hn : n < 12) : F_Ru_worthOf o (nI n) m = some (some (.int (nI (cw κ l n))), m) := by
  obtain ⟨⟨r1, r2, r3, r4, r5, r6⟩, ⟨a1, a2⟩, -, -, -⟩ := ru_f ho
  have e12 : nI n < (12 : Int32) := nI_lt (b := 12) hn (by omega)
  unfold F_Ru_worthOf X_Ru_worthOf_e
  rw [if_neg (nI_pos (by omega)), if_pos e12, r1, qe_b_e, r2, a1, qe_b_e, a2, qm_in_nI hn (by omega), qe_b_e, nI_clamp (by omega), (h n hn).1]
theorem nu_setsOf {m : qm_M} {o κ l n : Nat} (ho : ru o) (h : tabR m o κ l) (hn : n < 12) : F_Ru_setsOf o (nI n) m = some (some (.int (nI (os κ l n).length)), m) := by
  obtain ⟨⟨r1, r2, r3, r4, r5, r6⟩, -, ⟨a1, a2⟩, -, -⟩ := ru_f ho
  have e12 : nI n < (12 : Int32) := nI_lt (b := 12) hn (by omega)
  unfold F_Ru_setsOf X_Ru_setsOf_e
  rw [if_neg (nI_pos (by omega)), if_pos e12, r1, qe_b_e, r3, a1, qe_b_e, a2, qm_in_nI hn (by omega), qe_b_e, nI_clamp (by omega), (h n hn).2]
theorem p2_6 {i : Nat} (hi : i < 6) : pc 12 (2 ^ i - 1) = i ∧ qo_ishl (nI (2 ^ i)) 1 = nI (2 ^ (i + 1)) ∧ 2 ^ i < 64 := by
  have c : (List.range 6).all (fun i => decide (pc 12 (2 ^ i - 1) = i ∧ qo_ishl (nI (2 ^ i)) 1 = nI (2 ^ (i + 1)) ∧ 2 ^ i < 64)) = true := by decide +kernel
  exact of_decide_eq_true (List.all_eq_true.mp c i (List.mem_range.mpr hi))
theorem nu_worthOfBit {m : qm_M} {o κ l i : Nat} (ho : ru o) (h : tabR m o κ l) (hi : i < 6) : F_Pl_worthOfBit o (nI (2 ^ i)) m = some (some (.int (nI (cw κ l i))), m) := by
  obtain ⟨p1, p2, p3⟩ := p2_6 hi
  have hp := Nat.two_pow_pos i
  have e1 : nI (2 ^ i) - 1 = nI (2 ^ i - 1) := nI_sub (b := 1) hp
  unfold F_Pl_worthOfBit X_Pl_worthOfBit_e
  rw [e1, nu_bitCountI (by omega), qe_rI_e, p1, (ru_f ho).1.1, qe_b_e, nu_worthOf ho h (by omega), qe_rI_e]
theorem ef_p2 (K L : Nat → Nat) {i j : Nat} (hi : i < 6) (hj : j < 6) : ef K L (2 ^ i) (2 ^ j) = nb_mul (bN (cw (K 0) (L 0) i)) (bN (cw (K 1) (L 1) j)) := by
  unfold ef
  rw [sw_p2, sw_p2, if_pos hi, if_pos hj]
theorem nu_tune51 {m0 : qm_M} {K L : Nat → Nat} (h0 : ∀ x, x < 64 → m0.1 59 x = 0 ∧ m0.1 59 (64 * x) = 0) (t0 : tabR m0 49 (K 0) (L 0)) (t1 : tabR m0 54 (K 1) (L 1)) :
    ∃ m1, L_Pl_tune_51 1000000 1 m0 = some (none, m1) ∧ efM m1 K L ∧ onl59 m0 m1 := by
  let J : Nat → Nat → qm_M → Prop := fun i j m => (∀ a b, a < 6 → b < 6 → a < i ∨ a = i ∧ b < j → m.1 59 (64 * 2 ^ a + 2 ^ b) = iB (ef K L (2 ^ a) (2 ^ b))) ∧ (∀ x, x < 64 → m.1 59 x = 0 ∧ m.1 59 (64 * x) = 0) ∧ onl59 m0 m
  have p2le : ∀ a b, a < 6 → b < 6 → (a = b ↔ 2 ^ a = 2 ^ b) := fun a b ha hb => ⟨fun e => by rw [e], fun e => by
    rcases Nat.lt_trichotomy a b with h | h | h
    · have := Nat.pow_lt_pow_right (a := 2) (by omega) h
      omega
    · exact h
    · have := Nat.pow_lt_pow_right (a := 2) (by omega) h
      omega⟩
  obtain ⟨m1, hJ, e⟩ := lpU (fun f i (m : qm_M) => L_Pl_tune_51 f (nI (2 ^ i)) m) 6 (fun i m => J i 0 m) (fun m => qe_rV (F_Pl_joinEffects m) fun m1 => some (none, m1)) (fun f i m hi hJ => by
      obtain ⟨p1, p2, p3⟩ := p2_6 hi
      obtain ⟨m1, hJ1, e⟩ := lpU (fun f2 j (m : qm_M) => L_Pl_tune_60 (L_Pl_tune_51 f) f2 (nI (2 ^ i)) (nI (2 ^ j)) m) 6 (fun j m => J i j m) (fun m => L_Pl_tune_51 f (nI (2 ^ (i + 1))) m) (fun f2 j m hj hJ => by
          obtain ⟨g1, g2, g3⟩ := hJ
          obtain ⟨q1, q2, q3⟩ := p2_6 hj
          have w0 := nu_worthOfBit (m := m) (Or.inl rfl) (t0.c (g3.1 50 (by decide)) (g3.1 51 (by decide))) hi
          have w1 := nu_worthOfBit (m := m) (Or.inr rfl) (t1.c (g3.1 55 (by decide)) (g3.1 56 (by decide))) hj
          have c0 := @cw_12 (K 0) (L 0) i (by omega)
          have c1 := @cw_12 (K 1) (L 1) j (by omega)
          have e64 : nI (2 ^ j) < (64 : Int32) := nI_lt (b := 64) q3 (by omega)
          have eR : nI (2 ^ i) * (64 : Int32) + nI (2 ^ j) = nI (64 * 2 ^ i + 2 ^ j) := by
            have e : nI (2 ^ i) * (64 : Int32) = nI (2 ^ i * 64) := pk_mul _ 64
            rw [e, nI_add, Nat.mul_comm]
          have hp := Nat.two_pow_pos i
          have hp2 := Nat.two_pow_pos j
          refine ⟨qm_sI m 59 (64 * 2 ^ i + 2 ^ j) (iB (ef K L (2 ^ i) (2 ^ j))), ⟨fun a b ha hb h => ?_, fun x hx => ?_, fun a ha => by rw [(qm_sI_other a ha).1]; exact g3.1 a ha, g3.2⟩, ?_⟩
          · by_cases z : a = i ∧ b = j
            · rw [z.1, z.2, me_self]
            · have n1 : ¬ (2 ^ a = 2 ^ i ∧ 2 ^ b = 2 ^ j) := fun c => z ⟨(p2le a i ha hi).mpr c.1, (p2le b j hb hj).mpr c.2⟩
              have a64 := (p2_6 hb).2.2
              have b0 := Nat.two_pow_pos b
              rw [me_oth _ _ _ _ (Or.inr (by omega))]
              exact g1 a b ha hb (by omega)
          · rw [me_oth _ _ _ _ (Or.inr (by omega)), me_oth _ _ _ _ (Or.inr (by omega))]
            exact g2 x hx
          · show L_Pl_tune_60 (L_Pl_tune_51 f) (f2 + 1) (nI (2 ^ i)) (nI (2 ^ j)) m = _
            rw [le_Pl_tune_60]
            unfold X_Pl_tune_60
            rw [if_pos e64, w0, qe_rI_e, w1, qe_rI_e, nI_l (by omega), nI_l (by omega), nu_product, qe_rL_e, eR, qm_in_nI (show 64 * 2 ^ i + 2 ^ j < 4096 by omega) (by omega), qe_b_e, nI_clamp (by omega), q2, bn_i32, ef_p2 K L hi hj]
            rfl) (fun f2 m _ => by
          have e64 : ¬ nI (2 ^ 6) < (64 : Int32) := by decide
          show L_Pl_tune_60 (L_Pl_tune_51 f) (f2 + 1) (nI (2 ^ i)) (nI (2 ^ 6)) m = _
          rw [le_Pl_tune_60]
          unfold X_Pl_tune_60
          rw [if_neg e64, p2]) 1000000 0 m (Nat.zero_le _) (by omega) hJ
      refine ⟨m1, ⟨fun a b ha hb h => hJ1.1 a b ha hb (by omega), hJ1.2.1, hJ1.2.2⟩, ?_⟩
      have e64 : nI (2 ^ i) < (64 : Int32) := nI_lt (b := 64) p3 (by omega)
      show L_Pl_tune_51 (f + 1) (nI (2 ^ i)) m = _
      rw [le_Pl_tune_51]
      unfold X_Pl_tune_51
      rw [if_pos e64]
      exact e) (fun f m _ => by
      have e64 : ¬ nI (2 ^ 6) < (64 : Int32) := by decide
      show L_Pl_tune_51 (f + 1) (nI (2 ^ 6)) m = _
      rw [le_Pl_tune_51]
      unfold X_Pl_tune_51
      rw [if_neg e64]) 1000000 0 m0 (Nat.zero_le _) (by omega) ⟨fun a b _ _ h => by omega, h0, fun _ _ => rfl, rfl⟩
  obtain ⟨m2, a1, a2, a3⟩ := nu_join hJ.2.1 (fun i j hi hj => hJ.1 i j hi hj (Or.inl hi))
  refine ⟨m2, ?_, a2, fun a ha => by rw [a3.1 a ha]; exact hJ.2.2.1 a ha, by rw [a3.2]; exact hJ.2.2.2⟩
  have e' : L_Pl_tune_51 1000000 1 m0 = _ := e
  rw [e', a1, qe_rV_e]
theorem efM.z {m : qm_M} {K L : Nat → Nat} (h : efM m K L) : ∀ x, x < 64 → m.1 59 x = 0 ∧ m.1 59 (64 * x) = 0 := fun x hx => by
  have e1 := h 0 x (by omega) hx
  have e2 := h x 0 hx (by omega)
  rw [ef_0r, iB_0, Nat.mul_zero, Nat.zero_add] at e1
  rw [ef_0c, iB_0, Nat.add_zero] at e2
  exact ⟨e1, e2⟩
theorem tabR.e {m : qm_M} {o κ l κ2 l2 : Nat} (h : tabR m o κ l) (e1 : κ = κ2) (e2 : l = l2) : tabR m o κ2 l2 := e1 ▸ e2 ▸ h
theorem ef_e {K L K2 L2 : Nat → Nat} (h0 : K 0 = K2 0) (h1 : K 1 = K2 1) (g0 : L 0 = L2 0) (g1 : L 1 = L2 1) (R C : Nat) : ef K L R C = ef K2 L2 R C := by
  unfold ef
  rw [h0, h1, g0, g1]
theorem nu_tuneP {m0 : qm_M} {s : sT} (h : cs m0 s) (g : px_ok s.1) (hv : cvPl m0) : ∃ m1, F_Pl_tune m0 = some (none, m1) ∧ plT m1 (bK s.1) (bL s.1) ∧ cvPl m1 ∧ ou 48 59 m0 m1 := by
  obtain ⟨hp, ⟨r1, r2, r3⟩, ⟨c1, c2, c3⟩⟩ := g.prl
  obtain ⟨k1, k2, k3, k4, k5⟩ := hp 0 (by omega)
  obtain ⟨l1, l2, l3, l4, l5⟩ := hp 1 (by omega)
  have hkb : kb (bR s.1) (bC s.1) (bK s.1) (bL s.1) := ⟨r3, c3, k3, l3, k5, l5⟩
  obtain ⟨v1, v2, v3, v4⟩ := hv
  unfold F_Pl_tune X_Pl_tune_e
  rw [nu_rulesKey h g, qe_rI_e]
  by_cases q : m0.1 48 3 = nI (key (bR s.1) (bC s.1) (bK s.1) (bL s.1))
  · rw [if_pos q]
    refine ⟨m0, rfl, ?_, ⟨v1, v2, v3, v4⟩, ou.rf _ _ m0⟩
    rcases v4 with v4 | ⟨r, c, K, L, h1, h2, h3⟩
    · exact absurd (q.symm.trans v4) (nI_m1 (key_lt hkb))
    · obtain ⟨-, -, z1, z2, z3, z4⟩ := key_un h1 hkb ((nI_eq (key_lt h1) (key_lt hkb)).mp (h2.symm.trans q))
      obtain ⟨⟨a1, a2, a3⟩, ⟨b1, b2, b3⟩, e⟩ := h3
      exact ⟨⟨by rw [a1, z1], by rw [a2, z3], a3.e z1 z3⟩, ⟨by rw [b1, z2], by rw [b2, z4], b3.e z2 z4⟩, fun R C hR hC => by rw [e R C hR hC, ef_e z1 z2 z3 z4]⟩
  · rw [if_neg q]
    dsimp only
    have d1 : ∀ a, a ≠ 48 → (qm_sI m0 48 3 (nI (key (bR s.1) (bC s.1) (bK s.1) (bL s.1)))).1 a = m0.1 a := fun a ha => (qm_sI_other a ha).1
    have cvc : ∀ {m m1 : qm_M} {o : Nat}, cvR m o → m1.1 o = m.1 o → m1.1 (o + 1) = m.1 (o + 1) → m1.1 (o + 2) = m.1 (o + 2) → m1.1 (o + 3) = m.1 (o + 3) → cvR m1 o := fun {m m1 o} hc e0 e1 e2 e3 => by
      obtain ⟨x1, x2⟩ := hc
      refine ⟨by rw [e3]; exact x1, ?_⟩
      rw [e0]
      rcases x2 with x2 | ⟨κ, l, y1, y2, y3, y4, y5⟩
      · exact Or.inl x2
      · exact Or.inr ⟨κ, l, y1, y2, y3, y4, y5.c e1 e2⟩
    obtain ⟨m2, t1, t2, t3, t4, t5, t6⟩ := nu_tuneR (o := 49) (Or.inl rfl) (cvc v1 (d1 49 (by decide)) (d1 50 (by decide)) (d1 51 (by decide)) (d1 52 (by decide))) k3 ⟨k4, k5⟩
    have e2 : (qm_sI m0 48 3 (nI (key (bR s.1) (bC s.1) (bK s.1) (bL s.1)))).1 1 2 = nI (bK s.1 0) := by rw [d1 1 (by decide)]; exact cs_i h (by omega) k1
    have e4 : (qm_sI m0 48 3 (nI (key (bR s.1) (bC s.1) (bK s.1) (bL s.1)))).1 1 4 = nI (bL s.1 0) := by rw [d1 1 (by decide)]; exact cs_i h (by omega) k2
    rw [e2, e4, t1, qe_rV_e]
    have f1 : ∀ a, a < 48 ∨ 52 < a → m2.1 a = m0.1 a := fun a ha => by rw [t6.1 a (by omega), d1 a (by omega)]
    have e3 : m2.1 1 3 = nI (bK s.1 1) := by rw [f1 1 (by omega)]; exact cs_i h (by omega) l1
    have e5 : m2.1 1 5 = nI (bL s.1 1) := by rw [f1 1 (by omega)]; exact cs_i h (by omega) l2
    obtain ⟨m3, u1, u2, u3, u4, u5, u6⟩ := nu_tuneR (m0 := m2) (o := 54) (Or.inr rfl) (cvc v2 (f1 54 (by omega)) (f1 55 (by omega)) (f1 56 (by omega)) (f1 57 (by omega))) l3 ⟨l4, l5⟩
    rw [e3, e5, u1, qe_rV_e]
    have f2 : ∀ a, a < 54 ∨ 57 < a → m3.1 a = m2.1 a := fun a ha => u6.1 a (by omega)
    obtain ⟨m4, w1, w2, w3⟩ := nu_tune51 (m0 := m3) (K := bK s.1) (L := bL s.1) (fun x hx => by rw [f2 59 (by omega), f1 59 (by omega)]; exact v3 x hx) (t5.c (f2 50 (by omega)) (f2 51 (by omega))) u5
    have g4 : ∀ a, a ≠ 59 → m4.1 a = m3.1 a := w3.1
    have hT : plT m4 (bK s.1) (bL s.1) := ⟨⟨by rw [g4 49 (by decide), f2 49 (by omega)]; exact t3, by rw [g4 49 (by decide), f2 49 (by omega)]; exact t4, t5.c ((g4 50 (by decide)).trans (f2 50 (by omega))) ((g4 51 (by decide)).trans (f2 51 (by omega)))⟩, ⟨by rw [g4 54 (by decide)]; exact u3, by rw [g4 54 (by decide)]; exact u4, u5.c (g4 55 (by decide)) (g4 56 (by decide))⟩, w2⟩
    refine ⟨m4, w1, hT, ⟨⟨?_, Or.inr ⟨_, _, k3, k5, hT.1.1, hT.1.2.1, hT.1.2.2⟩⟩, ⟨?_, Or.inr ⟨_, _, l3, l5, hT.2.1.1, hT.2.1.2.1, hT.2.1.2.2⟩⟩, w2.z, Or.inr ⟨_, _, _, _, hkb, ?_, hT⟩⟩, fun a ha => ⟨?_, ?_⟩⟩
    · rw [g4 52 (by decide), f2 52 (by omega)]
      exact t2
    · rw [g4 57 (by decide)]
      exact u2
    · rw [g4 48 (by decide), f2 48 (by omega), t6.1 48 (by omega), me_self]
    · rw [g4 a (by omega), f2 a (by omega), f1 a (by omega)]
    · rw [w3.2, u6.2.2 a (by omega), t6.2.2 a (by omega)]
      rfl
def rdQ (FT FM : qm_M → Option qm_R) : Prop := ∀ mc mm s, cs mc s → cvPl mc → ms mm s → gd s → ∃ r mc1 mm1, FT mc = some (some r, mc1) ∧ FM mm = some (some r, mm1) ∧ cvPl mc1 ∧ ou 48 59 mc mc1 ∧ ms mm1 s ∧ lo_fr mm mm1
theorem w_side (v : Int32) : (∃ j, j < 2 ∧ v = nI j) ∨ (v < 0 ∨ (1 : Int32) < v) ∧ (v < nI 0 ∨ nI 1 < v) := by
  rcases nw_lt v (N := 2) (by omega) (by omega) with h | ⟨h1, h2⟩
  · exact Or.inl h
  · exact Or.inr ⟨h2, h2⟩
theorem nu_ruleOf {j : Nat} (hj : j < 2) (m : qm_M) : ∃ o, ru o ∧ (j = 0 → o = 49) ∧ (j = 1 → o = 54) ∧ F_Pl_ruleOf (nI j) m = some (some (.ref o), m) := by
  rcases (show j = 0 ∨ j = 1 by omega) with rfl | rfl
  · exact ⟨49, Or.inl rfl, fun _ => rfl, fun z => absurd z (by decide), rfl⟩
  · exact ⟨54, Or.inr rfl, fun z => absurd z (by decide), fun _ => rfl, rfl⟩
theorem plT.tab {m : qm_M} {K L : Nat → Nat} (h : plT m K L) {j o : Nat} (hj : j < 2) (h0 : j = 0 → o = 49) (h1 : j = 1 → o = 54) : tabR m o (K j) (L j) := by
  rcases (show j = 0 ∨ j = 1 by omega) with rfl | rfl
  · rw [h0 rfl]
    exact h.1.2.2
  · rw [h1 rfl]
    exact h.2.1.2.2
