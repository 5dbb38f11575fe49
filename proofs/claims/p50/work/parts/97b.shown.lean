/-! the board's heads: how many; turned -/
theorem pc_top : ∀ f n, pc (f + 1) n = pc f n + (n.testBit f).toNat
  | 0, n => by
    rw [pc_s]
    show n % 2 + 0 = 0 + (n.testBit 0).toNat
    rw [Nat.testBit_zero]
    by_cases h : n % 2 = 1
    · rw [decide_eq_true h, h]; rfl
    · rw [decide_eq_false h, show n % 2 = 0 by omega]; rfl
  | f + 1, n => by
    rw [pc_s, pc_top f (n / 2), pc_s, Nat.testBit_succ, Nat.add_assoc]
theorem px_ok.bits {P : sP} (g : px_ok P) : (nb (P 6)).toNat < 2 ^ 36 := by
  have h := g.heads
  obtain ⟨-, ⟨-, -, r3⟩, -⟩ := g.prl
  refine Nat.lt_pow_two_of_testBit _ (fun i hi => ?_)
  rw [← BitVec.getLsbD]
  cases q : (nb (P 6)).getLsbD i with
  | false => rfl
  | true => have := (h i q).1; omega
theorem le_B_shown_37 (K13 : Int32 → Int32 → Int32 → qm_M → Option qm_R) (n : Nat) (v1 v3 v4 : Int32) (v6 : Nat) (v7 v8 : Int32) (m : qm_M) : L_B_shown_37 K13 (n + 1) v1 v3 v4 v6 v7 v8 m = X_B_shown_37 K13 (L_B_shown_37 K13 n) v1 v3 v4 v6 v7 v8 m := rfl
theorem le_B_shown_13 (n : Nat) (v1 v3 v4 : Int32) (m : qm_M) : L_B_shown_13 (n + 1) v1 v3 v4 m = X_B_shown_13 (L_B_shown_37 (L_B_shown_13 n) 1000000) v1 v3 v4 m := rfl
theorem nu_shown {m : qm_M} {s : sT} (hb : bd m s) (g : px_ok s.1) : F_B_shown m = some (some (.int (sH s.1)), m) := by
  have hX := g.bits
  have step : ∀ k, k < 36 → pc (k + 1) (nb (s.1 6)).toNat = pc k (nb (s.1 6)).toNat + ((nb (s.1 6)).getLsbD k).toNat := fun k _ => pc_top k _
  have row : ∀ (K13 : Int32 → Int32 → Int32 → qm_M → Option qm_R) (r : Nat), r < 6 → L_B_shown_37 K13 1000000 (nI (pc (6 * r) (nb (s.1 6)).toNat)) 6 (nI r) (117 + r) 6 0 m = K13 (nI (pc (6 * (r + 1)) (nb (s.1 6)).toNat)) 6 (nI (r + 1)) m := fun K13 r hr => by
    obtain ⟨f1, f2, f3, -⟩ := bb_f hr
    obtain ⟨m1, h1, e⟩ := lpU (fun f k (m1 : qm_M) => L_B_shown_37 K13 f (nI (pc (6 * r + k) (nb (s.1 6)).toNat)) 6 (nI r) (117 + r) 6 (nI k) m1) 6 (fun k m1 => m1 = m) (fun m1 => K13 (nI (pc (6 * (r + 1)) (nb (s.1 6)).toNat)) 6 (nI (r + 1)) m1) (fun f k m1 hk hI => by
        subst hI
        refine ⟨m1, rfl, ?_⟩
        show L_B_shown_37 K13 (f + 1) _ 6 (nI r) (117 + r) 6 (nI k) m1 = L_B_shown_37 K13 f (nI (pc (6 * r + (k + 1)) _)) 6 (nI r) (117 + r) 6 (nI (k + 1)) m1
        rw [le_B_shown_37]
        unfold X_B_shown_37
        rw [if_pos (show nI k < (6 : Int32) from nI_lt (b := 6) hk (by omega)), f2, qe_b_e, f3, qm_in_nI hk (by omega), qe_b_e, nI_clamp (by omega), bb_g hr, hb.2.2 r k hr hk, nI_1, ← Nat.add_assoc, step _ (by omega)]
        cases q : (nb (s.1 6)).getLsbD (6 * r + k) with
        | true =>
          rw [if_pos rfl, if_neg n10]
          rw [nI_1]; rfl
        | false =>
          rw [if_pos (show (if false = true then (1 : Int32) else 0) = 0 from rfl)]
          have e0 : nI (pc (6 * r + k) (nb (s.1 6)).toNat) + (0 : Int32) = nI (pc (6 * r + k) (nb (s.1 6)).toNat) := nI_add _ 0
          rw [e0]; rfl) (fun f m1 hI => by
        show L_B_shown_37 K13 (f + 1) _ 6 (nI r) (117 + r) 6 (nI 6) m1 = _
        rw [le_B_shown_37]
        unfold X_B_shown_37
        rw [if_neg (by decide), nI_1]
        rfl) 1000000 0 m (Nat.zero_le _) (by omega) rfl
    rw [h1] at e
    exact e
  obtain ⟨m1, h1, e⟩ := lpU (fun f k (m1 : qm_M) => L_B_shown_13 f (nI (pc (6 * k) (nb (s.1 6)).toNat)) 6 (nI k) m1) 6 (fun k m1 => m1 = m) (fun m1 => some (some (.int (sH s.1)), m1)) (fun f k m1 hk hI => by
      subst hI
      refine ⟨m1, rfl, ?_⟩
      obtain ⟨f1, f2, f3, f4, -⟩ := bb_f hk
      show L_B_shown_13 (f + 1) _ 6 (nI k) m1 = _
      rw [le_B_shown_13]
      unfold X_B_shown_13
      rw [if_pos (show nI k < (6 : Int32) from nI_lt (b := 6) hk (by omega)), qm_in_nI hk (by omega), qe_b_e, nI_clamp (by omega), f1, f4, qe_b_e, f3]
      exact row _ k hk) (fun f m1 hI => by
      show L_B_shown_13 (f + 1) _ 6 (nI 6) m1 = _
      rw [le_B_shown_13]
      unfold X_B_shown_13 sH
      rw [if_neg (by decide)]
      have e : pc 64 (nb (s.1 6)).toNat = pc 36 (nb (s.1 6)).toNat := pc_up (n := (nb (s.1 6)).toNat) (k := 28) 36 hX
      rw [e]) 1000000 0 m (Nat.zero_le _) (by omega) rfl
  rw [h1] at e
  unfold F_B_shown X_B_shown_e
  exact e
theorem le_B_turns_11 (K2 : Int32 → Int32 → Int32 → qm_M → Option qm_R) (n : Nat) (v1 v2 v3 v4 : Int32) (m : qm_M) : L_B_turns_11 K2 (n + 1) v1 v2 v3 v4 m = X_B_turns_11 K2 (L_B_turns_11 K2 n) v1 v2 v3 v4 m := rfl
theorem le_B_turns_2 (n : Nat) (v1 v2 v3 : Int32) (m : qm_M) : L_B_turns_2 (n + 1) v1 v2 v3 m = X_B_turns_2 (L_B_turns_11 (L_B_turns_2 n) 1000000) v1 v2 v3 m := rfl
/-- what turning makes of the cells -/
def tnd (R C : Nat) (n : Nat) (m m1 : qm_M) : Prop := (∀ r c, r < 6 → c < 6 → m1.1 (117 + r) c = if 6 * r + c < n ∧ R.testBit r = true ∧ C.testBit c = true then (m.1 (117 + r) c ^^^ 1) &&& 1 else m.1 (117 + r) c) ∧ (∀ a, a < 117 ∨ 122 < a → m1.1 a = m.1 a) ∧ m1.2 = m.2
theorem tnd.rf (R C : Nat) (m : qm_M) : tnd R C 0 m m := ⟨fun r c _ _ => by rw [if_neg (by omega)], fun _ _ => rfl, rfl⟩
theorem tnd_step {R C r c : Nat} {m m1 : qm_M} {x : Int32} (hr : r < 6) (hc : c < 6) (h : tnd R C (6 * r + c) m m1) (hx : x = if R.testBit r = true ∧ C.testBit c = true then (m.1 (117 + r) c ^^^ 1) &&& 1 else m.1 (117 + r) c) : tnd R C (6 * r + (c + 1)) m (qm_sI m1 (117 + r) c x) := by
  refine ⟨fun i j hi hj => ?_, fun a ha => ?_, h.2.2⟩
  · by_cases q : i = r ∧ j = c
    · rw [q.1, q.2, me_self, hx]
      by_cases z : R.testBit r = true ∧ C.testBit c = true
      · rw [if_pos z, if_pos ⟨by omega, z⟩]
      · rw [if_neg z, if_neg (fun w => z w.2)]
    · rw [me_oth _ _ _ _ (by omega), h.1 i j hi hj]
      by_cases z : R.testBit i = true ∧ C.testBit j = true
      · by_cases w : 6 * i + j < 6 * r + c
        · rw [if_pos ⟨w, z⟩, if_pos ⟨by omega, z⟩]
        · rw [if_neg (fun v => w v.1), if_neg (fun v => w (by omega))]
      · rw [if_neg (fun w => z w.2), if_neg (fun w => z w.2)]
  · rw [(qm_sI_other a (by omega)).1]; exact h.2.1 a ha
theorem nu_turns {m : qm_M} {s : sT} (hb : bd m s) {R C : Nat} (hR : R < 64) (hC : C < 64) : ∃ m1, F_B_turns (nI R) (nI C) m = some (none, m1) ∧ tnd R C 36 m m1 := by
  have v01 : ∀ r c, r < 6 → c < 6 → m.1 (117 + r) c = 0 ∨ m.1 (117 + r) c = 1 := fun r c hr hc => by
    rw [hb.2.2 r c hr hc]
    cases (nb (s.1 6)).getLsbD (6 * r + c)
    · exact Or.inl rfl
    · exact Or.inr rfl
  have row : ∀ (K2 : Int32 → Int32 → Int32 → qm_M → Option qm_R) (r : Nat) (m1 : qm_M), r < 6 → tnd R C (6 * r) m m1 → ∃ m2, tnd R C (6 * (r + 1)) m m2 ∧ L_B_turns_11 K2 1000000 (nI R) (nI C) (nI r) 0 m1 = K2 (nI R) (nI C) (nI (r + 1)) m2 := fun K2 r m1 hr h1 => by
    obtain ⟨f1, f2, f3, f4, f5, f6, f7, f8⟩ := bb_f hr
    exact lpU (fun f k (m1 : qm_M) => L_B_turns_11 K2 f (nI R) (nI C) (nI r) (nI k) m1) 6 (fun k m1 => tnd R C (6 * r + k) m m1) (fun m1 => K2 (nI R) (nI C) (nI (r + 1)) m1) (fun f k m1 hk hI => by
        have bR := (nI_bit1 (a := R) (k := r) (by omega) (by omega)).1
        have bC := (nI_bit1 (a := C) (k := k) (by omega) (by omega)).1
        have old : m1.1 (117 + r) k = m.1 (117 + r) k := by rw [hI.1 r k hr hk, if_neg (by omega)]
        show ∃ s', tnd R C (6 * r + (k + 1)) m s' ∧ L_B_turns_11 K2 (f + 1) (nI R) (nI C) (nI r) (nI k) m1 = L_B_turns_11 K2 f (nI R) (nI C) (nI r) (nI (k + 1)) s'
        rw [le_B_turns_11]
        unfold X_B_turns_11
        rw [if_pos (show nI k < (6 : Int32) from nI_lt (b := 6) hk (by omega)), qm_in_nI hr (by omega), qe_b_e, nI_clamp (by omega), f1, f2, qe_b_e, f3, qm_in_nI hk (by omega), qe_b_e, f5, f6, f7, qm_in_nI hk (by omega), nI_clamp (by omega), bb_g hr, old, nI_1]
        have e0 : (m.1 (117 + r) k ^^^ (0 : Int32)) &&& 1 = m.1 (117 + r) k := by rcases v01 r k hr hk with z | z <;> rw [z] <;> decide
        by_cases q1 : R.testBit r = true
        · rw [if_pos (bR.mpr q1)]
          by_cases q2 : C.testBit k = true
          · rw [if_pos (bC.mpr q2)]
            exact ⟨_, tnd_step hr hk hI (by rw [if_pos ⟨q1, q2⟩]), rfl⟩
          · rw [if_neg (fun z => q2 (bC.mp z)), e0]
            exact ⟨_, tnd_step hr hk hI (by rw [if_neg (fun z => q2 z.2)]), rfl⟩
        · rw [if_neg (fun z => q1 (bR.mp z)), e0]
          exact ⟨_, tnd_step hr hk hI (by rw [if_neg (fun z => q1 z.1)]), rfl⟩) (fun f m1 hI => by
        show L_B_turns_11 K2 (f + 1) (nI R) (nI C) (nI r) (nI 6) m1 = _
        rw [le_B_turns_11]
        unfold X_B_turns_11
        rw [if_neg (by decide), nI_1]) 1000000 0 m1 (Nat.zero_le _) (by omega) h1
  obtain ⟨m1, h1, e⟩ := lpU (fun f k (m1 : qm_M) => L_B_turns_2 f (nI R) (nI C) (nI k) m1) 6 (fun k m1 => tnd R C (6 * k) m m1) (fun m1 => some (none, m1)) (fun f k m1 hk hI => by
      obtain ⟨m2, g1, g2⟩ := row (L_B_turns_2 f) k m1 hk hI
      refine ⟨m2, g1, ?_⟩
      show L_B_turns_2 (f + 1) (nI R) (nI C) (nI k) m1 = _
      rw [le_B_turns_2]
      unfold X_B_turns_2
      rw [if_pos (show nI k < (6 : Int32) from nI_lt (b := 6) hk (by omega))]
      exact g2) (fun f m1 hI => by
      show L_B_turns_2 (f + 1) (nI R) (nI C) (nI 6) m1 = _
      rw [le_B_turns_2]
      unfold X_B_turns_2
      rw [if_neg (by decide)]) 1000000 0 m (Nat.zero_le _) (by omega) (tnd.rf R C m)
  exact ⟨m1, e, h1⟩
