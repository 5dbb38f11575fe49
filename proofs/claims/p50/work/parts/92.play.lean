/-! the class's effects of moves -/
theorem le_Pl_joinEffects_15 (K2 : Int32 → qm_M → Option qm_R) (n : Nat) (v1 : Int32) (v2 : Int32) (v3 : Int32) (m : qm_M) : L_Pl_joinEffects_15 K2 (n + 1) v1 v2 v3 m = X_Pl_joinEffects_15 F_Pl_effectOf K2 (L_Pl_joinEffects_15 K2 n) v1 v2 v3 m := rfl
theorem le_Pl_joinEffects_2  (n : Nat) (v1 : Int32) (m : qm_M) : L_Pl_joinEffects_2 (n + 1) v1 m = X_Pl_joinEffects_2 F_Pl_effectOf (L_Pl_joinEffects_15 (L_Pl_joinEffects_2 n) 1000000) v1 m := rfl
theorem le_Pl_tune_60 (K51 : Int32 → qm_M → Option qm_R) (n : Nat) (v3 : Int32) (v4 : Int32) (m : qm_M) : L_Pl_tune_60 K51 (n + 1) v3 v4 m = X_Pl_tune_60 F_Ps_rulesKey F_Ru_tune F_Pl_joinEffects F_Pl_worthOfBit F_Nu_product K51 (L_Pl_tune_60 K51 n) v3 v4 m := rfl
theorem le_Pl_tune_51  (n : Nat) (v3 : Int32) (m : qm_M) : L_Pl_tune_51 (n + 1) v3 m = X_Pl_tune_51 F_Ps_rulesKey F_Ru_tune F_Pl_joinEffects F_Pl_worthOfBit F_Nu_product (L_Pl_tune_60 (L_Pl_tune_51 n) 1000000) v3 m := rfl
theorem nI_shl {n k : Nat} (hk : k < 32) : qo_ishl (nI n) (nI k) = nI (n * 2 ^ k) := by
  have c : (List.range 32).all (fun k => decide ((nI k &&& 31).toBitVec.smod 32 = BitVec.ofNat 32 k)) = true := by decide +kernel
  have c1 := of_decide_eq_true (List.all_eq_true.mp c k (List.mem_range.mpr hk))
  refine Int32.toBitVec_inj.1 ?_
  unfold qo_ishl
  rw [Int32.toBitVec_shiftLeft, c1]
  show (BitVec.ofNat 32 n) <<< (BitVec.ofNat 32 k).toNat = BitVec.ofNat 32 (n * 2 ^ k)
  apply BitVec.eq_of_toNat_eq
  rw [BitVec.toNat_shiftLeft, BitVec.toNat_ofNat, BitVec.toNat_ofNat, BitVec.toNat_ofNat, Nat.mod_eq_of_lt (show k < 2 ^ 32 by omega), Nat.shiftLeft_eq, Nat.mod_mul_mod]
theorem nI_orP {i a b : Nat} (hb : b < 2 ^ i) (h : 2 ^ i * a + b < 2 ^ 31) : nI (2 ^ i * a) ||| nI b = nI (2 ^ i * a + b) := by
  rw [nI_or (by omega) (by omega), Nat.two_pow_add_eq_or_of_lt hb a]
def iB (x : nb_F) : Int32 := nI x.toNat
theorem iB_x (x y : nb_F) : iB x ^^^ iB y = iB (x ^^^ y) := by
  unfold iB
  apply Int32.toBitVec_inj.1
  show BitVec.ofNat 32 x.toNat ^^^ BitVec.ofNat 32 y.toNat = BitVec.ofNat 32 (x ^^^ y).toNat
  apply BitVec.eq_of_toNat_eq
  rw [BitVec.toNat_xor, BitVec.toNat_ofNat, BitVec.toNat_ofNat, BitVec.toNat_ofNat, BitVec.toNat_xor, Nat.xor_mod_two_pow]
theorem iB_0 : iB 0 = 0 := rfl
theorem bN_x (a b : Nat) : bN (a ^^^ b) = bN a ^^^ bN b := by
  unfold bN
  apply BitVec.eq_of_toNat_eq
  rw [BitVec.toNat_xor, BitVec.toNat_ofNat, BitVec.toNat_ofNat, BitVec.toNat_ofNat, Nat.xor_mod_two_pow]
theorem sw_x (w : Nat → Nat) (A B : Nat) : ∀ n, sw w n (A ^^^ B) = sw w n A ^^^ sw w n B
  | 0 => by show (0 : Nat) = 0 ^^^ 0; decide
  | n + 1 => by
    rw [sw_s, sw_s, sw_s, sw_x w A B n, Nat.testBit_xor]
    have e : ∀ a b c d : Nat, a ^^^ b ^^^ (c ^^^ d) = a ^^^ c ^^^ (b ^^^ d) := fun a b c d => by
      rw [Nat.xor_assoc, ← Nat.xor_assoc b c d, Nat.xor_comm b c, Nat.xor_assoc c b d, ← Nat.xor_assoc]
    rw [e]
    congr 1
    cases A.testBit n <;> cases B.testBit n <;> simp
theorem sw_0 (w : Nat → Nat) : ∀ n, sw w n 0 = 0
  | 0 => rfl
  | n + 1 => by rw [sw_s, sw_0 w n, Nat.zero_testBit, if_neg (by decide), Nat.xor_zero]
theorem sw_p2 (w : Nat → Nat) {i : Nat} : ∀ n, sw w n (2 ^ i) = if i < n then w i else 0
  | 0 => by rw [if_neg (Nat.not_lt_zero _)]; rfl
  | n + 1 => by
    rw [sw_s, sw_p2 w n, Nat.testBit_two_pow]
    by_cases q : i = n
    · rw [if_neg (show ¬ i < n by omega), if_pos (decide_eq_true q), if_pos (show i < n + 1 by omega), Nat.zero_xor, q]
    · rw [if_neg (show ¬ decide (i = n) = true by rw [decide_eq_true_iff]; exact q), Nat.xor_zero]
      by_cases z : i < n
      · rw [if_pos z, if_pos (by omega)]
      · rw [if_neg z, if_neg (by omega)]
/-- the worth of all that a move turns -/
noncomputable def ef (K L : Nat → Nat) (R C : Nat) : nb_F := nb_mul (bN (sw (cw (K 0) (L 0)) 6 R)) (bN (sw (cw (K 1) (L 1)) 6 C))
theorem ef_r (K L : Nat → Nat) (A B C : Nat) : ef K L (A ^^^ B) C = ef K L A C ^^^ ef K L B C := by
  unfold ef
  rw [sw_x, bN_x, nb_add_mul]
theorem ef_c (K L : Nat → Nat) (R A B : Nat) : ef K L R (A ^^^ B) = ef K L R A ^^^ ef K L R B := by
  unfold ef
  rw [sw_x, bN_x, nb_mul_add]
theorem ef_0r (K L : Nat → Nat) (C : Nat) : ef K L 0 C = 0 := by
  unfold ef
  rw [sw_0]
  exact nb_0_mul _
theorem ef_0c (K L : Nat → Nat) (R : Nat) : ef K L R 0 = 0 := by
  unfold ef
  rw [sw_0]
  exact nb_mul_0 _
def lo6 (R : Nat) : Nat := R &&& (64 - R)
theorem lo_chk : (List.range 64).all (fun R => (R == 0) || (decide (nI R &&& -(nI R) = nI (lo6 R) ∧ nI R ^^^ nI (lo6 R) = nI (R ^^^ lo6 R) ∧ 0 < lo6 R ∧ lo6 R ≤ R ∧ R ^^^ lo6 R < R ∧ lo6 R ^^^ (R ^^^ lo6 R) = R) && (!(R == lo6 R) || (List.range 6).any (fun i => decide (R = 2 ^ i))))) = true := by decide +kernel
theorem lo_c {R : Nat} (h0 : 0 < R) (h : R < 64) : (nI R &&& -(nI R) = nI (lo6 R) ∧ nI R ^^^ nI (lo6 R) = nI (R ^^^ lo6 R) ∧ 0 < lo6 R ∧ lo6 R ≤ R ∧ R ^^^ lo6 R < R ∧ lo6 R ^^^ (R ^^^ lo6 R) = R) ∧ (R = lo6 R → ∃ i, i < 6 ∧ R = 2 ^ i) := by
  have c := List.all_eq_true.mp lo_chk R (List.mem_range.mpr h)
  rw [Bool.or_eq_true, Bool.and_eq_true, Bool.or_eq_true] at c
  rcases c with c | ⟨c1, c2⟩
  · have : R = 0 := by simpa using c
    omega
  · refine ⟨of_decide_eq_true c1, fun e => ?_⟩
    rcases c2 with c2 | c2
    · rw [Bool.not_eq_true', beq_eq_false_iff_ne] at c2
      exact absurd e c2
    · obtain ⟨i, hi, e⟩ := List.any_eq_true.mp c2
      exact ⟨i, List.mem_range.mp hi, of_decide_eq_true e⟩
theorem nu_effectOf {m : qm_M} {x : nb_F} {R C : Nat} (hR : R < 64) (hC : C < 64) (h : m.1 59 (64 * R + C) = iB x) : F_Pl_effectOf (nI R) (nI C) m = some (some (.int (iB x)), m) := by
  unfold F_Pl_effectOf X_Pl_effectOf_e
  have e : nI R * (64 : Int32) = nI (R * 64) := pk_mul R 64
  rw [nI_and63 (by omega), nI_and63 (by omega), Nat.mod_eq_of_lt hR, Nat.mod_eq_of_lt hC, e, nI_add, qm_in_nI (show R * 64 + C < 4096 by omega) (by omega), qe_b_e, nI_clamp (by omega), show R * 64 + C = 64 * R + C by omega, h]
def efM (m : qm_M) (K L : Nat → Nat) : Prop := ∀ R C, R < 64 → C < 64 → m.1 59 (64 * R + C) = iB (ef K L R C)
def onl59 (m m1 : qm_M) : Prop := (∀ a, a ≠ 59 → m1.1 a = m.1 a) ∧ m1.2 = m.2
theorem nu_join {m0 : qm_M} {K L : Nat → Nat} (h0 : ∀ x, x < 64 → m0.1 59 x = 0 ∧ m0.1 59 (64 * x) = 0) (h1 : ∀ i j, i < 6 → j < 6 → m0.1 59 (64 * 2 ^ i + 2 ^ j) = iB (ef K L (2 ^ i) (2 ^ j))) :
    ∃ m1, F_Pl_joinEffects m0 = some (none, m1) ∧ efM m1 K L ∧ onl59 m0 m1 := by
  -- what is right ahead of row R, column C
  let J : Nat → Nat → qm_M → Prop := fun R C m => (∀ A B, A < 64 → B < 64 → A < R ∨ A = R ∧ B < C ∨ A = 0 ∨ B = 0 ∨ (∃ i j, i < 6 ∧ j < 6 ∧ A = 2 ^ i ∧ B = 2 ^ j) → m.1 59 (64 * A + B) = iB (ef K L A B)) ∧ onl59 m0 m
  obtain ⟨m1, ⟨g1, g2⟩, e⟩ := lpU (fun f R (m : qm_M) => L_Pl_joinEffects_2 f (nI R) m) 64 (fun R m => 1 ≤ R ∧ J R 1 m) (fun m => some (none, m)) (fun f R m hR hI => by
      obtain ⟨hR1, hJ⟩ := hI
      obtain ⟨⟨l1, l2, l3, l4, l5, l6⟩, l7⟩ := lo_c (R := R) (by omega) hR
      obtain ⟨m1, ⟨hC1, g⟩, e⟩ := lpU (fun f2 C (m : qm_M) => L_Pl_joinEffects_15 (L_Pl_joinEffects_2 f) f2 (nI R) (nI (lo6 R)) (nI C) m) 64 (fun C m => 1 ≤ C ∧ J R C m) (fun m => L_Pl_joinEffects_2 f (nI (R + 1)) m) (fun f2 C m hC hI => by
          obtain ⟨hC1, hJ1, hJ2⟩ := hI
          obtain ⟨⟨c1, c2, c3, c4, c5, c6⟩, c7⟩ := lo_c (R := C) (by omega) hC
          have e64 : nI C < (64 : Int32) := nI_lt (b := 64) hC (by omega)
          have eR : nI R * (64 : Int32) + nI C = nI (64 * R + C) := by
            have e : nI R * (64 : Int32) = nI (R * 64) := pk_mul R 64
            rw [e, nI_add, Nat.mul_comm]
          have stay : (R = lo6 R ∧ C = lo6 C) → J R (C + 1) m := fun ⟨q1, q2⟩ => by
            obtain ⟨i, hi, ei⟩ := l7 q1
            obtain ⟨j, hj, ej⟩ := c7 q2
            refine ⟨fun A B hA hB h => ?_, hJ2⟩
            by_cases z : A = R ∧ B = C
            · exact hJ1 A B hA hB (Or.inr (Or.inr (Or.inr (Or.inr ⟨i, j, hi, hj, z.1.trans ei, z.2.trans ej⟩))))
            · refine hJ1 A B hA hB ?_
              rcases h with h | h | h | h | h
              · exact Or.inl h
              · exact Or.inr (Or.inl ⟨h.1, by omega⟩)
              · exact Or.inr (Or.inr (Or.inl h))
              · exact Or.inr (Or.inr (Or.inr (Or.inl h)))
              · exact Or.inr (Or.inr (Or.inr (Or.inr h)))
          have put : ∀ x, x = ef K L R C → J R (C + 1) (qm_sI m 59 (64 * R + C) (iB x)) := fun x hx => by
            refine ⟨fun A B hA hB h => ?_, fun a ha => by rw [(qm_sI_other a ha).1]; exact hJ2.1 a ha, hJ2.2⟩
            by_cases z : A = R ∧ B = C
            · rw [z.1, z.2, me_self, hx]
            · rw [me_oth _ _ _ _ (Or.inr (by omega))]
              refine hJ1 A B hA hB ?_
              rcases h with h | h | h | h | h
              · exact Or.inl h
              · exact Or.inr (Or.inl ⟨h.1, by omega⟩)
              · exact Or.inr (Or.inr (Or.inl h))
              · exact Or.inr (Or.inr (Or.inr (Or.inl h)))
              · exact Or.inr (Or.inr (Or.inr (Or.inr h)))
          show ∃ s', _ ∧ L_Pl_joinEffects_15 (L_Pl_joinEffects_2 f) (f2 + 1) (nI R) (nI (lo6 R)) (nI C) m = _
          rw [le_Pl_joinEffects_15]
          unfold X_Pl_joinEffects_15
          rw [if_pos e64, c1, c2, l2, eR]
          by_cases q1 : R = lo6 R
          · rw [if_pos (by rw [← q1])]
            by_cases q2 : C = lo6 C
            · rw [if_pos (by rw [← q2]), nI_1]
              exact ⟨m, ⟨by omega, stay ⟨q1, q2⟩⟩, rfl⟩
            · have hlo := nu_effectOf (m := m) (R := lo6 R) (C := lo6 C) (x := ef K L R (lo6 C)) (by omega) (by omega) (by rw [← q1]; exact hJ1 R (lo6 C) hR (by omega) (Or.inr (Or.inl ⟨rfl, by omega⟩)))
              have hhi := nu_effectOf (m := m) (R := lo6 R) (C := C ^^^ lo6 C) (x := ef K L R (C ^^^ lo6 C)) (by omega) (by omega) (by rw [← q1]; exact hJ1 R (C ^^^ lo6 C) hR (by omega) (Or.inr (Or.inl ⟨rfl, by omega⟩)))
              rw [if_neg (fun z => q2 ((nI_eq (by omega) (by omega)).mp z)), hlo, qe_rI_e, hhi, qe_rI_e, qm_in_nI (show 64 * R + C < 4096 by omega) (by omega), qe_b_e, nI_clamp (by omega), iB_x, nI_1]
              exact ⟨_, ⟨by omega, put _ (by rw [← ef_c, c6])⟩, rfl⟩
          · have hlo := nu_effectOf (m := m) (R := lo6 R) (C := C) (x := ef K L (lo6 R) C) (by omega) hC (hJ1 (lo6 R) C (by omega) hC (Or.inl (by omega)))
            have hhi := nu_effectOf (m := m) (R := R ^^^ lo6 R) (C := C) (x := ef K L (R ^^^ lo6 R) C) (by omega) hC (hJ1 (R ^^^ lo6 R) C (by omega) hC (Or.inl (by omega)))
            rw [if_neg (fun z => q1 ((nI_eq (by omega) (by omega)).mp z)), hlo, qe_rI_e, hhi, qe_rI_e, qm_in_nI (show 64 * R + C < 4096 by omega) (by omega), qe_b_e, nI_clamp (by omega), iB_x, nI_1]
            exact ⟨_, ⟨by omega, put _ (by rw [← ef_r, l6])⟩, rfl⟩) (fun f2 m _ => by
          have e64 : ¬ nI 64 < (64 : Int32) := by decide
          show L_Pl_joinEffects_15 (L_Pl_joinEffects_2 f) (f2 + 1) (nI R) (nI (lo6 R)) (nI 64) m = _
          rw [le_Pl_joinEffects_15]
          unfold X_Pl_joinEffects_15
          rw [if_neg e64, nI_1]) 1000000 1 m (by omega) (by omega) ⟨Nat.le_refl _, hJ⟩
      refine ⟨m1, ⟨by omega, fun A B hA hB h => g.1 A B hA hB ?_, g.2⟩, ?_⟩
      · rcases h with h | h | h | h | h
        · by_cases z : A = R
          · exact Or.inr (Or.inl ⟨z, hB⟩)
          · exact Or.inl (by omega)
        · exact Or.inr (Or.inr (Or.inr (Or.inl (by omega))))
        · exact Or.inr (Or.inr (Or.inl h))
        · exact Or.inr (Or.inr (Or.inr (Or.inl h)))
        · exact Or.inr (Or.inr (Or.inr (Or.inr h)))
      · have e64 : nI R < (64 : Int32) := nI_lt (b := 64) hR (by omega)
        show L_Pl_joinEffects_2 (f + 1) (nI R) m = _
        rw [le_Pl_joinEffects_2]
        unfold X_Pl_joinEffects_2
        rw [if_pos e64, l1]
        exact e) (fun f m _ => by
      have e64 : ¬ nI 64 < (64 : Int32) := by decide
      show L_Pl_joinEffects_2 (f + 1) (nI 64) m = _
      rw [le_Pl_joinEffects_2]
      unfold X_Pl_joinEffects_2
      rw [if_neg e64]) 1000000 1 m0 (by omega) (by omega) ⟨Nat.le_refl _, fun A B hA hB h => by
        rcases h with h | h | h | h | ⟨i, j, hi, hj, rfl, rfl⟩
        · rw [show A = 0 by omega, ef_0r, Nat.mul_zero, Nat.zero_add]
          exact (h0 B hB).1
        · rw [show B = 0 by omega, ef_0c, Nat.add_zero]
          exact (h0 A hA).2
        · rw [h, ef_0r, Nat.mul_zero, Nat.zero_add]
          exact (h0 B hB).1
        · rw [h, ef_0c, Nat.add_zero]
          exact (h0 A hA).2
        · exact h1 i j hi hj, fun _ _ => rfl, rfl⟩
  exact ⟨m1, e, fun R C hR hC => g2.1 R C hR hC (Or.inl hR), g2.2⟩
