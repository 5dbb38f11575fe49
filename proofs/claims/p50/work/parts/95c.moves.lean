/-! moves, move, play, answer, as both answer -/
/-- acts with the class's play -/
def rdA (FT FM : qm_M → Option qm_R) : Prop := ∀ mc mm s, cs mc s → cvPl mc → ms mm s → gd s → ∃ r s1 mc1 mm1, FT mc = some (some r, mc1) ∧ FM mm = some (some r, mm1) ∧ cs mc1 s1 ∧ cvPl mc1 ∧ ms mm1 s1 ∧ gd s1 ∧ (∀ a, 59 < a → mc1.1 a = mc.1 a ∧ mc1.2 a = mc.2 a) ∧ lo_fr mm mm1
theorem cvPl.hi {m m1 : qm_M} (h : cvPl m) (e : ∀ a, 48 ≤ a → a ≤ 59 → m1.1 a = m.1 a) : cvPl m1 := by
  have hR : ∀ {o : Nat}, cvR m o → o = 49 ∨ o = 54 → cvR m1 o := fun {o} h ho => by
    obtain ⟨x1, x2⟩ := h
    refine ⟨by rw [e (o + 3) (by omega) (by omega)]; exact x1, ?_⟩
    rw [e o (by omega) (by omega)]
    rcases x2 with x2 | ⟨κ, l, y1, y2, y3, y4, y5⟩
    · exact Or.inl x2
    · exact Or.inr ⟨κ, l, y1, y2, y3, y4, y5.c (e (o + 1) (by omega) (by omega)) (e (o + 2) (by omega) (by omega))⟩
  obtain ⟨h1, h2, h3, h4⟩ := h
  refine ⟨hR h1 (Or.inl rfl), hR h2 (Or.inr rfl), fun x hx => by rw [e 59 (by omega) (by omega)]; exact h3 x hx, ?_⟩
  rw [e 48 (by omega) (by omega)]
  rcases h4 with h4 | ⟨r, c, K, L, y1, y2, ⟨⟨a1, a2, a3⟩, ⟨b1, b2, b3⟩, t⟩⟩
  · exact Or.inl h4
  · exact Or.inr ⟨r, c, K, L, y1, y2, ⟨by rw [e 49 (by omega) (by omega)]; exact a1, by rw [e 49 (by omega) (by omega)]; exact a2, a3.c (e 50 (by omega) (by omega)) (e 51 (by omega) (by omega))⟩, ⟨by rw [e 54 (by omega) (by omega)]; exact b1, by rw [e 54 (by omega) (by omega)]; exact b2, b3.c (e 55 (by omega) (by omega)) (e 56 (by omega) (by omega))⟩, fun R C hR hC => by rw [e 59 (by omega) (by omega)]; exact t R C hR hC⟩
theorem cells_ok {P : sP} (h : px_ok P) {R C : Nat} (hR : R < 2 ^ bR P) (hC : C < 2 ^ bC P) : px_ok (sS P 6 (P 6 ^^^ bn (sC R C 6))) := by
  obtain ⟨-, ⟨r1, r2, r3⟩, ⟨c1, c2, c3⟩⟩ := h.prl
  have hC64 : C < 64 := Nat.lt_of_lt_of_le hC (Nat.le_trans (Nat.pow_le_pow_right (by omega) c3) (by decide))
  refine h.turn (fun i hi => ?_)
  have hi64 : i < 64 := by
    rcases Nat.lt_or_ge i 64 with z | z
    · exact z
    · rw [BitVec.getLsbD_of_ge _ _ z] at hi
      cases hi
  rw [nb_bn, sC_bit hC64 hi64 6 (by omega), Bool.and_eq_true, Bool.and_eq_true, decide_eq_true_iff] at hi
  obtain ⟨⟨h1, h2⟩, h3⟩ := hi
  have b1 : i / 6 < bR P := by
    by_cases z : i / 6 < bR P
    · exact z
    · rw [Nat.testBit_lt_two_pow (Nat.lt_of_lt_of_le hR (Nat.pow_le_pow_right (by omega) (by omega)))] at h2
      cases h2
  have b2 : i % 6 < bC P := by
    by_cases z : i % 6 < bC P
    · exact z
    · rw [Nat.testBit_lt_two_pow (Nat.lt_of_lt_of_le hC (Nat.pow_le_pow_right (by omega) (by omega)))] at h3
      cases h3
  exact ⟨by omega, bR P, bC P, r1, c1, b1, b2, r3, c3⟩
/-- the greatest of a set -/
def g6 (S : Nat) : Nat → Nat
  | 0 => 0
  | k + 1 => if S.testBit k = true then k else g6 S k
theorem g6_chk : (List.range 64).all (fun S => (S == 0) || decide (g6 S 6 = Nat.log2 S ∧ Nat.log2 S < 6)) = true := by decide +kernel
theorem nu_greatest {S : Nat} (h0 : 0 < S) (h : S < 64) (m : qm_M) : F_Pl_greatestOf (nI S) m = some (some (.int (nI (Nat.log2 S))), m) ∧ Nat.log2 S < 6 := by
  have c := List.all_eq_true.mp g6_chk S (List.mem_range.mpr h)
  rw [Bool.or_eq_true] at c
  have c2 : g6 S 6 = Nat.log2 S ∧ Nat.log2 S < 6 := by
    rcases c with c | c
    · have : S = 0 := by simpa using c
      omega
    · exact of_decide_eq_true c
  refine ⟨?_, c2.2⟩
  obtain ⟨m1, h1, e⟩ := lpU (fun f k (m1 : qm_M) => L_Pl_greatestOf_4 f (nI S) (nI (g6 S k)) (nI k) m1) 6 (fun k m1 => m1 = m) (fun m1 => some (some (.int (nI (Nat.log2 S))), m1)) (fun f k m1 hk hI => by
      subst hI
      have e6 : nI k < (6 : Int32) := nI_lt (b := 6) hk (by omega)
      have hb := (nI_bit1 (a := S) (k := k) (by omega) (by omega)).2
      have es : g6 S (k + 1) = if S.testBit k = true then k else g6 S k := rfl
      refine ⟨m1, rfl, ?_⟩
      show L_Pl_greatestOf_4 (f + 1) (nI S) (nI (g6 S k)) (nI k) m1 = _
      rw [le_Pl_greatestOf_4]
      unfold X_Pl_greatestOf_4
      rw [if_pos e6, nI_1, es]
      cases q : S.testBit k with
      | true => rw [if_neg (fun z => by rw [hb.mp z] at q; cases q), if_pos rfl]
      | false => rw [if_pos (hb.mpr q), if_neg (by decide)]) (fun f m1 _ => by
      have e6 : ¬ nI 6 < (6 : Int32) := by decide
      show L_Pl_greatestOf_4 (f + 1) (nI S) (nI (g6 S 6)) (nI 6) m1 = _
      rw [le_Pl_greatestOf_4]
      unfold X_Pl_greatestOf_4
      rw [if_neg e6, c2.1]) 1000000 0 m (Nat.zero_le _) (by omega) rfl
  rw [h1] at e
  exact e
