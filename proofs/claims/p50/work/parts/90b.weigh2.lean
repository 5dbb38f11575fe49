/-! the class weighs coins; a rule tuned -/
theorem or_p2 {n S : Nat} (h : S < 2 ^ n) (hn : n < 12) : nI (2 ^ n) ||| nI S = nI (2 ^ n + S) := by
  have := pow_12 hn
  have e := Nat.two_pow_add_eq_or_of_lt h 1
  rw [Nat.mul_one] at e
  rw [nI_or (by omega) (by omega), e]
def osT (κ l n S : Nat) : List Nat := (List.range S).filter (fun S => al κ l (2 ^ n + S))
theorem osT_t {κ l n S : Nat} (h : al κ l (2 ^ n + S) = true) : osT κ l n (S + 1) = osT κ l n S ++ [S] := by
  unfold osT
  rw [List.range_succ, List.filter_append, List.filter_cons_of_pos (p := fun S => al κ l (2 ^ n + S)) h, List.filter_nil]
theorem osT_f {κ l n S : Nat} (h : ¬ al κ l (2 ^ n + S) = true) : osT κ l n (S + 1) = osT κ l n S := by
  unfold osT
  rw [List.range_succ, List.filter_append, List.filter_cons_of_neg (p := fun S => al κ l (2 ^ n + S)) h, List.filter_nil, List.append_nil]
theorem osT_len (κ l n S : Nat) : (osT κ l n S).length ≤ S := by
  have h : (osT κ l n S).length ≤ (List.range S).length := List.length_filter_le _ _
  rwa [List.length_range] at h
theorem nu_weigh111 {m0 : qm_M} {o κ l n : Nat} (ho : ru o) (hn : n < 12) (hw : m0.1 (o + 1) n = nI (cw κ l n)) (hs : ∀ S, S < 2 ^ n → m0.1 (o + 3) S = nI (sw (cw κ l) n S)) :
    ∃ m1, L_Ru_weigh_111 1000000 o (nI n) (nI (2 ^ n)) 0 m0 = some (none, m1) ∧ (n < 11 → ∀ S, S < 2 ^ (n + 1) → m1.1 (o + 3) S = nI (sw (cw κ l) (n + 1) S)) ∧ m1.1 (o + 3) 0 = m0.1 (o + 3) 0 ∧ (∀ a, a ≠ o + 3 → m1.1 a = m0.1 a) ∧ m1.2 = m0.2 := by
  obtain ⟨⟨r1, r2, r3, r4, r5, r6⟩, ⟨a1, a2⟩, ⟨b1, b2⟩, ⟨c1, c2⟩, ⟨s1, s2, s3, s4, s5⟩⟩ := ru_f ho
  have h2 := pow_12 hn
  have hp := Nat.two_pow_pos n
  by_cases h11 : n < 11
  · have h10 : 2 ^ n ≤ 1024 := Nat.le_trans (Nat.pow_le_pow_right (by omega) (show n ≤ 10 by omega)) (by decide)
    have e11 : nI n < (11 : Int32) := nI_lt (b := 11) h11 (by omega)
    obtain ⟨m1, ⟨g1, g2, g3⟩, e⟩ := lpU (fun f S (m : qm_M) => L_Ru_weigh_111 f o (nI n) (nI (2 ^ n)) (nI S) m) (2 ^ n) (fun S m => (∀ T, T < 2 ^ n + S → m.1 (o + 3) T = nI (sw (cw κ l) (n + 1) T)) ∧ (∀ a, a ≠ o + 3 → m.1 a = m0.1 a) ∧ m.2 = m0.2) (fun m => some (none, m)) (fun f S m hS hI => by
        obtain ⟨g1, g2, g3⟩ := hI
        have e1 := g1 S (by omega)
        rw [sw_lo _ hS] at e1
        have e2 : m.1 (o + 1) n = nI (cw κ l n) := by rw [g2 (o + 1) (by omega)]; exact hw
        refine ⟨qm_sI m (o + 3) (2 ^ n + S) (nI (sw (cw κ l) n S) ^^^ nI (cw κ l n)), ⟨fun T hT => ?_, fun a ha => by rw [(qm_sI_other a ha).1]; exact g2 a ha, g3⟩, ?_⟩
        · by_cases q : T = 2 ^ n + S
          · rw [q, me_self, sw_hi _ hS]
            have h3 := @cw_12 κ l n hn
            have h4 := @sw_12 κ l n S (by omega)
            exact nI_xor (by omega) (by omega)
          · rw [me_oth _ _ _ _ (Or.inr q)]
            exact g1 T (by omega)
        · show L_Ru_weigh_111 (f + 1) o (nI n) (nI (2 ^ n)) (nI S) m = _
          rw [le_Ru_weigh_111]
          unfold X_Ru_weigh_111
          rw [if_pos (nI_lt hS (by omega)), if_pos e11, r1, r2, r4, a1, a2, c1, c2, qe_b_e, qe_b_e, qe_b_e, qm_in_nI (show S < 2048 by omega) (by omega), qe_b_e, qe_b_e, qe_b_e, qm_in_nI (show n < 12 by omega) (by omega), qe_b_e, qe_b_e, or_p2 hS hn, qm_in_nI (show 2 ^ n + S < 2048 by omega) (by omega), qe_b_e, nI_clamp (by omega), nI_clamp (by omega), nI_clamp (by omega), e1, e2, nI_1]) (fun f m _ => by
        show L_Ru_weigh_111 (f + 1) o (nI n) (nI (2 ^ n)) (nI (2 ^ n)) m = _
        rw [le_Ru_weigh_111]
        unfold X_Ru_weigh_111
        rw [if_neg (nI_nlt (Nat.le_refl _) (by omega))]) 1000000 0 m0 (Nat.zero_le _) (by omega) ⟨fun T hT => by rw [sw_lo _ (by omega)]; exact hs T (by omega), fun _ _ => rfl, rfl⟩
    refine ⟨m1, e, fun _ S hS => g1 S (by rw [Nat.pow_succ] at hS; omega), ?_, g2, g3⟩
    rw [g1 0 (by omega), sw_lo _ hp, hs 0 hp]
  · refine ⟨m0, ?_, fun z => absurd z h11, rfl, fun _ _ => rfl, rfl⟩
    have e11 : ¬ nI n < (11 : Int32) := nI_nlt (b := 11) (by omega) (by omega)
    have e0 : (0 : Int32) < nI (2 ^ n) := nI_lt (a := 0) hp (by omega)
    rw [show (1000000 : Nat) = 999999 + 1 from rfl, le_Ru_weigh_111]
    unfold X_Ru_weigh_111
    rw [if_pos e0, if_neg e11]
theorem nu_weigh37 {m0 : qm_M} {o κ l n : Nat} (ho : ru o) (h4 : m0.1 o 4 = nI κ) (h5 : m0.1 o 5 = nI l) (hκ : κ ≤ 3) (hl : 1 ≤ l ∧ l ≤ 8) (hn : n < 12) (hs : ∀ S, S < 2 ^ n → m0.1 (o + 3) S = nI (sw (cw κ l) n S)) (hm : met m0 o []) (hc : m0.1 (o + 2) n = 0) :
    ∃ m1, L_Ru_weigh_37 1000000 o (nI n) (nI (2 ^ n)) 0 m0 = L_Ru_weigh_111 1000000 o (nI n) (nI (2 ^ n)) 0 (qm_sI m1 (o + 1) n (nI (cw κ l n))) ∧ m1.1 (o + 2) n = nI (os κ l n).length ∧ (∀ i, i ≠ n → m1.1 (o + 2) i = m0.1 (o + 2) i) ∧ (∀ a, a ≠ o + 2 → m1.1 a = m0.1 a) ∧ ∀ a, a ≠ o + 4 → m1.2 a = m0.2 a := by
  obtain ⟨⟨r1, r2, r3, r4, r5, r6⟩, ⟨a1, a2⟩, ⟨b1, b2⟩, ⟨c1, c2⟩, ⟨s1, s2, s3, s4, s5⟩⟩ := ru_f ho
  have h2 := pow_12 hn
  have hp := Nat.two_pow_pos n
  obtain ⟨m1, ⟨g1, g2, g3, g4, g5⟩, e⟩ := lpU (fun f S (m : qm_M) => L_Ru_weigh_37 f o (nI n) (nI (2 ^ n)) (nI S) m) (2 ^ n) (fun S m => met m o ((osT κ l n S).map (sw (cw κ l) n)) ∧ m.1 (o + 2) n = nI (osT κ l n S).length ∧ (∀ i, i ≠ n → m.1 (o + 2) i = m0.1 (o + 2) i) ∧ (∀ a, a ≠ o + 2 → m.1 a = m0.1 a) ∧ ∀ a, a ≠ o + 4 → m.2 a = m0.2 a) (fun m => L_Ru_weigh_111 1000000 o (nI n) (nI (2 ^ n)) 0 (qm_sI m (o + 1) n (nI (cw κ l n)))) (fun f S m hS hI => by
      obtain ⟨g1, g2, g3, g4, g5⟩ := hI
      have hal := nu_allows (m := m) (S := 2 ^ n + S) r1 (by rw [g4 o (by omega)]; exact h4) (by rw [g4 o (by omega)]; exact h5) hκ hl (by omega)
      have hlen := osT_len κ l n S
      by_cases q : al κ l (2 ^ n + S) = true
      · have e1 : m.1 (o + 3) S = nI (sw (cw κ l) n S) := by rw [g4 (o + 3) (by omega)]; exact hs S hS
        have hv := @sw_12 κ l n S (by omega)
        generalize hvv : sw (cw κ l) n S = v at e1 hv
        have g1' : met (qm_sI m (o + 2) n (nI ((osT κ l n S).length + 1))) o ((osT κ l n S).map (sw (cw κ l) n)) := g1.c rfl
        refine ⟨qm_sL (qm_sI m (o + 2) n (nI ((osT κ l n S).length + 1))) (o + 4) (v / 64) ((qm_sI m (o + 2) n (nI ((osT κ l n S).length + 1))).2 (o + 4) (v / 64) ||| bn (nb_e (v % 64))), ⟨?_, ?_, fun i hi => ?_, fun a ha => ?_, fun a ha => ?_⟩, ?_⟩
        · rw [osT_t q, List.map_append]
          have e9 : List.map (sw (cw κ l) n) [S] = [v] := by rw [← hvv]; rfl
          rw [e9]
          exact g1'.add hv
        · rw [osT_t q, List.length_append]
          exact me_self _ _ _ _
        · exact (me_oth _ _ _ _ (Or.inr hi)).trans (g3 i hi)
        · exact (qm_sI_other a ha).1.trans (g4 a ha)
        · rw [(qm_sL_other a ha).2]
          exact g5 a ha
        · show L_Ru_weigh_37 (f + 1) o (nI n) (nI (2 ^ n)) (nI S) m = _
          rw [le_Ru_weigh_37]
          unfold X_Ru_weigh_37
          have e3 : (qm_sI m (o + 2) n (nI ((osT κ l n S).length + 1))).1 (o + 3) S = nI v := (me_oth _ _ _ _ (Or.inl (by omega))).trans e1
          rw [if_pos (nI_lt hS (by omega)), r1, qe_b_e, or_p2 hS hn, hal, qe_rI_e, if_pos q, if_neg n10, r3, r4, r5, b1, b2, c1, c2, s2, s3, s4, s5, qe_b_e, qe_b_e, qm_in_nI (show n < 12 by omega) (by omega), qe_b_e, qe_b_e, qe_b_e, nI_clamp (by omega), g2, nI_1]
          dsimp only
          rw [nI_clamp (show S < 2 ^ 31 by omega), e3, nI_shr6 (by omega), nI_and63 (by omega), show v / 64 % 64 = v / 64 by omega, qm_in_nI (show S < 2048 by omega) (by omega), qm_in_nI (show v / 64 < 64 by omega) (by omega), nI_clamp (by omega), nI_and63 (by omega), no_lshl1 (by omega), qm_gL_o (by omega), nI_1]
          rfl
      · refine ⟨m, ⟨by rw [osT_f q]; exact g1, by rw [osT_f q]; exact g2, g3, g4, g5⟩, ?_⟩
        show L_Ru_weigh_37 (f + 1) o (nI n) (nI (2 ^ n)) (nI S) m = _
        rw [le_Ru_weigh_37]
        unfold X_Ru_weigh_37
        rw [if_pos (nI_lt hS (by omega)), r1, qe_b_e, or_p2 hS hn, hal, qe_rI_e, if_neg q, if_pos rfl, nI_1]) (fun f m hI => by
      obtain ⟨g1, g2, g3, g4, g5⟩ := hI
      have hlen := osT_len κ l n (2 ^ n)
      have hlu := nu_leastUnmet ho g1 (by rw [List.length_map]; omega)
      have ecw : mx ((osT κ l n (2 ^ n)).map (sw (cw κ l) n)) = cw κ l n := (cw_eq κ l n).symm
      rw [ecw] at hlu
      show L_Ru_weigh_37 (f + 1) o (nI n) (nI (2 ^ n)) (nI (2 ^ n)) m = _
      rw [le_Ru_weigh_37]
      unfold X_Ru_weigh_37
      rw [if_neg (nI_nlt (Nat.le_refl _) (by omega)), r1, qe_b_e, qe_b_e, hlu, qe_rI_e, r2, a1, a2, qe_b_e, qm_in_nI (show n < 12 by omega) (by omega), qe_b_e, nI_clamp (by omega)]) 1000000 0 m0 (Nat.zero_le _) (by omega) ⟨hm, hc, fun _ _ => rfl, fun _ _ => rfl, fun _ _ => rfl⟩
  exact ⟨m1, e, g2, g3, g4, g5⟩
theorem nu_weigh {m0 : qm_M} {o κ l n : Nat} (ho : ru o) (h4 : m0.1 o 4 = nI κ) (h5 : m0.1 o 5 = nI l) (hκ : κ ≤ 3) (hl : 1 ≤ l ∧ l ≤ 8) (hn : n < 12) (hs : ∀ S, S < 2 ^ n → m0.1 (o + 3) S = nI (sw (cw κ l) n S)) :
    ∃ m1, F_Ru_weigh o (nI n) m0 = some (none, m1) ∧ (∀ i, m1.1 (o + 1) i = if i = n then nI (cw κ l n) else m0.1 (o + 1) i) ∧ (∀ i, m1.1 (o + 2) i = if i = n then nI (os κ l n).length else m0.1 (o + 2) i) ∧ (n < 11 → ∀ S, S < 2 ^ (n + 1) → m1.1 (o + 3) S = nI (sw (cw κ l) (n + 1) S)) ∧ m1.1 (o + 3) 0 = m0.1 (o + 3) 0 ∧ rfr o m0 m1 := by
  obtain ⟨⟨r1, r2, r3, r4, r5, r6⟩, ⟨a1, a2⟩, ⟨b1, b2⟩, ⟨c1, c2⟩, ⟨s1, s2, s3, s4, s5⟩⟩ := ru_f ho
  have h2 := pow_12 hn
  obtain ⟨m1, ⟨g1, g2, g3⟩, e⟩ := lpU (fun f k (m : qm_M) => L_Ru_weigh_2 f o (nI n) (nI k) m) 64 (fun k m => (∀ j, j < k → m.2 (o + 4) j = 0) ∧ m.1 = m0.1 ∧ ∀ a, a ≠ o + 4 → m.2 a = m0.2 a) (fun m => L_Ru_weigh_37 1000000 o (nI n) (nI (2 ^ n)) 0 (qm_sI m (o + 2) n 0)) (fun f k m hk hI => by
      obtain ⟨g1, g2, g3⟩ := hI
      refine ⟨qm_sL m (o + 4) k 0, ⟨fun j hj => ?_, g2, fun a ha => by rw [(qm_sL_other a ha).2]; exact g3 a ha⟩, ?_⟩
      · rw [me_2L, if_pos rfl]
        by_cases q : j = k
        · rw [if_pos q]
        · rw [if_neg q]
          exact g1 j (by omega)
      · show L_Ru_weigh_2 (f + 1) o (nI n) (nI k) m = _
        rw [le_Ru_weigh_2]
        unfold X_Ru_weigh_2
        rw [r1, qe_b_e, r5, s1, qe_b_e, s2, liN, if_pos (nI_lt hk (by omega)), qe_b_e, s4, qe_b_e, s5, qm_in_nI hk (by omega), qe_b_e, nI_clamp (by omega), nI_1]) (fun f m _ => by
      show L_Ru_weigh_2 (f + 1) o (nI n) (nI 64) m = _
      rw [le_Ru_weigh_2]
      unfold X_Ru_weigh_2
      rw [r1, qe_b_e, r5, s1, qe_b_e, s2, liN, if_neg (nI_nlt (Nat.le_refl _) (by omega)), qe_b_e, r3, b1, b2, qe_b_e, qm_in_nI (show n < 12 by omega) (by omega), qe_b_e, nI_clamp (by omega), no_ishl1 (by omega)]) 1000000 0 m0 (Nat.zero_le _) (by omega) ⟨fun j hj => absurd hj (Nat.not_lt_zero _), rfl, fun _ _ => rfl⟩
  have hmet : met (qm_sI m1 (o + 2) n 0) o [] := fun j b hj hb => by
    have e9 : (qm_sI m1 (o + 2) n 0).2 (o + 4) j = 0 := g1 j hj
    rw [e9]
    have e8 : (nb (0 : Int64)).getLsbD b = false := BitVec.getLsbD_zero
    rw [e8]
    exact ⟨fun z => (by cases z), fun z => absurd z List.not_mem_nil⟩
  obtain ⟨m2, d1, d2, d3, d4, d5⟩ := nu_weigh37 (m0 := qm_sI m1 (o + 2) n 0) ho (by rw [me_oth _ _ _ _ (Or.inl (by omega)), g2]; exact h4) (by rw [me_oth _ _ _ _ (Or.inl (by omega)), g2]; exact h5) hκ hl hn (fun S hS => by rw [me_oth _ _ _ _ (Or.inl (by omega)), g2]; exact hs S hS) hmet (me_self _ _ _ _)
  have k1 : ∀ a, a ≠ o + 2 → m2.1 a = m0.1 a := fun a ha => by rw [d4 a ha, (qm_sI_other a ha).1, g2]
  obtain ⟨m3, f1, f2, f3, f4, f5⟩ := nu_weigh111 (m0 := qm_sI m2 (o + 1) n (nI (cw κ l n))) ho hn (me_self _ _ _ _) (fun S hS => by rw [me_oth _ _ _ _ (Or.inl (by omega)), k1 (o + 3) (by omega)]; exact hs S hS)
  refine ⟨m3, ?_, fun i => ?_, fun i => ?_, f2, ?_, ⟨fun a x y z => ?_, fun a x => ?_⟩⟩
  · unfold F_Ru_weigh X_Ru_weigh_e
    exact (e.trans d1).trans f1
  · rw [f4 (o + 1) (by omega)]
    by_cases q : i = n
    · rw [if_pos q, q, me_self]
    · rw [if_neg q, me_oth _ _ _ _ (Or.inr q), k1 (o + 1) (by omega)]
  · rw [f4 (o + 2) (by omega), me_oth _ _ _ _ (Or.inl (by omega))]
    by_cases q : i = n
    · rw [if_pos q, q, d2]
    · rw [if_neg q, d3 i q, me_oth _ _ _ _ (Or.inr q), g2]
  · rw [f3, me_oth _ _ _ _ (Or.inl (by omega)), k1 (o + 3) (by omega)]
  · rw [f4 a z, (qm_sI_other a x).1, k1 a y]
  · rw [f5]
    show m2.2 a = _
    rw [d5 a x]
    exact g3 a x
/-- a rule's tables -/
def tabR (m : qm_M) (o κ l : Nat) : Prop := ∀ n, n < 12 → m.1 (o + 1) n = nI (cw κ l n) ∧ m.1 (o + 2) n = nI (os κ l n).length
def cvR (m : qm_M) (o : Nat) : Prop := m.1 (o + 3) 0 = 0 ∧ (m.1 o 4 = -1 ∨ ∃ κ l, κ ≤ 3 ∧ l ≤ 8 ∧ m.1 o 4 = nI κ ∧ m.1 o 5 = nI l ∧ tabR m o κ l)
def rft (o : Nat) (m m1 : qm_M) : Prop := (∀ a, a < o ∨ o + 3 < a → m1.1 a = m.1 a) ∧ (∀ j, j ≠ 4 → j ≠ 5 → m1.1 o j = m.1 o j) ∧ ∀ a, a ≠ o + 4 → m1.2 a = m.2 a
theorem nu_tuneR {m0 : qm_M} {o κ l : Nat} (ho : ru o) (hv : cvR m0 o) (hκ : κ ≤ 3) (hl : 1 ≤ l ∧ l ≤ 8) :
    ∃ m1, F_Ru_tune o (nI κ) (nI l) m0 = some (none, m1) ∧ m1.1 (o + 3) 0 = 0 ∧ m1.1 o 4 = nI κ ∧ m1.1 o 5 = nI l ∧ tabR m1 o κ l ∧ rft o m0 m1 := by
  obtain ⟨⟨r1, r2, r3, r4, r5, r6⟩, ⟨a1, a2⟩, ⟨b1, b2⟩, ⟨c1, c2⟩, ⟨s1, s2, s3, s4, s5⟩⟩ := ru_f ho
  obtain ⟨v1, v2⟩ := hv
  have fin : ∃ m1, L_Ru_tune_29 1000000 o 0 (qm_sI (qm_sI m0 o 4 (nI κ)) o 5 (nI l)) = some (none, m1) ∧ m1.1 (o + 3) 0 = 0 ∧ m1.1 o 4 = nI κ ∧ m1.1 o 5 = nI l ∧ tabR m1 o κ l ∧ rft o m0 m1 := by
    obtain ⟨m1, ⟨g1, g2, g3, g4, g5, g6⟩, e⟩ := lpU (fun f n (m : qm_M) => L_Ru_tune_29 f o (nI n) m) 12 (fun n m => m.1 o 4 = nI κ ∧ m.1 o 5 = nI l ∧ (∀ i, i < n → m.1 (o + 1) i = nI (cw κ l i) ∧ m.1 (o + 2) i = nI (os κ l i).length) ∧ (n < 12 → ∀ S, S < 2 ^ n → m.1 (o + 3) S = nI (sw (cw κ l) n S)) ∧ m.1 (o + 3) 0 = 0 ∧ rft o m0 m) (fun m => some (none, m)) (fun f n m hn hI => by
        obtain ⟨g1, g2, g3, g4, g5, g6⟩ := hI
        obtain ⟨m1, e1, e2, e3, e4, e5, e6⟩ := nu_weigh ho g1 g2 hκ hl hn (g4 hn)
        refine ⟨m1, ⟨by rw [e6.1 o (by omega) (by omega) (by omega)]; exact g1, by rw [e6.1 o (by omega) (by omega) (by omega)]; exact g2, fun i hi => ?_, fun h12 S hS => e4 (by omega) S hS, by rw [e5]; exact g5, ⟨fun a x => ?_, fun j x y => ?_, fun a x => ?_⟩⟩, ?_⟩
        · rw [e2 i, e3 i]
          by_cases q : i = n
          · rw [if_pos q, if_pos q, q]
            exact ⟨rfl, rfl⟩
          · rw [if_neg q, if_neg q]
            exact g3 i (by omega)
        · rw [e6.1 a (by omega) (by omega) (by omega)]
          exact g6.1 a x
        · rw [e6.1 o (by omega) (by omega) (by omega)]
          exact g6.2.1 j x y
        · rw [e6.2 a x]
          exact g6.2.2 a x
        · have e12 : nI n < (12 : Int32) := nI_lt (b := 12) hn (by omega)
          show L_Ru_tune_29 (f + 1) o (nI n) m = _
          rw [le_Ru_tune_29]
          unfold X_Ru_tune_29
          rw [if_pos e12, r1, qe_b_e, e1, qe_rV_e, nI_1]) (fun f m _ => by
        have e12 : ¬ nI 12 < (12 : Int32) := by decide
        show L_Ru_tune_29 (f + 1) o (nI 12) m = _
        rw [le_Ru_tune_29]
        unfold X_Ru_tune_29
        rw [if_neg e12]) 1000000 0 (qm_sI (qm_sI m0 o 4 (nI κ)) o 5 (nI l)) (Nat.zero_le _) (by omega) ⟨by rw [me_oth _ _ _ _ (Or.inr (by decide)), me_self], me_self _ _ _ _, fun i hi => absurd hi (Nat.not_lt_zero _), fun _ S hS => by
          rw [me_oth _ _ _ _ (Or.inl (by omega)), me_oth _ _ _ _ (Or.inl (by omega)), show S = 0 by simpa using hS]
          exact v1, by rw [me_oth _ _ _ _ (Or.inl (by omega)), me_oth _ _ _ _ (Or.inl (by omega))]; exact v1, ⟨fun a x => by rw [(qm_sI_other a (by omega)).1, (qm_sI_other a (by omega)).1], fun j x y => by rw [me_oth _ _ _ _ (Or.inr y), me_oth _ _ _ _ (Or.inr x)], fun _ _ => rfl⟩⟩
    exact ⟨m1, e, g5, g1, g2, g3, g6⟩
  unfold F_Ru_tune X_Ru_tune_e
  rw [r1, qe_b_e]
  by_cases q : m0.1 o 4 = nI κ
  · rw [if_pos q, qe_b_e]
    by_cases q2 : m0.1 o 5 = nI l
    · rw [if_pos q2]
      refine ⟨m0, rfl, v1, q, q2, ?_, fun _ _ => rfl, fun _ _ _ => rfl, fun _ _ => rfl⟩
      rcases v2 with v2 | ⟨κ', l', h1, h2, h3, h4, h5⟩
      · exact absurd (q.symm.trans v2) (nI_m1 (by omega))
      · have e1 : κ' = κ := (nI_eq (by omega) (by omega)).mp (h3.symm.trans q)
        have e2 : l' = l := (nI_eq (by omega) (by omega)).mp (h4.symm.trans q2)
        rw [← e1, ← e2]
        exact h5
    · rw [if_neg q2, qe_b_e, qe_b_e]
      exact fin
  · rw [if_neg q, qe_b_e, qe_b_e]
    exact fin
