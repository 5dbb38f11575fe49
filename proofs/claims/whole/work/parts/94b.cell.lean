/-! what is least excluded is the product; cell -/
theorem le_M_laysExcluded_41 (K28 : Int32 → Int32 → Int32 → Int32 → qm_M → Option qm_R) (n : Nat) (v1 : Int32) (v2 : Int32) (v3 : Int32) (v4 : Int32) (v5 : Int32) (m : qm_M) : L_M_laysExcluded_41 K28 (n + 1) v1 v2 v3 v4 v5 m = X_M_laysExcluded_41 F_M_place_III F_M_leastNot F_M_maySet F_M_cellsOf F_M_sumExcluded K28 (L_M_laysExcluded_41 K28 n) v1 v2 v3 v4 v5 m := rfl
theorem le_M_laysExcluded_28  (n : Nat) (v1 : Int32) (v2 : Int32) (v3 : Int32) (v4 : Int32) (m : qm_M) : L_M_laysExcluded_28 (n + 1) v1 v2 v3 v4 m = X_M_laysExcluded_28 F_M_place_III F_M_leastNot F_M_maySet F_M_cellsOf F_M_sumExcluded (L_M_laysExcluded_41 (L_M_laysExcluded_28 n) 1000000) v1 v2 v3 v4 m := rfl
theorem le_M_laysExcluded_2  (n : Nat) (v1 : Int32) (v2 : Int32) (v3 : Int32) (m : qm_M) : L_M_laysExcluded_2 (n + 1) v1 v2 v3 m = X_M_laysExcluded_2 F_M_place_III F_M_leastNot F_M_maySet F_M_cellsOf F_M_sumExcluded (L_M_laysExcluded_2 n) (L_M_laysExcluded_28 1000000) v1 v2 v3 m := rfl
theorem le_M_excludedOf_10 (K2 : Int32 → Int32 → Int32 → qm_M → Option qm_R) (n : Nat) (v1 : Int32) (v2 : Int32) (v3 : Int32) (v4 : Int32) (m : qm_M) : L_M_excludedOf_10 K2 (n + 1) v1 v2 v3 v4 m = X_M_excludedOf_10 F_M_place_III F_M_laysExcluded K2 (L_M_excludedOf_10 K2 n) v1 v2 v3 v4 m := rfl
theorem le_M_excludedOf_2  (n : Nat) (v1 : Int32) (v2 : Int32) (v3 : Int32) (m : qm_M) : L_M_excludedOf_2 (n + 1) v1 v2 v3 m = X_M_excludedOf_2 F_M_place_III F_M_laysExcluded (L_M_excludedOf_10 (L_M_excludedOf_2 n) 1000000) v1 v2 v3 m := rfl
theorem cw_6 {κ l n : Nat} (h : n < 6) : cw κ l n ≤ 32 := Nat.le_trans (cw_le κ l n) (Nat.le_trans (Nat.pow_le_pow_right (by omega) (show n ≤ 5 by omega)) (by decide))
theorem sw_6 {κ l n S : Nat} (h : n ≤ 6) : sw (cw κ l) n S < 64 := sw_lt (b := 6) n (fun i hi => by have := @cw_6 κ l i (by omega); omega)
theorem sw_top {κ l n S : Nat} (hn : n < 6) (hS : S < 2 ^ n) : sw (cw κ l) 6 (2 ^ n + S) = cw κ l n ^^^ sw (cw κ l) n S := by
  have e := sw_up (w := cw κ l) (k := n + 1) (S := 2 ^ n + S) (by rw [Nat.pow_succ]; omega) (5 - n)
  rw [show n + 1 + (5 - n) = 6 by omega] at e
  rw [e, sw_hi _ hS, Nat.xor_comm]
/-- what a move's other cells are worth -/
noncomputable def xv (K L : Nat → Nat) (r c S U : Nat) : Nat := tb (cw (K 0) (L 0) r ^^^ sw (cw (K 0) (L 0)) r S) (cw (K 1) (L 1) c ^^^ sw (cw (K 1) (L 1)) c U) ^^^ tb (cw (K 0) (L 0) r) (cw (K 1) (L 1) c)
theorem xor_64 {a b : Nat} (ha : a < 64) (hb : b < 64) : a ^^^ b < 64 := Nat.xor_lt_two_pow (n := 6) ha hb
theorem xv_ef {K L : Nat → Nat} {r c S U : Nat} (hr : r < 6) (hc : c < 6) (hS : S < 2 ^ r) (hU : U < 2 ^ c) : ef K L (2 ^ r + S) (2 ^ c + U) ^^^ ef K L (2 ^ r) (2 ^ c) = bN (xv K L r c S U) ∧ xv K L r c S U < 256 := by
  have a1 := @cw_6 (K 0) (L 0) r hr
  have b1 := @cw_6 (K 1) (L 1) c hc
  have a2 := @sw_6 (K 0) (L 0) r S (by omega)
  have b2 := @sw_6 (K 1) (L 1) c U (by omega)
  have m1 := tb_mul (xor_64 (show cw (K 0) (L 0) r < 64 by omega) a2) (xor_64 (show cw (K 1) (L 1) c < 64 by omega) b2)
  have m2 := tb_mul (show cw (K 0) (L 0) r < 64 by omega) (show cw (K 1) (L 1) c < 64 by omega)
  refine ⟨?_, Nat.xor_lt_two_pow (n := 8) m1.2 m2.2⟩
  rw [ef_p2 K L hr hc]
  unfold ef xv
  rw [sw_top hr hS, sw_top hc hU, m1.1, m2.1, ← bN_x]
theorem tar_mx {K L : Nat → Nat} {r c : Nat} (hr : r < 6) (hc : c < 6) {l : List Nat} (hl : ∀ v, v ∈ l ↔ ∃ S U, S ∈ os (K 0) (L 0) r ∧ U ∈ os (K 1) (L 1) c ∧ v = xv K L r c S U) : mx l = tb (cw (K 0) (L 0) r) (cw (K 1) (L 1) c) := by
  have a1 := @cw_6 (K 0) (L 0) r hr
  have b1 := @cw_6 (K 1) (L 1) c hc
  have ea := cw_eq (K 0) (L 0) r
  have eb := cw_eq (K 1) (L 1) c
  refine mx_un (fun hv => ?_) (fun v hv => ?_)
  · obtain ⟨S, U, hS, hU, e⟩ := (hl _).mp hv
    have a2 := @sw_6 (K 0) (L 0) r S (by omega)
    have b2 := @sw_6 (K 1) (L 1) c U (by omega)
    unfold xv at e
    have hx : tb (cw (K 0) (L 0) r ^^^ sw (cw (K 0) (L 0)) r S) (cw (K 1) (L 1) c ^^^ sw (cw (K 1) (L 1)) c U) = 0 := by
      have e2 := congrArg (fun x => x ^^^ tb (cw (K 0) (L 0) r) (cw (K 1) (L 1) c)) e
      rw [Nat.xor_self, Nat.xor_assoc, Nat.xor_self, Nat.xor_zero] at e2
      exact e2.symm
    have m1 := (tb_mul (xor_64 (show cw (K 0) (L 0) r < 64 by omega) a2) (xor_64 (show cw (K 1) (L 1) c < 64 by omega) b2)).1
    rw [hx] at m1
    have nx : ∀ {a b : Nat}, a < 64 → b < 64 → bN (a ^^^ b) = 0 → a = b := fun {a b} ha hb h => by
      have h0 : a ^^^ b = 0 := bN_inj (by have := xor_64 ha hb; omega) (by decide) h
      have h1 := congrArg (fun x => x ^^^ b) h0
      rw [Nat.xor_assoc, Nat.xor_self, Nat.xor_zero, Nat.zero_xor] at h1
      exact h1
    rcases nb_nz m1 with z | z
    · have e3 := nx (by omega) a2 z
      have := mx_no ((os (K 0) (L 0) r).map (sw (cw (K 0) (L 0)) r))
      rw [← ea] at this
      exact this (List.mem_map.mpr ⟨S, hS, e3.symm⟩)
    · have e3 := nx (by omega) b2 z
      have := mx_no ((os (K 1) (L 1) c).map (sw (cw (K 1) (L 1)) c))
      rw [← eb] at this
      exact this (List.mem_map.mpr ⟨U, hU, e3.symm⟩)
  · obtain ⟨x, y, hx, hy, e⟩ := tar_ex a1 b1 hv
    have hx2 := mx_lt ((os (K 0) (L 0) r).map (sw (cw (K 0) (L 0)) r)) x (by rw [← ea]; exact hx)
    have hy2 := mx_lt ((os (K 1) (L 1) c).map (sw (cw (K 1) (L 1)) c)) y (by rw [← eb]; exact hy)
    obtain ⟨S, hS, rfl⟩ := List.mem_map.mp hx2
    obtain ⟨U, hU, rfl⟩ := List.mem_map.mp hy2
    exact (hl v).mpr ⟨S, U, hS, hU, e.symm⟩
/-- a bit less -/
theorem hs_less (f : Nat → nb_F) {x : nb_F} {p : Nat} (hp : p < 36) (hb : x.getLsbD p = true) : hs f (nb (bn x &&& (bn (nb_e p) ^^^ -1))) 36 = hs f x 36 ^^^ f p ∧ ∀ i, i < 64 → (nb (bn x &&& (bn (nb_e p) ^^^ -1))).getLsbD i = (x.getLsbD i && !decide (i = p)) := by
  have hbit : ∀ i, i < 64 → (nb (bn x &&& (bn (nb_e p) ^^^ -1))).getLsbD i = (x.getLsbD i && !decide (i = p)) := fun i hi => by
    have e : nb (bn x &&& (bn (nb_e p) ^^^ -1)) = x &&& (nb_e p ^^^ BitVec.allOnes 64) := rfl
    rw [e, BitVec.getLsbD_and, BitVec.getLsbD_xor, nb_e_bl hi, BitVec.getLsbD_allOnes, decide_eq_true hi, Bool.xor_true]
  refine ⟨?_, hbit⟩
  have e1 : hs f (nb_e p) 36 = f p := by
    have key : ∀ n, n ≤ 36 → hs f (nb_e p) n = if p < n then f p else 0 := fun n => by
      induction n with
      | zero => intro _; rw [if_neg (Nat.not_lt_zero _)]; rfl
      | succ n ih =>
        intro hn
        have es : hs f (nb_e p) (n + 1) = hs f (nb_e p) n ^^^ (if (nb_e p).getLsbD n = true then f n else 0) := rfl
        rw [es, ih (by omega), nb_e_bl (by omega)]
        by_cases q : n = p
        · rw [if_neg (show ¬ p < n by omega), if_pos (decide_eq_true q), if_pos (show p < n + 1 by omega), nb_0x, q]
        · rw [if_neg (show ¬ decide (n = p) = true by rw [decide_eq_true_iff]; exact q), nb_x0]
          by_cases z : p < n
          · rw [if_pos z, if_pos (by omega)]
          · rw [if_neg z, if_neg (by omega)]
    rw [key 36 (Nat.le_refl _), if_pos hp]
  have e2 : nb (bn x &&& (bn (nb_e p) ^^^ -1)) = x ^^^ nb_e p := by
    apply BitVec.eq_of_getLsbD_eq
    intro i hi
    rw [hbit i hi, BitVec.getLsbD_xor, nb_e_bl hi]
    by_cases q : i = p
    · rw [q, hb, decide_eq_true rfl]
      rfl
    · rw [decide_eq_false q]
      simp
  rw [e2, hs_x, e1]
def exd (m : qm_M) (K L : Nat → Nat) (r c C : Nat) : Prop := ∀ i, i < 36 → i % 6 < C → i / 6 < r ∨ i / 6 = r ∧ i % 6 < c → m.1 135 i = iB (cf K L i)
def lef (m m1 : qm_M) : Prop := (∀ a, a ≠ 134 → a ≠ 135 → m1.1 a = m.1 a) ∧ m1.2 = m.2
theorem lef.rf (m : qm_M) : lef m m := ⟨fun _ _ _ => rfl, rfl⟩
theorem lef.tr {m m1 m2 : qm_M} (h : lef m m1) (g : lef m1 m2) : lef m m2 := ⟨fun a x y => (g.1 a x y).trans (h.1 a x y), g.2.trans h.2⟩
theorem lef.now {m m1 : qm_M} {P : sP} (g : lef m m1) (h : ms_now m P) : ms_now m1 P := fun i hi => by rw [g.2]; exact h i hi
theorem lef.lcf {m m1 : qm_M} (g : lef m m1) : lcf m m1 := ⟨fun a _ x y _ => g.1 a x y, g.2⟩
theorem mt_laysExcluded {m0 : qm_M} {P : sP} (hP : ms_now m0 P) {K L : Nat → Nat} (hr : prl P K L) {r c C : Nat} (hr6 : r < 6) (hc : c < C) (hC : C ≤ 6) (hx : exd m0 K L r c C) :
    ∃ m1, F_M_laysExcluded (nI r) (nI c) m0 = some (none, m1) ∧ exd m1 K L r (c + 1) C ∧ lef m0 m1 := by
  have hc6 : c < 6 := by omega
  obtain ⟨r1, r2, r3, r4⟩ := hr 0 (by omega)
  obtain ⟨s1, s2, s3, s4⟩ := hr 1 (by omega)
  have pr := (p2_6 hr6).2.2
  have pc := (p2_6 hc6).2.2
  have pr0 := Nat.two_pow_pos r
  have pc0 := Nat.two_pow_pos c
  have pr2 : 2 ^ r ≤ 32 := Nat.le_trans (Nat.pow_le_pow_right (by omega) (show r ≤ 5 by omega)) (by decide)
  have pc2 : 2 ^ c ≤ 32 := Nat.le_trans (Nat.pow_le_pow_right (by omega) (show c ≤ 5 by omega)) (by decide)
  obtain ⟨ma, ⟨g1, g2, g3⟩, ea⟩ := lpU (fun f k (m : qm_M) => L_M_laysExcluded_2 f (nI r) (nI c) (nI k) m) 65536 (fun k m => (∀ u, u < k → m.1 134 u = 0) ∧ (∀ a, a ≠ 134 → m.1 a = m0.1 a) ∧ m.2 = m0.2) (fun m => L_M_laysExcluded_28 1000000 (nI r) (nI c) (nI 0) (nI (2 ^ r + 0)) m) (fun f k m hk hI => by
      obtain ⟨g1, g2, g3⟩ := hI
      refine ⟨qm_sI m 134 k 0, ⟨fun u hu => ?_, fun a ha => by rw [(qm_sI_other a ha).1]; exact g2 a ha, g3⟩, ?_⟩
      · by_cases q : u = k
        · rw [q, me_self]
        · rw [me_oth _ _ _ _ (Or.inr q)]
          exact g1 u (by omega)
      · have e4 : nI k < (65536 : Int32) := nI_lt (b := 65536) hk (by omega)
        have e5 : (0 : Int32) &&& 1 = 0 := by decide
        show L_M_laysExcluded_2 (f + 1) (nI r) (nI c) (nI k) m = _
        rw [le_M_laysExcluded_2]
        unfold X_M_laysExcluded_2
        rw [if_pos e4, qm_in_nI hk (by omega), qe_b_e, nI_clamp (by omega), e5, nI_1]) (fun f m _ => by
      have e4 : ¬ nI 65536 < (65536 : Int32) := by decide
      show L_M_laysExcluded_2 (f + 1) (nI r) (nI c) (nI 65536) m = _
      rw [le_M_laysExcluded_2]
      unfold X_M_laysExcluded_2
      rw [if_neg e4, no_ishl1 (by omega)]
      rfl) 1000000 0 m0 (Nat.zero_le _) (by omega) ⟨fun u hu => absurd hu (Nat.not_lt_zero _), fun _ _ => rfl, rfl⟩
  -- marked: the values of the moves so far
  let J : Nat → Nat → List Nat × qm_M → Prop := fun S U w => metM w.2 65536 w.1 ∧ w.1.length ≤ 32 * S + U ∧ (∀ v, v ∈ w.1 ↔ ∃ A B, (A < S ∧ B < 2 ^ c ∨ A = S ∧ B < U) ∧ al (K 0) (L 0) (2 ^ r + A) = true ∧ al (K 1) (L 1) (2 ^ c + B) = true ∧ v = xv K L r c A B) ∧ (∀ a, a ≠ 134 → w.2.1 a = m0.1 a) ∧ w.2.2 = m0.2
  obtain ⟨w1, hJ, e⟩ := lpU (fun f S (w : List Nat × qm_M) => L_M_laysExcluded_28 f (nI r) (nI c) (nI w.1.length) (nI (2 ^ r + S)) w.2) (2 ^ r) (fun S w => J S 0 w) (fun w => some (none, qm_sI w.2 135 (6 * r + c) (nI (mx w.1)))) (fun f S w hS hJ => by
      obtain ⟨w1, hJ1, e⟩ := lpU (fun f2 U (w : List Nat × qm_M) => L_M_laysExcluded_41 (L_M_laysExcluded_28 f) f2 (nI r) (nI c) (nI w.1.length) (nI (2 ^ r + S)) (nI (2 ^ c + U)) w.2) (2 ^ c) (fun U w => J S U w) (fun w => L_M_laysExcluded_28 f (nI r) (nI c) (nI w.1.length) (nI (2 ^ r + (S + 1))) w.2) (fun f2 U w hU hJ => by
          obtain ⟨l, m⟩ := w
          obtain ⟨j1, j2, j3, j4, j5⟩ := hJ
          dsimp only at j1 j2 j3 j4 j5
          have hnow : ms_now m P := fun i hi => by rw [j5]; exact hP i hi
          have hm0 := mt_maySet (m := m) (v := 0) hnow (by omega) r1 r2 r3 r4 (show 0 < 2 ^ r + S by omega) (by omega)
          have hm1 := mt_maySet (m := m) (v := 1) hnow (by omega) s1 s2 s3 s4 (show 0 < 2 ^ c + U by omega) (by omega)
          have e3 : nI (2 ^ c + U) < qo_ishl (2 : Int32) (nI c) := by rw [ishl2 (by omega)]; exact nI_lt (by omega) (by omega)
          have ea : nI (2 ^ c + U) + 1 = nI (2 ^ c + (U + 1)) := nI_add _ 1
          have z0 : (0 : Int32) = nI 0 := rfl
          have z1 : (1 : Int32) = nI 1 := rfl
          have skip : (∀ x, ¬ (al (K 0) (L 0) (2 ^ r + S) = true ∧ al (K 1) (L 1) (2 ^ c + U) = true ∧ x = xv K L r c S U)) → J S (U + 1) (l, m) := fun hno => by
            refine ⟨j1, by show l.length ≤ _; omega, fun v => (j3 v).trans ⟨?_, ?_⟩, j4, j5⟩
            · rintro ⟨A, B, h1, h2, h3, h4⟩
              exact ⟨A, B, by omega, h2, h3, h4⟩
            · rintro ⟨A, B, h1, h2, h3, h4⟩
              by_cases q : A = S ∧ B = U
              · rw [q.1, q.2] at h4
                rw [q.1] at h2
                rw [q.2] at h3
                exact absurd ⟨h2, h3, h4⟩ (hno v)
              · exact ⟨A, B, by omega, h2, h3, h4⟩
          show ∃ w', _ ∧ L_M_laysExcluded_41 (L_M_laysExcluded_28 f) (f2 + 1) (nI r) (nI c) (nI l.length) (nI (2 ^ r + S)) (nI (2 ^ c + U)) m = _
          rw [le_M_laysExcluded_41]
          unfold X_M_laysExcluded_41
          rw [if_pos e3, z0, hm0, qe_rI_e, ea]
          by_cases q0 : al (K 0) (L 0) (2 ^ r + S) = true
          · rw [if_pos q0, if_neg (show ¬ (1 : Int32) = nI 0 from n10), z1, hm1, qe_rI_e]
            by_cases q1 : al (K 1) (L 1) (2 ^ c + U) = true
            · have hb : (sC (2 ^ r + S) (2 ^ c + U) 6).getLsbD (6 * r + c) = true := by
                rw [sC_bit6 (by omega) hr6 hc6, Nat.testBit_two_pow_add_eq, Nat.testBit_lt_two_pow hS, Nat.testBit_two_pow_add_eq, Nat.testBit_lt_two_pow hU]
                rfl
              obtain ⟨h1, h2⟩ := hs_less (cf K L) (show 6 * r + c < 36 by omega) hb
              have hsum := mt_sumExcluded (m := m) (f := cf K L) (x := bn (sC (2 ^ r + S) (2 ^ c + U) 6) &&& (bn (nb_e (6 * r + c)) ^^^ -1)) (fun i hi hbit => by
                rw [h2 i (by omega), sC_bit (by omega) (by omega) 6 (by omega), Bool.and_eq_true, Bool.and_eq_true, Bool.and_eq_true, Bool.not_eq_true', decide_eq_false_iff_not, decide_eq_true_iff] at hbit
                obtain ⟨⟨⟨-, t1⟩, t2⟩, t3⟩ := hbit
                have hi6 : i / 6 ≤ r := by
                  by_cases z : r < i / 6
                  · rw [Nat.testBit_lt_two_pow (Nat.lt_of_lt_of_le (show 2 ^ r + S < 2 ^ (r + 1) by rw [Nat.pow_succ]; omega) (Nat.pow_le_pow_right (by omega) z))] at t1
                    cases t1
                  · omega
                have hic : i % 6 ≤ c := by
                  by_cases z : c < i % 6
                  · rw [Nat.testBit_lt_two_pow (Nat.lt_of_lt_of_le (show 2 ^ c + U < 2 ^ (c + 1) by rw [Nat.pow_succ]; omega) (Nat.pow_le_pow_right (by omega) z))] at t2
                    cases t2
                  · omega
                rw [j4 135 (by decide)]
                exact hx i hi (by omega) (by omega))
              obtain ⟨x1, x2⟩ := xv_ef (K := K) (L := L) hr6 hc6 hS hU
              have ev : hs (cf K L) (nb (bn (sC (2 ^ r + S) (2 ^ c + U) 6) &&& (bn (nb_e (6 * r + c)) ^^^ -1))) 36 = bN (xv K L r c S U) := by
                rw [h1, hs_move K L (by omega), ← x1]
                unfold cf
                rw [show (6 * r + c) / 6 = r by omega, show (6 * r + c) % 6 = c by omega]
              have ei : iB (bN (xv K L r c S U)) = nI (xv K L r c S U) := by
                unfold iB
                rw [bN_toNat (by omega)]
              have e5 : nI 1 &&& nI 1 = 1 := by decide
              rw [if_pos q1, if_neg (show ¬ (1 : Int32) = nI 0 from n10), mt_cellsOf (by omega) (by omega), qe_rL_e]
              unfold F_M_place_III X_M_place_III_e
              have elsh : qo_lshl (nI 1).toInt64 (nI (6 * r + c)) = bn (nb_e (6 * r + c)) := no_lshl1 (by omega)
              have elsh' : qo_lshl (1 : Int64) (nI (6 * r + c)) = bn (nb_e (6 * r + c)) := no_lshl1 (by omega)
              rw [qe_rI_e, nI_6, elsh', hsum, qe_rI_e, ev, ei, qm_in_nI (show xv K L r c S U < 65536 by omega) (by omega), qe_b_e, nI_clamp (by omega), e5]
              refine ⟨(l ++ [xv K L r c S U], qm_sI m 134 (xv K L r c S U) 1), ⟨j1.add _, by show (l ++ [xv K L r c S U]).length ≤ _; rw [List.length_append, List.length_singleton]; omega, fun v => ?_, fun a ha => by rw [(qm_sI_other a ha).1]; exact j4 a ha, j5⟩, ?_⟩
              · rw [List.mem_append, List.mem_singleton, j3 v]
                constructor
                · rintro (⟨A, B, t1, t2, t3, t4⟩ | t)
                  · exact ⟨A, B, by omega, t2, t3, t4⟩
                  · exact ⟨S, U, Or.inr ⟨rfl, by omega⟩, q0, q1, t⟩
                · rintro ⟨A, B, t1, t2, t3, t4⟩
                  by_cases q : A = S ∧ B = U
                  · rw [q.1, q.2] at t4
                    exact Or.inr t4
                  · exact Or.inl ⟨A, B, by omega, t2, t3, t4⟩
              · show L_M_laysExcluded_41 (L_M_laysExcluded_28 f) f2 (nI r) (nI c) (nI l.length + nI 1) (nI (2 ^ r + S)) (nI (2 ^ c + (U + 1))) _ = _
                rw [nI_add, List.length_append, List.length_singleton]
            · rw [if_neg q1]
              exact ⟨(l, m), skip (fun x h => q1 h.2.1), if_pos rfl⟩
          · rw [if_neg q0]
            exact ⟨(l, m), skip (fun x h => q0 h.1), if_pos rfl⟩) (fun f2 w _ => by
          have e3 : ¬ nI (2 ^ c + 2 ^ c) < qo_ishl (2 : Int32) (nI c) := by rw [ishl2 (by omega)]; exact nI_nlt (Nat.le_refl _) (by omega)
          have ea : nI (2 ^ r + S) + 1 = nI (2 ^ r + (S + 1)) := nI_add _ 1
          show L_M_laysExcluded_41 (L_M_laysExcluded_28 f) (f2 + 1) (nI r) (nI c) (nI w.1.length) (nI (2 ^ r + S)) (nI (2 ^ c + 2 ^ c)) w.2 = _
          rw [le_M_laysExcluded_41]
          unfold X_M_laysExcluded_41
          rw [if_neg e3, ea]) 1000000 0 w (Nat.zero_le _) (by omega) hJ
      obtain ⟨j1, j2, j3, j4, j5⟩ := hJ1
      refine ⟨w1, ⟨j1, by omega, fun v => (j3 v).trans ⟨?_, ?_⟩, j4, j5⟩, ?_⟩
      · rintro ⟨A, B, h1, h2⟩
        exact ⟨A, B, by omega, h2⟩
      · rintro ⟨A, B, h1, h2⟩
        exact ⟨A, B, by omega, h2⟩
      · have e3 : nI (2 ^ r + S) < qo_ishl (2 : Int32) (nI r) := by rw [ishl2 (by omega)]; exact nI_lt (by omega) (by omega)
        show L_M_laysExcluded_28 (f + 1) (nI r) (nI c) (nI w.1.length) (nI (2 ^ r + S)) w.2 = _
        rw [le_M_laysExcluded_28]
        unfold X_M_laysExcluded_28
        rw [if_pos e3, no_ishl1 (by omega)]
        exact e) (fun f w hJ => by
      obtain ⟨j1, j2, j3, j4, j5⟩ := hJ
      have e3 : ¬ nI (2 ^ r + 2 ^ r) < qo_ishl (2 : Int32) (nI r) := by rw [ishl2 (by omega)]; exact nI_nlt (Nat.le_refl _) (by omega)
      have hmx := tar_mx (K := K) (L := L) hr6 hc6 (l := w.1) (fun v => (j3 v).trans ⟨fun ⟨A, B, h1, h2, h3, h4⟩ => ⟨A, B, os_mem.mpr ⟨by omega, h2⟩, os_mem.mpr ⟨by omega, h3⟩, h4⟩, fun ⟨A, B, h1, h2, h4⟩ => ⟨A, B, Or.inl ⟨(os_mem.mp h1).1, (os_mem.mp h2).1⟩, (os_mem.mp h1).2, (os_mem.mp h2).2, h4⟩⟩)
      have hlt : mx w.1 < 256 := by rw [hmx]; exact Nat.mod_lt _ (by decide)
      have hle := mx_le w.1
      show L_M_laysExcluded_28 (f + 1) (nI r) (nI c) (nI w.1.length) (nI (2 ^ r + 2 ^ r)) w.2 = _
      rw [le_M_laysExcluded_28]
      unfold X_M_laysExcluded_28 F_M_place_III X_M_place_III_e
      rw [if_neg e3, qe_rI_e, mt_leastNot j1 hle (by omega) (by omega) (by omega), qe_rI_e, nI_6, qm_in_nI (show 6 * r + c < 36 by omega) (by omega), qe_b_e, nI_clamp (by omega)]) 1000000 0 ([], ma) (Nat.zero_le _) (by omega) ⟨fun u hu => by show ma.1 134 u = _; rw [g1 u hu]; exact (if_neg List.not_mem_nil).symm, Nat.zero_le _, fun v => ⟨fun h => absurd h List.not_mem_nil, fun ⟨A, B, h, _⟩ => by omega⟩, g2, g3⟩
  obtain ⟨j1, j2, j3, j4, j5⟩ := hJ
  have hmx := tar_mx (K := K) (L := L) hr6 hc6 (l := w1.1) (fun v => (j3 v).trans ⟨fun ⟨A, B, h1, h2, h3, h4⟩ => ⟨A, B, os_mem.mpr ⟨by omega, h2⟩, os_mem.mpr ⟨by omega, h3⟩, h4⟩, fun ⟨A, B, h1, h2, h4⟩ => ⟨A, B, Or.inl ⟨(os_mem.mp h1).1, (os_mem.mp h2).1⟩, (os_mem.mp h1).2, (os_mem.mp h2).2, h4⟩⟩)
  have a1 := @cw_6 (K 0) (L 0) r hr6
  have b1 := @cw_6 (K 1) (L 1) c hc6
  have m2 := tb_mul (show cw (K 0) (L 0) r < 64 by omega) (show cw (K 1) (L 1) c < 64 by omega)
  refine ⟨_, ea.trans e, fun i hi h6 h => ?_, fun a x y => by rw [(qm_sI_other a y).1]; exact j4 a x, j5⟩
  by_cases q : i = 6 * r + c
  · rw [q, me_self, hmx]
    unfold cf
    rw [show (6 * r + c) / 6 = r by omega, show (6 * r + c) % 6 = c by omega, ef_p2 K L hr6 hc6, m2.1]
    unfold iB
    rw [bN_toNat (by omega)]
  · rw [me_oth _ _ _ _ (Or.inr q), j4 135 (by decide)]
    exact hx i hi h6 (by omega)
theorem mt_excludedOf {m0 : qm_M} {P : sP} (hP : ms_now m0 P) {K L : Nat → Nat} (hr : prl P K L) {r c : Nat} (hr6 : r < 6) (hc6 : c < 6) :
    ∃ m1, F_M_excludedOf (nI r) (nI c) m0 = some (some (.int (iB (ef K L (2 ^ r) (2 ^ c)))), m1) ∧ lef m0 m1 := by
  obtain ⟨m1, ⟨g1, g2⟩, e⟩ := lpU (fun f i (m : qm_M) => L_M_excludedOf_2 f (nI r) (nI c) (nI i) m) (r + 1) (fun i m => exd m K L i 0 (c + 1) ∧ lef m0 m) (fun m => some (some (.int (m.1 135 (6 * r + c))), m)) (fun f i m hi hI => by
      obtain ⟨m1, ⟨g1, g2⟩, e⟩ := lpU (fun f2 j (m : qm_M) => L_M_excludedOf_10 (L_M_excludedOf_2 f) f2 (nI r) (nI c) (nI i) (nI j) m) (c + 1) (fun j m => exd m K L i j (c + 1) ∧ lef m0 m) (fun m => L_M_excludedOf_2 f (nI r) (nI c) (nI (i + 1)) m) (fun f2 j m hj hI => by
          obtain ⟨g1, g2⟩ := hI
          obtain ⟨m1, a1, a2, a3⟩ := mt_laysExcluded (g2.now hP) hr (show i < 6 by omega) hj (by omega) g1
          refine ⟨m1, ⟨a2, g2.tr a3⟩, ?_⟩
          show L_M_excludedOf_10 (L_M_excludedOf_2 f) (f2 + 1) (nI r) (nI c) (nI i) (nI j) m = _
          rw [le_M_excludedOf_10]
          unfold X_M_excludedOf_10
          rw [if_neg (nI_nlt (by omega) (by omega)), a1, qe_rV_e, nI_1]) (fun f2 m _ => by
          show L_M_excludedOf_10 (L_M_excludedOf_2 f) (f2 + 1) (nI r) (nI c) (nI i) (nI (c + 1)) m = _
          rw [le_M_excludedOf_10]
          unfold X_M_excludedOf_10
          rw [if_pos (nI_lt (by omega) (by omega)), nI_1]) 1000000 0 m (Nat.zero_le _) (by omega) hI
      refine ⟨m1, ⟨fun x hx h6 h => g1 x hx h6 (by omega), g2⟩, ?_⟩
      show L_M_excludedOf_2 (f + 1) (nI r) (nI c) (nI i) m = _
      rw [le_M_excludedOf_2]
      unfold X_M_excludedOf_2
      rw [if_neg (nI_nlt (by omega) (by omega))]
      exact e) (fun f m _ => by
      show L_M_excludedOf_2 (f + 1) (nI r) (nI c) (nI (r + 1)) m = _
      rw [le_M_excludedOf_2]
      unfold X_M_excludedOf_2 F_M_place_III X_M_place_III_e
      rw [if_pos (nI_lt (by omega) (by omega)), qe_rI_e, nI_6, qm_in_nI (show 6 * r + c < 36 by omega) (by omega), qe_b_e, nI_clamp (by omega)]) 1000000 0 m0 (Nat.zero_le _) (by omega) ⟨fun i hi _ h => by omega, lef.rf m0⟩
  refine ⟨m1, ?_, g2⟩
  have e1 := g1 (6 * r + c) (by omega) (by omega) (by omega)
  have e2 : cf K L (6 * r + c) = ef K L (2 ^ r) (2 ^ c) := by
    unfold cf
    rw [show (6 * r + c) / 6 = r by omega, show (6 * r + c) % 6 = c by omega]
  rw [← e2, ← e1]
  exact e
