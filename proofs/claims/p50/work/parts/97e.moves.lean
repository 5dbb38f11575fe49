/-! moves: the law reckons all moves and those that win -/
theorem le_L_moves_10  (n : Nat) (v3 : Int32) (v4 : Int32) (m : qm_M) : L_L_moves_10 (n + 1) v3 v4 m = X_L_moves_10 F_T_cell F_T_total F_T_moves F_T_move F_B_can (L_L_moves_10 n) (L_L_moves_129 1000000) v3 v4 m := rfl
theorem le_L_moves_129  (n : Nat) (v3 : Int32) (v4 : Int32) (v5 : Int32) (v6 : Int32) (v7 : Int32) (m : qm_M) : L_L_moves_129 (n + 1) v3 v4 v5 v6 v7 m = X_L_moves_129 F_T_cell F_T_total F_T_moves F_T_move F_B_can (L_L_moves_129 n) (L_L_moves_199 (L_L_moves_129 n) 1000000) (L_L_moves_453) v3 v4 v5 v6 v7 m := rfl
theorem le_L_moves_199 (K129 : Int32 → Int32 → Int32 → Int32 → Int32 → qm_M → Option qm_R) (n : Nat) (v3 : Int32) (v4 : Int32) (v5 : Int32) (v6 : Int32) (v7 : Int32) (v8 : Int32) (v9 : Int32) (v10 : Int32) (m : qm_M) : L_L_moves_199 K129 (n + 1) v3 v4 v5 v6 v7 v8 v9 v10 m = X_L_moves_199 F_T_cell F_T_total F_T_moves F_T_move F_B_can K129 (L_L_moves_219 K129 (L_L_moves_199 K129 n) 1000000) v3 v4 v5 v6 v7 v8 v9 v10 m := rfl
theorem le_L_moves_219 (K129 : Int32 → Int32 → Int32 → Int32 → Int32 → qm_M → Option qm_R) (K199 : Int32 → Int32 → Int32 → Int32 → Int32 → Int32 → Int32 → Int32 → qm_M → Option qm_R) (n : Nat) (v3 : Int32) (v4 : Int32) (v5 : Int32) (v6 : Int32) (v7 : Int32) (v8 : Int32) (v9 : Int32) (v10 : Int32) (v11 : Int32) (m : qm_M) : L_L_moves_219 K129 K199 (n + 1) v3 v4 v5 v6 v7 v8 v9 v10 v11 m = X_L_moves_219 F_T_cell F_T_total F_T_moves F_T_move F_B_can K199 (L_L_moves_219 K129 K199 n) (L_L_moves_253 K129 K199 (L_L_moves_219 K129 K199 n) 1000000) v3 v4 v5 v6 v7 v8 v9 v10 v11 m := rfl
theorem le_L_moves_253 (K129 : Int32 → Int32 → Int32 → Int32 → Int32 → qm_M → Option qm_R) (K199 : Int32 → Int32 → Int32 → Int32 → Int32 → Int32 → Int32 → Int32 → qm_M → Option qm_R) (K219 : Int32 → Int32 → Int32 → Int32 → Int32 → Int32 → Int32 → Int32 → Int32 → qm_M → Option qm_R) (n : Nat) (v3 : Int32) (v4 : Int32) (v5 : Int32) (v6 : Int32) (v7 : Int32) (v8 : Int32) (v9 : Int32) (v10 : Int32) (v11 : Int32) (v12 : Int32) (v13 : Int32) (m : qm_M) : L_L_moves_253 K129 K199 K219 (n + 1) v3 v4 v5 v6 v7 v8 v9 v10 v11 v12 v13 m = X_L_moves_253 F_T_cell F_T_total F_T_moves F_T_move F_B_can (L_L_moves_253 K129 K199 K219 n) (L_L_moves_356 K129 K199 K219) v3 v4 v5 v6 v7 v8 v9 v10 v11 v12 v13 m := rfl
def gwW (s : sT) (n : Nat) (m : qm_M) : Prop := ∀ i, i < n → i / 6 < bR s.1 → i % 6 < bC s.1 → m.1 123 i = iB (cf (bK s.1) (bL s.1) i)
def gw (b : Bool) (s : sT) (n : Nat) (m : qm_M) : Prop := CI m s ∧ bd m s ∧ gwW s n m ∧ (b = true → cvLe m)
theorem gw.ou {b : Bool} {s : sT} {n : Nat} {m m1 : qm_M} (h : gw b s n m) (g : cvPl m1) (o : ou 48 59 m m1) : gw b s n m1 := ⟨h.1.ou g o, h.2.1.ou o, fun i hi hr hc => by rw [(o 123 (by omega)).1]; exact h.2.2.1 i hi hr hc, fun z => (h.2.2.2 z).c (o 60 (by omega)).1 (o 61 (by omega)).1⟩
theorem CI.up {s : sT} {m : qm_M} (h : CI m s) {o : Nat} (ho : 59 < o) (j : Nat) (x : Int32) : CI (qm_sI m o j x) s := ⟨(ou.I (lo := o) (hi := o) m ⟨Nat.le_refl _, Nat.le_refl _⟩ j x).cs (by omega) h.1, h.2.1.hi (fun a h1 h2 => (qm_sI_other a (by omega)).1), h.2.2⟩
theorem mo_tab : (List.range 37).all (fun k => decide (nI k / (6 : Int32) = nI (k / 6) ∧ qo_irem (nI k) (6 : Int32) = nI (k % 6))) = true := by decide +kernel
theorem mo_t {k : Nat} (h : k < 37) : nI k / (6 : Int32) = nI (k / 6) ∧ qo_irem (nI k) (6 : Int32) = nI (k % 6) := of_decide_eq_true (List.all_eq_true.mp mo_tab k (List.mem_range.mpr h))
theorem mo_d6 : (!decide ((6 : Int32) = 0)) = true := rfl
theorem iB_x0 (x : nb_F) : iB x ^^^ (0 : Int32) = iB x := by
  have h := iB_x x 0
  rw [iB_0, nb_x0] at h
  exact h
theorem hs_s (f : Nat → nb_F) (x : nb_F) (n : Nat) : hs f x (n + 1) = hs f x n ^^^ (if x.getLsbD n = true then f n else 0) := rfl
theorem mo_10 {b : Bool} {m : qm_M} {s : sT} (h : CI m s) (hb : bd m s) (hz : b = true → cvLe m) : ∃ m1, gw b s 36 m1 ∧ L_L_moves_10 1000000 0 0 m = L_L_moves_129 1000000 (iB (tW s)) 1 0 0 0 m1 := by
  have hh := h.2.2.1.heads
  obtain ⟨hp, ⟨r1, r2, r3⟩, ⟨c1, c2, c3⟩⟩ := h.2.2.1.prl
  obtain ⟨m1, h1, e⟩ := lpU (fun f k (m1 : qm_M) => L_L_moves_10 f (iB (hs (cf (bK s.1) (bL s.1)) (nb (s.1 6)) k)) (nI k) m1) 36 (fun k m1 => gw b s k m1) (fun m1 => qe_rL (F_T_total m1) fun x3 m3 => if (lg_cmp x3 (Int32.toInt64 (iB (tW s)))) = 0 then L_L_moves_129 1000000 (iB (tW s)) 1 0 0 0 m3 else L_L_moves_129 1000000 (iB (tW s)) 0 0 0 0 m3) (fun f k m1 hk hI => by
      show ∃ s', gw b s (k + 1) s' ∧ L_L_moves_10 (f + 1) _ (nI k) m1 = L_L_moves_10 f (iB (hs (cf (bK s.1) (bL s.1)) (nb (s.1 6)) (k + 1))) (nI (k + 1)) s'
      obtain ⟨t1, t2⟩ := mo_t (show k < 37 by omega)
      have out : ¬ (k / 6 < bR s.1 ∧ k % 6 < bC s.1) → gw b s (k + 1) m1 ∧ hs (cf (bK s.1) (bL s.1)) (nb (s.1 6)) (k + 1) = hs (cf (bK s.1) (bL s.1)) (nb (s.1 6)) k := fun q => by
        refine ⟨⟨hI.1, hI.2.1, fun i hi hr hc => hI.2.2.1 i (by
          rcases Nat.lt_or_ge i k with z | z
          · exact z
          · have : i = k := by omega
            subst this
            exact absurd ⟨hr, hc⟩ q) hr hc, hI.2.2.2⟩, ?_⟩
        rw [hs_s, if_neg (fun z => q (hh k z)), nb_x0]
      rw [le_L_moves_10]
      unfold X_L_moves_10
      rw [if_pos (show nI k < (36 : Int32) from nI_lt (b := 36) hk (by omega)), mo_d6, qe_b_e, t1, hI.2.1.1.1, nI_1]
      by_cases q1 : k / 6 < bR s.1
      · rw [if_pos (nI_lt q1 (by omega)), qe_b_e, t2, hI.2.1.1.2]
        by_cases q2 : k % 6 < bC s.1
        · obtain ⟨m2, a1, a2, a3⟩ := tc_cell0 hI.1 q1 q2
          obtain ⟨f1, f2, f3, -⟩ := bb_f (show k / 6 < 6 by omega)
          have g2 := hI.ou a2 a3
          have ek : 6 * (k / 6) + k % 6 = k := by omega
          have hg : gw b s (k + 1) (qm_sI m2 123 k (iB (cf (bK s.1) (bL s.1) k))) := ⟨g2.1.up (by omega) _ _, ⟨⟨by rw [me_oth _ _ _ _ (Or.inl (by omega))]; exact g2.2.1.1.1, by rw [me_oth _ _ _ _ (Or.inl (by omega))]; exact g2.2.1.1.2⟩, fun j hj => ⟨by rw [me_oth _ _ _ _ (Or.inl (by omega))]; exact (g2.2.1.2.1 j hj).1, by rw [me_oth _ _ _ _ (Or.inl (by omega))]; exact (g2.2.1.2.1 j hj).2⟩, fun r c hr hc => by rw [me_oth _ _ _ _ (Or.inl (by omega))]; exact g2.2.1.2.2 r c hr hc⟩, fun i hi hr hc => by
            by_cases z : i = k
            · subst z; rw [me_self]
            · rw [me_oth _ _ _ _ (Or.inr z)]; exact g2.2.2.1 i (by omega) hr hc, fun z => (g2.2.2.2 z).c (qm_sI_other 60 (by omega)).1 (qm_sI_other 61 (by omega)).1⟩
          rw [if_pos (nI_lt q2 (by omega))]
          simp only [qe_b_e]
          rw [a1, qe_rI_e, qm_in_nI hk (by omega), qm_in_nI (show k / 6 < 6 by omega) (by omega)]
          simp only [qe_b_e]
          rw [nI_clamp (show k < 2 ^ 31 by omega), nI_clamp (show k / 6 < 2 ^ 31 by omega), f1, f2, qe_b_e, f3, qm_in_nI (show k % 6 < 6 by omega) (by omega), qe_b_e, nI_clamp (show k % 6 < 2 ^ 31 by omega), bb_g (by omega)]
          have ecf : ef (bK s.1) (bL s.1) (2 ^ (k / 6)) (2 ^ (k % 6)) = cf (bK s.1) (bL s.1) k := rfl
          rw [ecf, hg.2.1.2.2 _ _ (by omega) (by omega), ek, me_self, iB_x0, iB_x, hs_s]
          refine ⟨_, hg, ?_⟩
          by_cases q : (nb (s.1 6)).getLsbD k = true
          · rw [if_pos q, if_neg n10, if_pos q]
          · rw [if_neg q, if_pos rfl, if_neg q, nb_x0]
        · obtain ⟨o1, o2⟩ := out (fun z => q2 z.2)
          rw [if_neg (nI_nlt (by omega) (by omega)), o2]
          exact ⟨m1, o1, rfl⟩
      · obtain ⟨o1, o2⟩ := out (fun z => q1 z.1)
        rw [if_neg (nI_nlt (by omega) (by omega)), o2]
        exact ⟨m1, o1, rfl⟩) (fun f m1 hI => by
      show L_L_moves_10 (f + 1) (iB (tW s)) (nI 36) m1 = _
      rw [le_L_moves_10]
      unfold X_L_moves_10
      rw [if_neg (by decide)]) 1000000 0 m (Nat.zero_le _) (by omega) ⟨h, hb, fun i hi => by omega, hz⟩
  obtain ⟨m2, a1, a2, a3⟩ := tc_total h1.1
  refine ⟨m2, h1.ou a2 a3, ?_⟩
  refine (show L_L_moves_10 1000000 0 0 m = _ from e).trans ?_
  rw [a1]
  show (if lg_cmp _ _ = 0 then _ else _) = _
  rw [if_pos ((lg_cmp_eq _ _).mpr rfl)]
/-- what turning x, y makes of the board's worth, reckoned cell by cell -/
theorem mo_then {K L : Nat → Nat} {x y : Nat} (hy : y < 64) : xs 36 (fun i => if (x.testBit (i / 6) = true ∧ y.testBit (i % 6) = true) then cf K L i else 0) = ef K L x y := by
  rw [← hs_move K L hy]
  unfold hs
  refine xs_c (fun i hi => ?_)
  have h := sC_bit6 (R := x) hy (r := i / 6) (c := i % 6) (by omega) (by omega)
  rw [show 6 * (i / 6) + i % 6 = i by omega] at h
  by_cases q : x.testBit (i / 6) = true ∧ y.testBit (i % 6) = true
  · rw [if_pos q, if_pos (by rw [h, q.1, q.2]; rfl)]
  · rw [if_neg q, if_neg (fun z => q (by rw [h, Bool.and_eq_true] at z; exact z))]
theorem mo_253 {b : Bool} {m : qm_M} {s : sT} (h : gw b s 36 m) {n w x y : Nat} (hx : x < 2 ^ bR s.1) (hy : y < 2 ^ bC s.1) (hn : (mvs s 0)[n]? = some (x, y)) (hw : iB (tW s ^^^ ef (bK s.1) (bL s.1) x y) = 0 → (mvs s 1)[w]? = some (x, y)) (hnb : n < 2 ^ 20) (hwb : w < 2 ^ 20)
    (K129 : Int32 → Int32 → Int32 → Int32 → Int32 → qm_M → Option qm_R) (K199 : Int32 → Int32 → Int32 → Int32 → Int32 → Int32 → Int32 → Int32 → qm_M → Option qm_R) (K219 : Int32 → Int32 → Int32 → Int32 → Int32 → Int32 → Int32 → Int32 → Int32 → qm_M → Option qm_R) (v7 v8 v9 : Int32) :
    ∃ m1, gw b s 36 m1 ∧ L_L_moves_253 K129 K199 K219 1000000 (iB (tW s)) 1 (nI n) (nI w) v7 v8 v9 (nI x) (nI y) (iB (tW s)) 0 m = K219 (iB (tW s)) 1 (nI (n + 1)) (nI (if iB (tW s ^^^ ef (bK s.1) (bL s.1) x y) = 0 then w + 1 else w)) v7 v8 v9 (nI x) (nI (y + 1)) m1 := by
  obtain ⟨hp, ⟨r1, r2, r3⟩, ⟨c1, c2, c3⟩⟩ := h.1.2.2.1.prl
  have hx6 : x < 64 := Nat.lt_of_lt_of_le hx (Nat.pow_le_pow_right (n := 2) (by omega) r3)
  have hy6 : y < 64 := Nat.lt_of_lt_of_le hy (Nat.pow_le_pow_right (n := 2) (by omega) c3)
  have lo : ∀ (S b i : Nat), S < 2 ^ b → S.testBit i = true → i < b := fun S b i h1 h2 => by
    rcases Nat.lt_or_ge i b with z | z
    · exact z
    · rw [Nat.testBit_lt_two_pow (Nat.lt_of_lt_of_le h1 (Nat.pow_le_pow_right (n := 2) (by omega) z))] at h2
      cases h2
  generalize eT : (fun i => if (x.testBit (i / 6) = true ∧ y.testBit (i % 6) = true) then cf (bK s.1) (bL s.1) i else 0) = T
  obtain ⟨m1, h1, e⟩ := lpU (fun f i (m1 : qm_M) => L_L_moves_253 K129 K199 K219 f (iB (tW s)) 1 (nI n) (nI w) v7 v8 v9 (nI x) (nI y) (iB (tW s ^^^ xs i T)) (nI i) m1) 36 (fun i m1 => m1 = m) (fun m1 => if (nI n) < (40 : Int32) then
        qe_rI (F_T_move (0 : Int32) (nI n) (1 : Int32) m1) fun x2 m1 =>
        if x2 = nI x then
          qe_rI (F_T_move (0 : Int32) (nI n) (2 : Int32) m1) fun x3 m2 =>
          if x3 = nI y then
            qe_rI (F_T_move (0 : Int32) (nI n) (3 : Int32) m2) fun x4 m3 =>
            if x4 = iB (tW s ^^^ xs 36 T) then
              L_L_moves_356 K129 K199 K219 (iB (tW s)) (1 : Int32) (nI n) (nI w) v7 v8 v9 (nI x) (nI y) (iB (tW s ^^^ xs 36 T)) m3
            else
              L_L_moves_356 K129 K199 K219 (iB (tW s)) (0 : Int32) (nI n) (nI w) v7 v8 v9 (nI x) (nI y) (iB (tW s ^^^ xs 36 T)) m3
          else
            L_L_moves_356 K129 K199 K219 (iB (tW s)) (0 : Int32) (nI n) (nI w) v7 v8 v9 (nI x) (nI y) (iB (tW s ^^^ xs 36 T)) m2
        else
          L_L_moves_356 K129 K199 K219 (iB (tW s)) (0 : Int32) (nI n) (nI w) v7 v8 v9 (nI x) (nI y) (iB (tW s ^^^ xs 36 T)) m1
      else
        L_L_moves_356 K129 K199 K219 (iB (tW s)) 1 (nI n) (nI w) v7 v8 v9 (nI x) (nI y) (iB (tW s ^^^ xs 36 T)) m1) (fun f k m1 hk hI => by
      subst hI
      refine ⟨m1, rfl, ?_⟩
      obtain ⟨t1, t2⟩ := mo_t (show k < 37 by omega)
      have bx := (nI_bit1 (a := x) (k := k / 6) (by omega) (by omega)).1
      have by' := (nI_bit1 (a := y) (k := k % 6) (by omega) (by omega)).1
      show L_L_moves_253 K129 K199 K219 (f + 1) (iB (tW s)) 1 (nI n) (nI w) v7 v8 v9 (nI x) (nI y) (iB (tW s ^^^ xs k T)) (nI k) m1 = L_L_moves_253 K129 K199 K219 f (iB (tW s)) 1 (nI n) (nI w) v7 v8 v9 (nI x) (nI y) (iB (tW s ^^^ xs (k + 1) T)) (nI (k + 1)) m1
      have eT' : T k = if (x.testBit (k / 6) = true ∧ y.testBit (k % 6) = true) then cf (bK s.1) (bL s.1) k else 0 := by rw [← eT]
      rw [le_L_moves_253]
      unfold X_L_moves_253
      rw [if_pos (show nI k < (36 : Int32) from nI_lt (b := 36) hk (by omega)), mo_d6, qe_b_e, t1, nI_1, xs_s, eT']
      by_cases q1 : x.testBit (k / 6) = true
      · rw [if_pos (bx.mpr q1), qe_b_e, t2]
        by_cases q2 : y.testBit (k % 6) = true
        · rw [if_pos (by'.mpr q2), qm_in_nI hk (by omega), qe_b_e, nI_clamp (by omega), h.2.2.1 k hk (lo _ _ _ hx q1) (lo _ _ _ hy q2), iB_x, if_pos ⟨q1, q2⟩, BitVec.xor_assoc]
        · rw [if_neg (fun z => q2 (by'.mp z)), if_neg (fun z => q2 z.2), nb_x0]
      · rw [if_neg (fun z => q1 (bx.mp z)), if_neg (fun z => q1 z.1), nb_x0]) (fun f m1 hI => by
      show L_L_moves_253 K129 K199 K219 (f + 1) (iB (tW s)) 1 (nI n) (nI w) v7 v8 v9 (nI x) (nI y) (iB (tW s ^^^ xs 36 T)) (nI 36) m1 = _
      rw [le_L_moves_253]
      unfold X_L_moves_253
      rw [if_neg (show ¬ nI 36 < (36 : Int32) by decide)]) 1000000 0 m (Nat.zero_le _) (by omega) rfl
  subst h1
  rw [← eT, mo_then hy6] at e
  have e0 : L_L_moves_253 K129 K199 K219 1000000 (iB (tW s)) 1 (nI n) (nI w) v7 v8 v9 (nI x) (nI y) (iB (tW s)) 0 m1 = L_L_moves_253 K129 K199 K219 1000000 (iB (tW s)) 1 (nI n) (nI w) v7 v8 v9 (nI x) (nI y) (iB (tW s ^^^ xs 0 (fun i => if (x.testBit (i / 6) = true ∧ y.testBit (i % 6) = true) then cf (bK s.1) (bL s.1) i else 0))) (nI 0) m1 := by
    rw [xs_0, nb_x0]; rfl
  -- the winning move's own test
  have w356 : ∀ m2, gw b s 36 m2 → ∃ m3, gw b s 36 m3 ∧ L_L_moves_356 K129 K199 K219 (iB (tW s)) 1 (nI n) (nI w) v7 v8 v9 (nI x) (nI y) (iB (tW s ^^^ ef (bK s.1) (bL s.1) x y)) m2 = K219 (iB (tW s)) 1 (nI (n + 1)) (nI (if iB (tW s ^^^ ef (bK s.1) (bL s.1) x y) = 0 then w + 1 else w)) v7 v8 v9 (nI x) (nI (y + 1)) m3 := fun m2 g2 => by
    unfold L_L_moves_356 X_L_moves_356
    by_cases q : iB (tW s ^^^ ef (bK s.1) (bL s.1) x y) = 0
    · have l417 : ∀ m3, L_L_moves_417 K129 K199 K219 (iB (tW s)) 1 (nI n) (nI w) v7 v8 v9 (nI x) (nI y) (iB (tW s ^^^ ef (bK s.1) (bL s.1) x y)) m3 = K219 (iB (tW s)) 1 (nI (n + 1)) (nI (w + 1)) v7 v8 v9 (nI x) (nI (y + 1)) m3 := fun m3 => by
        unfold L_L_moves_417 X_L_moves_417
        rw [if_pos q, nI_1, nI_1, nI_1]
      rw [if_pos q, if_pos q]
      by_cases q2 : w < 20
      · rw [if_pos (show nI w < (20 : Int32) from nI_lt (b := 20) q2 (by omega)), if_neg n10]
        obtain ⟨m3, a1, a2, a3⟩ := tc_move g2.1 (j := 1) (K := w) (u := 1) (by omega) (by omega) (by omega)
        have g3 := g2.ou a2 a3
        obtain ⟨m4, b1, b2, b3⟩ := tc_move g3.1 (j := 1) (K := w) (u := 2) (by omega) (by omega) (by omega)
        have g4 := g3.ou b2 b3
        obtain ⟨m5, d1, d2, d3⟩ := tc_move g4.1 (j := 1) (K := w) (u := 3) (by omega) (by omega) (by omega)
        rw [hw q] at a1 b1 d1
        have a1' : F_T_move 1 (nI w) 1 m2 = some (some (.int (nI x)), m3) := a1
        have b1' : F_T_move 1 (nI w) 2 m3 = some (some (.int (nI y)), m4) := b1
        have d1' : F_T_move 1 (nI w) 3 m4 = some (some (.int (iB (tW s ^^^ ef (bK s.1) (bL s.1) x y))), m5) := d1
        refine ⟨m5, g4.ou d2 d3, ?_⟩
        rw [a1', qe_rI_e, if_pos rfl, b1', qe_rI_e, if_pos rfl, d1', qe_rI_e, if_pos q, l417]
      · rw [if_neg (show ¬ nI w < (20 : Int32) from nI_nlt (b := 20) (by omega) (by omega))]
        exact ⟨m2, g2, l417 m2⟩
    · rw [if_neg q, if_neg q]
      refine ⟨m2, g2, ?_⟩
      unfold L_L_moves_417 X_L_moves_417
      have z0 : nI w + (0 : Int32) = nI w := nI_add _ 0
      rw [if_neg q, nI_1, nI_1, z0]
  by_cases q : n < 40
  · rw [if_pos (show nI n < (40 : Int32) from nI_lt (b := 40) q (by omega))] at e
    obtain ⟨m3, a1, a2, a3⟩ := tc_move h.1 (j := 0) (K := n) (u := 1) (by omega) (by omega) (by omega)
    have g3 := h.ou a2 a3
    obtain ⟨m4, b1, b2, b3⟩ := tc_move g3.1 (j := 0) (K := n) (u := 2) (by omega) (by omega) (by omega)
    have g4 := g3.ou b2 b3
    obtain ⟨m5, d1, d2, d3⟩ := tc_move g4.1 (j := 0) (K := n) (u := 3) (by omega) (by omega) (by omega)
    rw [hn] at a1 b1 d1
    have a1' : F_T_move 0 (nI n) 1 m1 = some (some (.int (nI x)), m3) := a1
    have b1' : F_T_move 0 (nI n) 2 m3 = some (some (.int (nI y)), m4) := b1
    have d1' : F_T_move 0 (nI n) 3 m4 = some (some (.int (iB (tW s ^^^ ef (bK s.1) (bL s.1) x y))), m5) := d1
    obtain ⟨m6, g6, e6⟩ := w356 m5 (g4.ou d2 d3)
    refine ⟨m6, g6, e0.trans (e.trans ?_)⟩
    rw [a1', qe_rI_e, if_pos rfl, b1', qe_rI_e, if_pos rfl, d1', qe_rI_e, if_pos rfl, e6]
  · rw [if_neg (show ¬ nI n < (40 : Int32) from nI_nlt (b := 40) (by omega) (by omega))] at e
    obtain ⟨m6, g6, e6⟩ := w356 m1 h
    exact ⟨m6, g6, e0.trans (e.trans e6)⟩
