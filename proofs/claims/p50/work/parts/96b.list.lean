/-! the moves of all cells, listed by both -/
theorem le_Le_listMovesAt_14 (K3 : Int32 → Int32 → Int32 → qm_M → Option qm_R) (n : Nat) (v1 : Int32) (v2 : Int32) (v4 : Int32) (v5 : Int32) (m : qm_M) : L_Le_listMovesAt_14 K3 (n + 1) v1 v2 v4 v5 m = X_Le_listMovesAt_14 F_Pl_areSets F_Ps_bitsOf F_Le_packed K3 (L_Le_listMovesAt_14 K3 n) v1 v2 v4 v5 m := rfl
theorem le_Le_listMovesAt_3  (n : Nat) (v1 : Int32) (v2 : Int32) (v4 : Int32) (m : qm_M) : L_Le_listMovesAt_3 (n + 1) v1 v2 v4 m = X_Le_listMovesAt_3 F_Pl_areSets F_Ps_bitsOf F_Le_packed (L_Le_listMovesAt_14 (L_Le_listMovesAt_3 n) 1000000) v1 v2 v4 m := rfl
theorem le_Le_listMoves_20 (K9 : Int32 → Int32 → qm_M → Option qm_R) (n : Nat) (v2 : Int32) (v3 : Int32) (v4 : Int32) (m : qm_M) : L_Le_listMoves_20 K9 (n + 1) v2 v3 v4 m = X_Le_listMoves_20 F_Le_listMovesAt K9 (L_Le_listMoves_20 K9 n) v2 v3 v4 m := rfl
theorem le_Le_listMoves_9  (n : Nat) (v2 : Int32) (v3 : Int32) (m : qm_M) : L_Le_listMoves_9 (n + 1) v2 v3 m = X_Le_listMoves_9 F_Le_listMovesAt (L_Le_listMoves_20 (L_Le_listMoves_9 n) 1000000) v2 v3 m := rfl
def pv (r c R C : Nat) : Nat := pkR c (sC R C 6) r
def mvU (K L : Nat → Nat) (r c i j S : Nat) : Nat → List Nat := fun U => if (al (K 0) (L 0) (2 ^ i + S) && al (K 1) (L 1) (2 ^ j + U)) = true then [pv r c (2 ^ i + S) (2 ^ j + U)] else []
def mvS (K L : Nat → Nat) (r c i j : Nat) : Nat → List Nat := fun S => rg (mvU K L r c i j S) (2 ^ j)
def mvp (K L : Nat → Nat) (r c i j : Nat) : List Nat := rg (mvS K L r c i j) (2 ^ i)
def mvq (K L : Nat → Nat) (r c : Nat) : Nat → List Nat := fun p => mvp K L r c (p / c) (p % c)
def tl (K L : Nat → Nat) (r c p : Nat) : List Nat := rg (mvq K L r c) p
theorem tl_s (K L : Nat → Nat) (r c p : Nat) : tl K L r c (p + 1) = tl K L r c p ++ mvq K L r c p := rg_s _ _
theorem mvU_len (K L : Nat → Nat) (r c i j S n : Nat) : (rg (mvU K L r c i j S) n).length ≤ n := by
  have := rg_len (f := mvU K L r c i j S) (B := 1) n (fun U _ => by
    unfold mvU
    split
    · exact Nat.le_refl _
    · exact Nat.zero_le _)
  omega
theorem mvS_len (K L : Nat → Nat) (r c i j n : Nat) : (rg (mvS K L r c i j) n).length ≤ n * 2 ^ j := rg_len n (fun S _ => mvU_len K L r c i j S (2 ^ j))
def cntp (c : Nat) : Nat → Nat
  | 0 => 0
  | p + 1 => cntp c p + 2 ^ (p / c) * 2 ^ (p % c)
theorem tl_len (K L : Nat → Nat) (r c : Nat) : ∀ p, (tl K L r c p).length ≤ cntp c p
  | 0 => Nat.le_refl _
  | p + 1 => by
    have ih := tl_len K L r c p
    have h := mvS_len K L r c (p / c) (p % c) (2 ^ (p / c))
    rw [tl_s, List.length_append]
    show _ ≤ cntp c p + 2 ^ (p / c) * 2 ^ (p % c)
    have e : (mvq K L r c p).length = (rg (mvS K L r c (p / c) (p % c)) (2 ^ (p / c))).length := rfl
    omega
theorem cnt_chk : (List.range 7).all (fun r => (List.range 7).all (fun c => !(decide (r * c ≤ 12)) || (List.range (r * c + 1)).all (fun p => decide (cntp c p ≤ 189)))) = true := by decide +kernel
theorem cnt_le {r c p : Nat} (hr : r ≤ 6) (hc : c ≤ 6) (hrc : r * c ≤ 12) (hp : p ≤ r * c) : cntp c p ≤ 189 := by
  have h1 := List.all_eq_true.mp (List.all_eq_true.mp cnt_chk r (List.mem_range.mpr (by omega))) c (List.mem_range.mpr (by omega))
  rw [decide_eq_true hrc, Bool.not_true, Bool.false_or] at h1
  exact of_decide_eq_true (List.all_eq_true.mp h1 p (List.mem_range.mpr (by omega)))
def ltm (m : qm_M) (o : Nat) (l : List Nat) : Prop := ∀ k, k < l.length → m.1 o k = nI (l.getD k 0)
theorem ltm.add {m : qm_M} {o : Nat} {l : List Nat} (h : ltm m o l) (v : Nat) : ltm (qm_sI m o l.length (nI v)) o (l ++ [v]) := fun k hk => by
  rw [List.length_append, List.length_singleton] at hk
  by_cases q : k = l.length
  · rw [q, me_self]
    congr 1
    simp
  · rw [me_oth _ _ _ _ (Or.inr q), h k (by omega)]
    congr 1
    rw [List.getD_eq_getElem?_getD, List.getD_eq_getElem?_getD, List.getElem?_append_left (by omega)]
theorem ltm.c {m m1 : qm_M} {o : Nat} {l : List Nat} (h : ltm m o l) (e : m1.1 o = m.1 o) : ltm m1 o l := fun k hk => by rw [e]; exact h k hk
theorem sC_row {r c R C : Nat} (hC : C < 2 ^ c) (hc : c ≤ 6) : ∀ i, sRow (sC R C 6) i < 2 ^ c := fun i => by
  have hC64 : C < 64 := Nat.lt_of_lt_of_le hC (Nat.le_trans (Nat.pow_le_pow_right (by omega) hc) (by decide))
  refine Nat.lt_pow_two_of_testBit _ (fun j hj => ?_)
  rw [sRow_bit]
  by_cases q : j < 6
  · by_cases z : 6 * i + j < 64
    · rw [sC_bit hC64 z 6 (by omega), show (6 * i + j) % 6 = j by omega, Nat.testBit_lt_two_pow (Nat.lt_of_lt_of_le hC (Nat.pow_le_pow_right (by omega) hj))]
      simp
    · rw [BitVec.getLsbD_of_ge _ _ (by omega), Bool.and_false]
  · rw [decide_eq_false q, Bool.false_and]
theorem nu_areSets {m0 m : qm_M} {K L : Nat → Nat} (hb : K 0 ≤ 3 ∧ K 1 ≤ 3 ∧ (1 ≤ L 0 ∧ L 0 ≤ 8) ∧ 1 ≤ L 1 ∧ L 1 ≤ 8) (hT : plT m K L) {R C : Nat} (hR : R < 64) (hC : C < 64) : F_Pl_areSets (nI R) (nI C) m = some (some (.int (if (al (K 0) (L 0) R && al (K 1) (L 1) C) = true then 1 else 0)), m) := by
  obtain ⟨t1, -⟩ := nu_alR hb hT (pfr.rf m) (S := R) hR
  obtain ⟨-, t2⟩ := nu_alR hb hT (pfr.rf m) (S := C) hC
  unfold F_Pl_areSets X_Pl_areSets_e
  rw [t1, qe_rI_e]
  cases q1 : al (K 0) (L 0) R with
  | false => rfl
  | true =>
    rw [if_pos rfl, if_neg n10, t2, qe_rI_e]
    cases q2 : al (K 1) (L 1) C with
    | false => rfl
    | true => rfl
def lfr (m m1 : qm_M) : Prop := (∀ a, a ≠ 60 → a ≠ 62 → a ≠ 63 → m1.1 a = m.1 a) ∧ (∀ j, j ≠ 6 → m1.1 60 j = m.1 60 j) ∧ m1.2 = m.2
theorem lfr.rf (m : qm_M) : lfr m m := ⟨fun _ _ _ _ => rfl, fun _ _ => rfl, rfl⟩
theorem lfr.tr {m m1 m2 : qm_M} (h : lfr m m1) (g : lfr m1 m2) : lfr m m2 := ⟨fun a x y z => (g.1 a x y z).trans (h.1 a x y z), fun a x => (g.2.1 a x).trans (h.2.1 a x), g.2.2.trans h.2.2⟩
theorem lfr.T {m m1 : qm_M} {K L : Nat → Nat} (g : lfr m m1) (h : plT m K L) : plT m1 K L := by
  obtain ⟨⟨a1, a2, a3⟩, ⟨b1, b2, b3⟩, e⟩ := h
  have e1 : ∀ a, 49 ≤ a → a ≤ 59 → m1.1 a = m.1 a := fun a _ _ => g.1 a (by omega) (by omega) (by omega)
  exact ⟨⟨by rw [e1 49 (by omega) (by omega)]; exact a1, by rw [e1 49 (by omega) (by omega)]; exact a2, a3.c (e1 50 (by omega) (by omega)) (e1 51 (by omega) (by omega))⟩, ⟨by rw [e1 54 (by omega) (by omega)]; exact b1, by rw [e1 54 (by omega) (by omega)]; exact b2, b3.c (e1 55 (by omega) (by omega)) (e1 56 (by omega) (by omega))⟩, fun R C hR hC => by rw [e1 59 (by omega) (by omega)]; exact e R C hR hC⟩
/-- listed so far -/
def lsC (m0 : qm_M) (l : List Nat) (m : qm_M) : Prop := m.1 60 6 = nI l.length ∧ ltm m 62 l ∧ m.1 63 = m0.1 63 ∧ lfr m0 m
theorem nu_listAt {m0 : qm_M} {K L : Nat → Nat} (hb : K 0 ≤ 3 ∧ K 1 ≤ 3 ∧ (1 ≤ L 0 ∧ L 0 ≤ 8) ∧ 1 ≤ L 1 ∧ L 1 ≤ 8) (hT : plT m0 K L) {r c i j : Nat} (h4 : m0.1 60 4 = nI r) (h5 : m0.1 60 5 = nI c) (hr : r ≤ 6) (hc : c ≤ 6) (hrc : r * c ≤ 12) (hi : i < r) (hj : j < c) {l0 : List Nat} (hl : l0.length + 2 ^ i * 2 ^ j < 256) (h6 : m0.1 60 6 = nI l0.length) (h62 : ltm m0 62 l0) :
    ∃ m1, F_Le_listMovesAt (nI (2 ^ i)) (nI (2 ^ j)) m0 = some (none, m1) ∧ lsC m0 (l0 ++ mvp K L r c i j) m1 := by
  have pi := pow_6 (n := i) (by omega)
  have pj := pow_6 (n := j) (by omega)
  have pi0 := Nat.two_pow_pos i
  have pj0 := Nat.two_pow_pos j
  obtain ⟨m1, h1, e⟩ := lpU (fun f S (m : qm_M) => L_Le_listMovesAt_3 f (nI (2 ^ i)) (nI (2 ^ j)) (nI (2 ^ i + S)) m) (2 ^ i) (fun S m => lsC m0 (l0 ++ rg (mvS K L r c i j) S) m) (fun m => some (none, m)) (fun f S m hS hI => by
      have hSl := mvS_len K L r c i j S
      have hmul : S * 2 ^ j + 2 ^ j ≤ 2 ^ i * 2 ^ j := by
        rw [← Nat.succ_mul]
        exact Nat.mul_le_mul_right _ hS
      obtain ⟨m1, h1, e⟩ := lpU (fun f2 U (m : qm_M) => L_Le_listMovesAt_14 (L_Le_listMovesAt_3 f) f2 (nI (2 ^ i)) (nI (2 ^ j)) (nI (2 ^ i + S)) (nI (2 ^ j + U)) m) (2 ^ j) (fun U m => lsC m0 ((l0 ++ rg (mvS K L r c i j) S) ++ rg (mvU K L r c i j S) U) m) (fun m => L_Le_listMovesAt_3 f (nI (2 ^ i)) (nI (2 ^ j)) (nI (2 ^ i + (S + 1))) m) (fun f2 U m hU hI => by
          have hUl := mvU_len K L r c i j S U
          generalize hl1 : (l0 ++ rg (mvS K L r c i j) S) ++ rg (mvU K L r c i j S) U = l1 at hI
          have hll : l1.length < 255 := by
            rw [← hl1, List.length_append, List.length_append]
            omega
          obtain ⟨g1, g2, g3, g4⟩ := hI
          have el : nI (2 ^ j + U) < qo_ishl (nI (2 ^ j)) 1 := by rw [ishl1 (by omega)]; exact nI_lt (by omega) (by omega)
          have ea : nI (2 ^ j + U) + 1 = nI (2 ^ j + (U + 1)) := nI_add _ 1
          have e256 : nI l1.length < (256 : Int32) := nI_lt (b := 256) (by omega) (by omega)
          have hs := nu_areSets (m0 := m) hb (g4.T hT) (R := 2 ^ i + S) (C := 2 ^ j + U) (by omega) (by omega)
          have hL : L_Le_listMovesAt_14 (L_Le_listMovesAt_3 f) (f2 + 1) (nI (2 ^ i)) (nI (2 ^ j)) (nI (2 ^ i + S)) (nI (2 ^ j + U)) m = if (al (K 0) (L 0) (2 ^ i + S) && al (K 1) (L 1) (2 ^ j + U)) = true then L_Le_listMovesAt_14 (L_Le_listMovesAt_3 f) f2 (nI (2 ^ i)) (nI (2 ^ j)) (nI (2 ^ i + S)) (nI (2 ^ j + (U + 1))) (qm_sI (qm_sI m 62 l1.length (nI (pv r c (2 ^ i + S) (2 ^ j + U)))) 60 6 (nI (l1.length + 1))) else L_Le_listMovesAt_14 (L_Le_listMovesAt_3 f) f2 (nI (2 ^ i)) (nI (2 ^ j)) (nI (2 ^ i + S)) (nI (2 ^ j + (U + 1))) m := by
            rw [le_Le_listMovesAt_14]
            unfold X_Le_listMovesAt_14
            rw [if_pos el, g1, if_pos e256, hs, qe_rI_e, ea]
            by_cases q : (al (K 0) (L 0) (2 ^ i + S) && al (K 1) (L 1) (2 ^ j + U)) = true
            · have hpk := nu_packed (m := m) (r := r) (c := c) (by rw [g4.2.1 4 (by decide)]; exact h4) (by rw [g4.2.1 5 (by decide)]; exact h5) hr hrc (bn (sC (2 ^ i + S) (2 ^ j + U) 6)) (sC_row (r := r) (Nat.lt_of_lt_of_le (show 2 ^ j + U < 2 ^ (j + 1) by rw [Nat.pow_succ]; omega) (Nat.pow_le_pow_right (by omega) hj)) hc)
              rw [if_pos q, if_neg n10, nu_bitsOf (by omega) (by omega), qe_rL_e, hpk, qe_rI_e, g1, qm_in_nI (show l1.length < 256 by omega) (by omega), qe_b_e, nI_clamp (by omega), if_pos q]
              dsimp only
              rw [me_oth _ _ _ _ (Or.inl (by decide)), g1, nI_1]
              rfl
            · rw [if_neg q, if_pos rfl, if_neg q]
          show ∃ s', _ ∧ L_Le_listMovesAt_14 (L_Le_listMovesAt_3 f) (f2 + 1) (nI (2 ^ i)) (nI (2 ^ j)) (nI (2 ^ i + S)) (nI (2 ^ j + U)) m = _
          rw [hL]
          have ers : (l0 ++ rg (mvS K L r c i j) S) ++ rg (mvU K L r c i j S) (U + 1) = l1 ++ mvU K L r c i j S U := by
            rw [rg_s, ← List.append_assoc, hl1]
          rw [ers]
          unfold mvU
          by_cases q : (al (K 0) (L 0) (2 ^ i + S) && al (K 1) (L 1) (2 ^ j + U)) = true
          · rw [if_pos q, if_pos q]
            refine ⟨_, ⟨by rw [me_self, List.length_append, List.length_singleton], (g2.add _).c (qm_sI_other 62 (by decide)).1, ?_, g4.tr ⟨fun a x y z => ?_, fun k hk => ?_, rfl⟩⟩, rfl⟩
            · rw [(qm_sI_other 63 (by decide)).1, (qm_sI_other 63 (by decide)).1]
              exact g3
            · rw [(qm_sI_other a x).1, (qm_sI_other a y).1]
            · rw [me_oth _ _ _ _ (Or.inr hk), me_oth _ _ _ _ (Or.inl (by decide))]
          · rw [if_neg q, if_neg q, List.append_nil]
            exact ⟨m, ⟨g1, g2, g3, g4⟩, rfl⟩) (fun f2 m _ => by
          have el : ¬ nI (2 ^ j + 2 ^ j) < qo_ishl (nI (2 ^ j)) 1 := by rw [ishl1 (by omega)]; exact nI_nlt (Nat.le_refl _) (by omega)
          have ea : nI (2 ^ i + S) + 1 = nI (2 ^ i + (S + 1)) := nI_add _ 1
          show L_Le_listMovesAt_14 (L_Le_listMovesAt_3 f) (f2 + 1) (nI (2 ^ i)) (nI (2 ^ j)) (nI (2 ^ i + S)) (nI (2 ^ j + 2 ^ j)) m = _
          rw [le_Le_listMovesAt_14]
          unfold X_Le_listMovesAt_14
          rw [if_neg el, ea]) 1000000 0 m (Nat.zero_le _) (by omega) (by rw [rg_0, List.append_nil]; exact hI)
      refine ⟨m1, ?_, ?_⟩
      · rw [rg_s, ← List.append_assoc]
        exact h1
      · have el : nI (2 ^ i + S) < qo_ishl (nI (2 ^ i)) 1 := by rw [ishl1 (by omega)]; exact nI_lt (by omega) (by omega)
        show L_Le_listMovesAt_3 (f + 1) (nI (2 ^ i)) (nI (2 ^ j)) (nI (2 ^ i + S)) m = _
        rw [le_Le_listMovesAt_3]
        unfold X_Le_listMovesAt_3
        rw [if_pos el]
        exact e) (fun f m _ => by
      have el : ¬ nI (2 ^ i + 2 ^ i) < qo_ishl (nI (2 ^ i)) 1 := by rw [ishl1 (by omega)]; exact nI_nlt (Nat.le_refl _) (by omega)
      show L_Le_listMovesAt_3 (f + 1) (nI (2 ^ i)) (nI (2 ^ j)) (nI (2 ^ i + 2 ^ i)) m = _
      rw [le_Le_listMovesAt_3]
      unfold X_Le_listMovesAt_3
      rw [if_neg el]) 1000000 0 m0 (Nat.zero_le _) (by omega) (by rw [rg_0, List.append_nil]; exact ⟨h6, h62, rfl, lfr.rf m0⟩)
  exact ⟨m1, e, h1⟩
theorem div_ci {c i j : Nat} (hj : j < c) : (c * i + j) / c = i ∧ (c * i + j) % c = j := by
  have h0 : 0 < c := by omega
  exact ⟨by rw [Nat.mul_add_div h0, Nat.div_eq_of_lt hj, Nat.add_zero], by rw [Nat.mul_add_mod, Nat.mod_eq_of_lt hj]⟩
theorem tl_step {K L : Nat → Nat} {r c i j : Nat} (hr : r ≤ 6) (hc : c ≤ 6) (hrc : r * c ≤ 12) (hi : i < r) (hj : j < c) : (tl K L r c (c * i + j)).length + 2 ^ i * 2 ^ j < 256 ∧ tl K L r c (c * i + j + 1) = tl K L r c (c * i + j) ++ mvp K L r c i j := by
  obtain ⟨d1, d2⟩ := div_ci (i := i) hj
  have hp : c * i + j + 1 ≤ r * c := by
    have : c * (i + 1) ≤ c * r := Nat.mul_le_mul_left c hi
    rw [Nat.mul_succ] at this
    rw [Nat.mul_comm r c]
    omega
  have h1 := cnt_le hr hc hrc hp
  have h2 := tl_len K L r c (c * i + j)
  have e : cntp c (c * i + j + 1) = cntp c (c * i + j) + 2 ^ i * 2 ^ j := by
    show cntp c (c * i + j) + 2 ^ ((c * i + j) / c) * 2 ^ ((c * i + j) % c) = _
    rw [d1, d2]
  refine ⟨by omega, ?_⟩
  rw [tl_s]
  unfold mvq
  rw [d1, d2]
/-- the class's list -/
def lsT (m : qm_M) (K L : Nat → Nat) (r c : Nat) : Prop := ltm m 62 (tl K L r c (r * c)) ∧ ∀ p, p ≤ r * c → m.1 63 p = nI (tl K L r c p).length
theorem nu_listMoves {m0 : qm_M} {K L : Nat → Nat} (hb : K 0 ≤ 3 ∧ K 1 ≤ 3 ∧ (1 ≤ L 0 ∧ L 0 ≤ 8) ∧ 1 ≤ L 1 ∧ L 1 ≤ 8) (hT : plT m0 K L) {r c : Nat} (h4 : m0.1 60 4 = nI r) (h5 : m0.1 60 5 = nI c) (hr : r ≤ 6) (hc : c ≤ 6) (hrc : r * c ≤ 12) :
    ∃ m1, F_Le_listMoves m0 = some (none, m1) ∧ lsT m1 K L r c ∧ lfr m0 m1 := by
  let J : Nat → qm_M → Prop := fun p m => m.1 60 6 = nI (tl K L r c p).length ∧ ltm m 62 (tl K L r c p) ∧ (∀ q, q < p → m.1 63 q = nI (tl K L r c q).length) ∧ lfr m0 m
  obtain ⟨m1, hJ, e⟩ := lpU (fun f i (m : qm_M) => L_Le_listMoves_9 f (nI (c * i)) (nI i) m) r (fun i m => J (c * i) m) (fun m => some (none, qm_sI m 63 (c * r) (m.1 60 6))) (fun f i m hi hJ => by
      have hci : c * (i + 1) ≤ c * r := Nat.mul_le_mul_left c hi
      have hcr : c * r ≤ 12 := by rw [Nat.mul_comm]; exact hrc
      rw [Nat.mul_succ] at hci
      obtain ⟨m1, hJ1, e⟩ := lpU (fun f2 j (m : qm_M) => L_Le_listMoves_20 (L_Le_listMoves_9 f) f2 (nI (c * i + j)) (nI i) (nI j) m) c (fun j m => J (c * i + j) m) (fun m => L_Le_listMoves_9 f (nI (c * (i + 1))) (nI (i + 1)) m) (fun f2 j m hj hJ => by
          obtain ⟨j1, j2, j3, j4⟩ := hJ
          obtain ⟨t1, t2⟩ := tl_step (K := K) (L := L) hr hc hrc hi hj
          have g4 := j4.2.1 4 (by decide)
          have g5 := j4.2.1 5 (by decide)
          have hfr : lfr m (qm_sI m 63 (c * i + j) (nI (tl K L r c (c * i + j)).length)) := ⟨fun a _ _ z => (qm_sI_other a z).1, fun k _ => me_oth _ _ _ _ (Or.inl (by decide)), rfl⟩
          obtain ⟨m1, a1, a2, a3, a4, a5⟩ := nu_listAt (m0 := qm_sI m 63 (c * i + j) (nI (tl K L r c (c * i + j)).length)) hb ((j4.tr hfr).T hT) (by rw [hfr.2.1 4 (by decide), g4]; exact h4) (by rw [hfr.2.1 5 (by decide), g5]; exact h5) hr hc hrc hi hj t1 (by rw [me_oth _ _ _ _ (Or.inl (by decide))]; exact j1) (j2.c (qm_sI_other 62 (by decide)).1)
          rw [← t2] at a2 a3
          refine ⟨m1, ⟨a2, a3, fun q hq => ?_, (j4.tr hfr).tr a5⟩, ?_⟩
          · rw [a4]
            by_cases z : q = c * i + j
            · rw [z, me_self]
            · rw [me_oth _ _ _ _ (Or.inr z)]
              exact j3 q (by omega)
          · show L_Le_listMoves_20 (L_Le_listMoves_9 f) (f2 + 1) (nI (c * i + j)) (nI i) (nI j) m = _
            rw [le_Le_listMoves_20]
            unfold X_Le_listMoves_20
            rw [g5, h5, if_pos (nI_lt hj (by omega)), qm_in_nI (show c * i + j < 13 by omega) (by omega), qe_b_e, nI_clamp (by omega), j1, no_ishl1 (by omega), no_ishl1 (by omega)]
            dsimp only
            rw [a1, qe_rV_e, nI_1, nI_1]
            rfl) (fun f2 m hJ => by
          show L_Le_listMoves_20 (L_Le_listMoves_9 f) (f2 + 1) (nI (c * i + c)) (nI i) (nI c) m = _
          rw [le_Le_listMoves_20]
          unfold X_Le_listMoves_20
          rw [hJ.2.2.2.2.1 5 (by decide), h5, if_neg (nI_nlt (Nat.le_refl _) (by omega)), nI_1, Nat.mul_succ]) 1000000 0 m (Nat.zero_le _) (by omega) hJ
      refine ⟨m1, by rw [Nat.mul_succ]; exact hJ1, ?_⟩
      show L_Le_listMoves_9 (f + 1) (nI (c * i)) (nI i) m = _
      rw [le_Le_listMoves_9]
      unfold X_Le_listMoves_9
      rw [hJ.2.2.2.2.1 4 (by decide), h4, if_pos (nI_lt hi (by omega))]
      exact e) (fun f m hJ => by
      have hcr : c * r ≤ 12 := by rw [Nat.mul_comm]; exact hrc
      show L_Le_listMoves_9 (f + 1) (nI (c * r)) (nI r) m = _
      rw [le_Le_listMoves_9]
      unfold X_Le_listMoves_9
      rw [hJ.2.2.2.2.1 4 (by decide), h4, if_neg (nI_nlt (Nat.le_refl _) (by omega)), qm_in_nI (show c * r < 13 by omega) (by omega), qe_b_e, nI_clamp (by omega)]) 1000000 0 (qm_sI m0 60 6 0) (Nat.zero_le _) (by omega) ⟨me_self _ _ _ _, fun k hk => absurd hk (Nat.not_lt_zero _), fun q hq => absurd hq (by omega), fun a x _ _ => (qm_sI_other a x).1, fun k hk => me_oth _ _ _ _ (Or.inr hk), rfl⟩
  obtain ⟨j1, j2, j3, j4⟩ := hJ
  refine ⟨_, e, ⟨?_, fun p hp => ?_⟩, j4.tr ⟨fun a _ _ z => (qm_sI_other a z).1, fun k _ => me_oth _ _ _ _ (Or.inl (by decide)), rfl⟩⟩
  · rw [Nat.mul_comm r c]
    exact j2.c (qm_sI_other 62 (by decide)).1
  · by_cases z : p = c * r
    · rw [z, me_self, j1]
    · rw [me_oth _ _ _ _ (Or.inr z)]
      exact j3 p (by rw [Nat.mul_comm] at hp; omega)
/-- the model's list -/
def lmf (m m1 : qm_M) : Prop := (∀ a, a ≠ 139 → a ≠ 140 → m1.1 a = m.1 a) ∧ m1.2 = m.2
theorem lmf.rf (m : qm_M) : lmf m m := ⟨fun _ _ _ => rfl, rfl⟩
theorem lmf.tr {m m1 m2 : qm_M} (h : lmf m m1) (g : lmf m1 m2) : lmf m m2 := ⟨fun a x y => (g.1 a x y).trans (h.1 a x y), g.2.trans h.2⟩
theorem lmf.now {m m1 : qm_M} {P : sP} (g : lmf m m1) (h : ms_now m P) : ms_now m1 P := fun i hi => by rw [g.2]; exact h i hi
def lsM (m : qm_M) (K L : Nat → Nat) (r c : Nat) : Prop := ltm m 140 (tl K L r c (r * c)) ∧ ∀ p, p ≤ r * c → m.1 139 p = nI (tl K L r c p).length
theorem nI_rem {a b : Nat} (ha : a < 2 ^ 31) (h0 : 0 < b) (hb : b < 2 ^ 31) : qo_irem (nI a) (nI b) = nI (a % b) := by
  unfold qo_irem
  have hle : a / b * b ≤ a := Nat.div_mul_le_self a b
  rw [pk_div ha h0 hb, pk_mul, nI_sub hle]
  congr 1
  have := Nat.div_add_mod a b
  rw [Nat.mul_comm] at this
  omega
