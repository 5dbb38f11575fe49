/-! the model weighs -/
theorem le_M_sumOf_5  (n : Nat) (v1 : Int32) (v2 : Int32) (v3 : Int32) (v4 : Int32) (m : qm_M) : L_M_sumOf_5 (n + 1) v1 v2 v3 v4 m = X_M_sumOf_5 (L_M_sumOf_5 n) v1 v2 v3 v4 m := rfl
theorem le_M_leastNot_2  (n : Nat) (v1 : Int32) (v2 : Int32) (m : qm_M) : L_M_leastNot_2 (n + 1) v1 v2 m = X_M_leastNot_2 (L_M_leastNot_2 n) v1 v2 m := rfl
theorem le_M_laysWorth_29  (n : Nat) (v1 : Int32) (v2 : Int32) (v3 : Int32) (v4 : Int32) (m : qm_M) : L_M_laysWorth_29 (n + 1) v1 v2 v3 v4 m = X_M_laysWorth_29 F_M_maySet F_M_sumOf F_M_leastNot (L_M_laysWorth_29 n) v1 v2 v3 v4 m := rfl
theorem le_M_laysWorth_2  (n : Nat) (v1 : Int32) (v2 : Int32) (v3 : Int32) (m : qm_M) : L_M_laysWorth_2 (n + 1) v1 v2 v3 m = X_M_laysWorth_2 F_M_maySet F_M_sumOf F_M_leastNot (L_M_laysWorth_2 n) (L_M_laysWorth_29 1000000) v1 v2 v3 m := rfl
theorem le_M_laysWorths_9 (K2 : Int32 → Int32 → qm_M → Option qm_R) (n : Nat) (v1 : Int32) (v2 : Int32) (v3 : Int32) (m : qm_M) : L_M_laysWorths_9 K2 (n + 1) v1 v2 v3 m = X_M_laysWorths_9 F_M_laysWorth K2 (L_M_laysWorths_9 K2 n) v1 v2 v3 m := rfl
theorem le_M_laysWorths_2  (n : Nat) (v1 : Int32) (v2 : Int32) (m : qm_M) : L_M_laysWorths_2 (n + 1) v1 v2 m = X_M_laysWorths_2 F_M_laysWorth (L_M_laysWorths_9 (L_M_laysWorths_2 n) 1000000) v1 v2 m := rfl
theorem le_M_worth_26  (n : Nat) (v1 : Int32) (v2 : Int32) (v3 : Int32) (m : qm_M) : L_M_worth_26 (n + 1) v1 v2 v3 m = X_M_worth_26 F_M_isIn F_M_laysWorth (L_M_worth_26 n) v1 v2 v3 m := rfl
theorem le_M_sets_31  (n : Nat) (v1 : Int32) (v2 : Int32) (v3 : Int32) (v4 : Int32) (m : qm_M) : L_M_sets_31 (n + 1) v1 v2 v3 v4 m = X_M_sets_31 F_M_isIn F_M_maySet (L_M_sets_31 n) v1 v2 v3 v4 m := rfl
def metM (m : qm_M) (N : Nat) (l : List Nat) : Prop := ∀ v, v < N → m.1 134 v = if v ∈ l then 1 else 0
theorem metM.add {m : qm_M} {N : Nat} {l : List Nat} (h : metM m N l) (v : Nat) : metM (qm_sI m 134 v 1) N (l ++ [v]) := fun u hu => by
  by_cases q : u = v
  · rw [q, me_self, if_pos (List.mem_append.mpr (Or.inr (List.mem_singleton.mpr rfl)))]
  · rw [me_oth _ _ _ _ (Or.inr q), h u hu]
    by_cases z : u ∈ l
    · rw [if_pos z, if_pos (List.mem_append.mpr (Or.inl z))]
    · rw [if_neg z, if_neg (fun c => (List.mem_append.mp c).elim z (fun c => q (List.mem_singleton.mp c)))]
theorem mt_leastNot {m : qm_M} {N c : Nat} {l : List Nat} (h : metM m N l) (hc : mx l ≤ c) (hN : mx l < N) (hN2 : N ≤ 65536) (hc2 : c < 2 ^ 31) : F_M_leastNot (nI c) m = some (some (.int (nI (mx l))), m) := by
  refine lpE (fun f k (m1 : qm_M) => L_M_leastNot_2 f (nI c) (nI k) m1) (mx l) (fun k m1 => m1 = m) (fun r => r = some (some (.int (nI (mx l))), m)) (fun f k m1 hk hI => ?_) (fun f m1 hI => ?_) 1000000 0 m (Nat.zero_le _) (by omega) rfl
  · subst hI
    show (∃ s', _ ∧ L_M_leastNot_2 (f + 1) (nI c) (nI k) m1 = _) ∨ _
    rw [le_M_leastNot_2]
    unfold X_M_leastNot_2
    rw [if_neg (nI_nlt (by omega) hc2), qm_in_nI (show k < 65536 by omega) (by omega), qe_b_e, nI_clamp (by omega), h k (by omega), if_pos (mx_lt l k hk), if_neg n10, nI_1]
    exact Or.inl ⟨m1, rfl, rfl⟩
  · subst hI
    show L_M_leastNot_2 (f + 1) (nI c) (nI (mx l)) m1 = _
    rw [le_M_leastNot_2]
    unfold X_M_leastNot_2
    rw [if_neg (nI_nlt hc hc2), qm_in_nI (show mx l < 65536 by omega) (by omega), qe_b_e, nI_clamp (by omega), h (mx l) hN, if_neg (mx_no l), if_pos rfl]
theorem sw_up {w : Nat → Nat} {k S : Nat} (h : S < 2 ^ k) : ∀ d, sw w (k + d) S = sw w k S
  | 0 => rfl
  | d + 1 => by
    rw [← Nat.add_assoc, sw_lo w (n := k + d) (Nat.lt_of_lt_of_le h (Nat.pow_le_pow_right (by omega) (by omega))), sw_up h d]
theorem nI_and1 {a : Nat} (ha : a < 2 ^ 31) : nI a &&& 1 = nI (a % 2) := by
  have e : nI a &&& nI 1 = _ := nI_and ha (by omega)
  have e2 : a &&& 1 = a % 2 := Nat.and_two_pow_sub_one_eq_mod a 1
  rw [e2] at e
  exact e
theorem nI_bit1 {a k : Nat} (ha : a < 2 ^ 31) (hk : k < 32) : (qo_ishr (nI a) (nI k) &&& 1 = 1 ↔ a.testBit k = true) ∧ (qo_ishr (nI a) (nI k) &&& 1 = 0 ↔ a.testBit k = false) := by
  have hd := Nat.div_le_self a (2 ^ k)
  rw [nI_shr ha hk, nI_and1 (by omega), Nat.testBit_eq_decide_div_mod_eq]
  have h2 : a / 2 ^ k % 2 < 2 := Nat.mod_lt _ (by omega)
  constructor
  · rw [decide_eq_true_iff]
    exact nI_eq (b := 1) (by omega) (by omega)
  · rw [decide_eq_false_iff_not]
    constructor
    · intro z
      have := (nI_eq (b := 0) (by omega) (by omega)).mp z
      omega
    · intro z
      rw [show a / 2 ^ k % 2 = 0 by omega]
      rfl
def wM (m : qm_M) (v κ l n : Nat) : Prop := ∀ i, i < n → m.1 133 (12 * v + i) = nI (cw κ l i)
theorem nI_12 (i j : Nat) : (12 : Int32) * nI i + nI j = nI (12 * i + j) := by
  have e : (12 : Int32) * nI i = nI (12 * i) := pk_mul 12 i
  rw [e, nI_add]
theorem mt_sumOf {m : qm_M} {v κ l n S : Nat} (hv : v < 2) (hn : n ≤ 12) (h : wM m v κ l n) (hS : S < 2 ^ n) : F_M_sumOf (nI v) (nI S) m = some (some (.int (nI (sw (cw κ l) n S))), m) := by
  have hn2 : 2 ^ n ≤ 4096 := Nat.le_trans (Nat.pow_le_pow_right (by omega) hn) (by decide)
  refine lpE (fun f k (m1 : qm_M) => L_M_sumOf_5 f (nI v) (nI S) (nI (sw (cw κ l) k S)) (nI k) m1) n (fun k m1 => m1 = m) (fun r => r = some (some (.int (nI (sw (cw κ l) n S))), m)) (fun f k m1 hk hI => ?_) (fun f m1 hI => ?_) 1000000 0 m (Nat.zero_le _) (by omega) rfl
  · subst hI
    have hsh : qo_ishr (nI S) (nI k) = nI (S / 2 ^ k) := nI_shr (by omega) (by omega)
    have hd := Nat.div_le_self S (2 ^ k)
    show (∃ s', _ ∧ L_M_sumOf_5 (f + 1) (nI v) (nI S) (nI (sw (cw κ l) k S)) (nI k) m1 = _) ∨ L_M_sumOf_5 (f + 1) (nI v) (nI S) (nI (sw (cw κ l) k S)) (nI k) m1 = _
    rw [le_M_sumOf_5]
    unfold X_M_sumOf_5
    by_cases q : S / 2 ^ k = 0
    · have hlt : S < 2 ^ k := by
        by_cases z : S < 2 ^ k
        · exact z
        · have := Nat.div_pos (Nat.le_of_not_lt z) (Nat.two_pow_pos k)
          omega
      have e := sw_up (w := cw κ l) hlt (n - k)
      rw [show k + (n - k) = n by omega] at e
      rw [hsh, q, if_pos (show nI 0 = 0 from rfl), e]
      exact Or.inr rfl
    · have nz : ¬ qo_ishr (nI S) (nI k) = 0 := by rw [hsh]; exact nI_ne0 (Nat.pos_of_ne_zero q) (Nat.lt_of_le_of_lt hd (by omega))
      rw [if_neg nz]
      refine Or.inl ⟨m1, rfl, ?_⟩
      have hb := (nI_bit1 (a := S) (k := k) (by omega) (by omega)).1
      rw [sw_s]
      have w1 := @cw_12 κ l k (by omega)
      have w2 := @sw_12 κ l k S (by omega)
      by_cases z : S.testBit k = true
      · rw [if_pos (hb.mpr z), if_pos z, nI_12, qm_in_nI (show 12 * v + k < 24 by omega) (by omega), qe_b_e, nI_clamp (by omega), h k hk, nI_xor (by omega) (by omega), nI_1]
      · have e0 : nI (sw (cw κ l) k S) ^^^ (0 : Int32) = nI (sw (cw κ l) k S ^^^ 0) := nI_xor (b := 0) (by omega) (by omega)
        rw [if_neg (fun c => z (hb.mp c)), if_neg z, e0, nI_1]
  · subst hI
    show L_M_sumOf_5 (f + 1) (nI v) (nI S) (nI (sw (cw κ l) n S)) (nI n) m1 = _
    rw [le_M_sumOf_5]
    unfold X_M_sumOf_5
    rw [nI_shr (by omega) (by omega), Nat.div_eq_of_lt hS, if_pos (show nI 0 = 0 from rfl)]
theorem log2_p {n S : Nat} (h : S < 2 ^ n) : Nat.log2 (2 ^ n + S) = n := by
  have hp := Nat.two_pow_pos n
  refine (Nat.log2_eq_iff (by omega)).mpr ⟨by omega, ?_⟩
  rw [Nat.pow_succ]
  omega
theorem less_chk : (List.range 4096).all (fun v => (v == 0) || decide (nI v &&& (qo_ishl 1 (nI (Nat.log2 v)) ^^^ -1) = nI (v - 2 ^ Nat.log2 v))) = true := by decide +kernel
theorem less_top {n S : Nat} (hn : n < 12) (h : S < 2 ^ n) : nI (2 ^ n + S) &&& (qo_ishl 1 (nI n) ^^^ -1) = nI S := by
  have h2 := pow_12 hn
  have hp := Nat.two_pow_pos n
  have c := List.all_eq_true.mp less_chk (2 ^ n + S) (List.mem_range.mpr (by omega))
  rw [Bool.or_eq_true, log2_p h, Nat.add_sub_cancel_left] at c
  rcases c with c | c
  · have : 2 ^ n + S = 0 := by simpa using c
    omega
  · exact of_decide_eq_true c
theorem ishl2 {n : Nat} (hn : n < 12) : qo_ishl (2 : Int32) (nI n) = nI (2 ^ n + 2 ^ n) := by
  have c : (List.range 12).all (fun n => decide (qo_ishl (2 : Int32) (nI n) = nI (2 ^ n + 2 ^ n))) = true := by decide +kernel
  exact of_decide_eq_true (List.all_eq_true.mp c n (List.mem_range.mpr hn))
def lwf (m m1 : qm_M) : Prop := (∀ a, a ≠ 133 → a ≠ 134 → m1.1 a = m.1 a) ∧ m1.2 = m.2
theorem lwf.rf (m : qm_M) : lwf m m := ⟨fun _ _ _ => rfl, rfl⟩
theorem lwf.tr {m m1 m2 : qm_M} (h : lwf m m1) (g : lwf m1 m2) : lwf m m2 := ⟨fun a x y => (g.1 a x y).trans (h.1 a x y), g.2.trans h.2⟩
theorem lwf.now {m m1 : qm_M} {P : sP} (g : lwf m m1) (h : ms_now m P) : ms_now m1 P := fun i hi => by rw [g.2]; exact h i hi
theorem lwf.ms {m m1 : qm_M} {s : sT} (g : lwf m m1) (h : ms m s) : ms m1 s := h.fr (by rw [g.1 112 (by decide) (by decide)]) (by rw [g.1 112 (by decide) (by decide)]) (g.1 116 (by decide) (by decide)) (g.1 129 (by decide) (by decide)) (fun a _ _ => by rw [g.2])
theorem lwf.lo {m m1 : qm_M} (g : lwf m m1) : lo_fr m m1 := ⟨fun a h => g.1 a (by omega) (by omega), fun a _ => by rw [g.2]⟩
theorem mt_laysWorth {m0 : qm_M} {P : sP} (hP : ms_now m0 P) {v κ l n : Nat} (hv : v < 2) (h2 : P (2 + v) = lN κ) (h4 : P (4 + v) = lN l) (hκ : κ ≤ 3) (hl : 1 ≤ l ∧ l ≤ 8) (hn : n < 12) (hw : wM m0 v κ l n) :
    ∃ m1, F_M_laysWorth (nI v) (nI n) m0 = some (none, m1) ∧ (∀ i, m1.1 133 i = if i = 12 * v + n then nI (cw κ l n) else m0.1 133 i) ∧ lwf m0 m1 := by
  have h12 := pow_12 hn
  have hp := Nat.two_pow_pos n
  obtain ⟨m1, ⟨g1, g2, g3⟩, e⟩ := lpU (fun f k (m : qm_M) => L_M_laysWorth_2 f (nI v) (nI n) (nI k) m) 4096 (fun k m => (∀ u, u < k → m.1 134 u = 0) ∧ (∀ a, a ≠ 134 → m.1 a = m0.1 a) ∧ m.2 = m0.2) (fun m => L_M_laysWorth_29 1000000 (nI v) (nI n) 0 (nI (2 ^ n + 0)) m) (fun f k m hk hI => by
      obtain ⟨g1, g2, g3⟩ := hI
      refine ⟨qm_sI m 134 k 0, ⟨fun u hu => ?_, fun a ha => by rw [(qm_sI_other a ha).1]; exact g2 a ha, g3⟩, ?_⟩
      · by_cases q : u = k
        · rw [q, me_self]
        · rw [me_oth _ _ _ _ (Or.inr q)]
          exact g1 u (by omega)
      · have e4 : nI k < (4096 : Int32) := nI_lt (b := 4096) hk (by omega)
        have e5 : (0 : Int32) &&& 1 = 0 := by decide
        show L_M_laysWorth_2 (f + 1) (nI v) (nI n) (nI k) m = _
        rw [le_M_laysWorth_2]
        unfold X_M_laysWorth_2
        rw [if_pos e4, qm_in_nI (show k < 65536 by omega) (by omega), qe_b_e, nI_clamp (by omega), e5, nI_1]) (fun f m _ => by
      have e4 : ¬ nI 4096 < (4096 : Int32) := by decide
      show L_M_laysWorth_2 (f + 1) (nI v) (nI n) (nI 4096) m = _
      rw [le_M_laysWorth_2]
      unfold X_M_laysWorth_2
      rw [if_neg e4, no_ishl1 (by omega)]
      rfl) 1000000 0 m0 (Nat.zero_le _) (by omega) ⟨fun u hu => absurd hu (Nat.not_lt_zero _), fun _ _ => rfl, rfl⟩
  obtain ⟨m2, ⟨d1, d2, d3⟩, e2⟩ := lpU (fun f S (m : qm_M) => L_M_laysWorth_29 f (nI v) (nI n) (nI (osT κ l n S).length) (nI (2 ^ n + S)) m) (2 ^ n) (fun S m => metM m 4096 ((osT κ l n S).map (sw (cw κ l) n)) ∧ (∀ a, a ≠ 134 → m.1 a = m0.1 a) ∧ m.2 = m0.2) (fun m => some (none, qm_sI m 133 (12 * v + n) (nI (cw κ l n)))) (fun f S m hS hI => by
      obtain ⟨d1, d2, d3⟩ := hI
      have hm := mt_maySet (m := m) (P := P) (fun i hi => by rw [d3]; exact hP i hi) hv h2 h4 hκ hl (show 0 < 2 ^ n + S by omega) (by omega)
      have e3 : nI (2 ^ n + S) < qo_ishl (2 : Int32) (nI n) := by rw [ishl2 hn]; exact nI_lt (by omega) (by omega)
      have ea : nI (2 ^ n + S) + 1 = nI (2 ^ n + (S + 1)) := nI_add _ 1
      have hlen := osT_len κ l n S
      by_cases q : al κ l (2 ^ n + S) = true
      · have hs := mt_sumOf (m := m) hv (show n ≤ 12 by omega) (fun i hi => by rw [d2 133 (by decide)]; exact hw i hi) hS
        have hlt := @sw_12 κ l n S (by omega)
        refine ⟨qm_sI m 134 (sw (cw κ l) n S) 1, ⟨?_, fun a ha => by rw [(qm_sI_other a ha).1]; exact d2 a ha, d3⟩, ?_⟩
        · rw [osT_t q, List.map_append]
          exact d1.add _
        · have e5 : (1 : Int32) &&& 1 = 1 := by decide
          show L_M_laysWorth_29 (f + 1) (nI v) (nI n) (nI (osT κ l n S).length) (nI (2 ^ n + S)) m = _
          rw [le_M_laysWorth_29]
          unfold X_M_laysWorth_29
          rw [if_pos e3, hm, qe_rI_e, if_pos q, if_neg n10, less_top hn hS, hs, qe_rI_e, qm_in_nI (show sw (cw κ l) n S < 65536 by omega) (by omega), qe_b_e, nI_clamp (by omega), ea, nI_1, e5, osT_t q, List.length_append]
          rfl
      · refine ⟨m, ⟨by rw [osT_f q]; exact d1, d2, d3⟩, ?_⟩
        show L_M_laysWorth_29 (f + 1) (nI v) (nI n) (nI (osT κ l n S).length) (nI (2 ^ n + S)) m = _
        rw [le_M_laysWorth_29]
        unfold X_M_laysWorth_29
        rw [if_pos e3, hm, qe_rI_e, if_neg q, if_pos rfl, ea, osT_f q]) (fun f m hI => by
      obtain ⟨d1, d2, d3⟩ := hI
      have e3 : ¬ nI (2 ^ n + 2 ^ n) < qo_ishl (2 : Int32) (nI n) := by rw [ishl2 hn]; exact nI_nlt (Nat.le_refl _) (by omega)
      have hlen := osT_len κ l n (2 ^ n)
      have hmx := mx_le ((osT κ l n (2 ^ n)).map (sw (cw κ l) n))
      rw [List.length_map] at hmx
      have hln := mt_leastNot d1 (c := (osT κ l n (2 ^ n)).length) hmx (by omega) (by omega) (by omega)
      have ecw : mx ((osT κ l n (2 ^ n)).map (sw (cw κ l) n)) = cw κ l n := (cw_eq κ l n).symm
      rw [ecw] at hln
      show L_M_laysWorth_29 (f + 1) (nI v) (nI n) (nI (osT κ l n (2 ^ n)).length) (nI (2 ^ n + 2 ^ n)) m = _
      rw [le_M_laysWorth_29]
      unfold X_M_laysWorth_29
      rw [if_neg e3, hln, qe_rI_e, nI_12, qm_in_nI (show 12 * v + n < 24 by omega) (by omega), qe_b_e, nI_clamp (by omega)]) 1000000 0 m1 (Nat.zero_le _) (by omega) ⟨fun u hu => by rw [g1 u hu]; exact (if_neg List.not_mem_nil).symm, g2, g3⟩
  refine ⟨qm_sI m2 133 (12 * v + n) (nI (cw κ l n)), ?_, fun i => ?_, fun a x y => ?_, d3⟩
  · unfold F_M_laysWorth X_M_laysWorth_e
    exact e.trans e2
  · by_cases q : i = 12 * v + n
    · rw [if_pos q, q, me_self]
    · rw [if_neg q, me_oth _ _ _ _ (Or.inr q), d2 133 (by decide)]
  · rw [(qm_sI_other a x).1]
    exact d2 a y
/-- the worths of one side's first coins -/
theorem wM.s {m m1 : qm_M} {v κ l n : Nat} (h : wM m v κ l n) (e : ∀ i, m1.1 133 i = if i = 12 * v + n then nI (cw κ l n) else m.1 133 i) : wM m1 v κ l (n + 1) := fun i hi => by
  rw [e]
  by_cases q : i = n
  · rw [if_pos (by omega), q]
  · rw [if_neg (by omega)]
    exact h i (by omega)
/-- a position's rules -/
def prl (P : sP) (K L : Nat → Nat) : Prop := ∀ v, v < 2 → P (2 + v) = lN (K v) ∧ P (4 + v) = lN (L v) ∧ K v ≤ 3 ∧ 1 ≤ L v ∧ L v ≤ 8
theorem mt_laysWorths {m0 : qm_M} {P : sP} (hP : ms_now m0 P) {K L : Nat → Nat} (hr : prl P K L) :
    ∃ m1, F_M_laysWorths 6 m0 = some (none, m1) ∧ (∀ v, v < 2 → wM m1 v (K v) (L v) 6) ∧ lwf m0 m1 := by
  obtain ⟨m1, ⟨g1, g2⟩, e⟩ := lpU (fun f v (m : qm_M) => L_M_laysWorths_2 f 6 (nI v) m) 2 (fun v m => (∀ u, u < v → wM m u (K u) (L u) 6) ∧ lwf m0 m) (fun m => some (none, m)) (fun f v m hv hI => by
      obtain ⟨g1, g2⟩ := hI
      obtain ⟨r1, r2, r3, r4⟩ := hr v hv
      obtain ⟨m1, ⟨d1, d2, d3⟩, e⟩ := lpU (fun f2 n (m : qm_M) => L_M_laysWorths_9 (L_M_laysWorths_2 f) f2 6 (nI v) (nI n) m) 6 (fun n m => wM m v (K v) (L v) n ∧ (∀ u, u < v → wM m u (K u) (L u) 6) ∧ lwf m0 m) (fun m => L_M_laysWorths_2 f 6 (nI (v + 1)) m) (fun f2 n m hn hI => by
          obtain ⟨d1, d2, d3⟩ := hI
          obtain ⟨m1, a1, a2, a3⟩ := mt_laysWorth (d3.now hP) hv r1 r2 r3 r4 (show n < 12 by omega) d1
          refine ⟨m1, ⟨d1.s a2, fun u hu i hi => by rw [a2, if_neg (by omega)]; exact d2 u hu i hi, d3.tr a3⟩, ?_⟩
          have e6 : nI n < (6 : Int32) := nI_lt (b := 6) hn (by omega)
          show L_M_laysWorths_9 (L_M_laysWorths_2 f) (f2 + 1) 6 (nI v) (nI n) m = _
          rw [le_M_laysWorths_9]
          unfold X_M_laysWorths_9
          rw [if_pos e6, a1, qe_rV_e, nI_1]) (fun f2 m _ => by
          have e6 : ¬ nI 6 < (6 : Int32) := by decide
          show L_M_laysWorths_9 (L_M_laysWorths_2 f) (f2 + 1) 6 (nI v) (nI 6) m = _
          rw [le_M_laysWorths_9]
          unfold X_M_laysWorths_9
          rw [if_neg e6, nI_1]) 1000000 0 m (Nat.zero_le _) (by omega) ⟨fun i hi => absurd hi (Nat.not_lt_zero _), g1, g2⟩
      refine ⟨m1, ⟨fun u hu => ?_, d3⟩, ?_⟩
      · by_cases q : u = v
        · rw [q]
          exact d1
        · exact d2 u (by omega)
      · have e2 : nI v < (2 : Int32) := nI_lt (b := 2) hv (by omega)
        show L_M_laysWorths_2 (f + 1) 6 (nI v) m = _
        rw [le_M_laysWorths_2]
        unfold X_M_laysWorths_2
        rw [if_pos e2]
        exact e) (fun f m _ => by
      have e2 : ¬ nI 2 < (2 : Int32) := by decide
      show L_M_laysWorths_2 (f + 1) 6 (nI 2) m = _
      rw [le_M_laysWorths_2]
      unfold X_M_laysWorths_2
      rw [if_neg e2]) 1000000 0 m0 (Nat.zero_le _) (by omega) ⟨fun u hu => absurd hu (Nat.not_lt_zero _), lwf.rf m0⟩
  exact ⟨m1, e, g1, g2⟩
theorem mt_worth26 {m0 : qm_M} {P : sP} (hP : ms_now m0 P) {v κ l n : Nat} (hv : v < 2) (h2 : P (2 + v) = lN κ) (h4 : P (4 + v) = lN l) (hκ : κ ≤ 3) (hl : 1 ≤ l ∧ l ≤ 8) (hn : n < 12) :
    ∃ m1, L_M_worth_26 1000000 (nI v) (nI n) 0 m0 = some (some (.int (nI (cw κ l n))), m1) ∧ lwf m0 m1 := by
  obtain ⟨m1, ⟨g1, g2⟩, e⟩ := lpU (fun f k (m : qm_M) => L_M_worth_26 f (nI v) (nI n) (nI k) m) (n + 1) (fun k m => wM m v κ l k ∧ lwf m0 m) (fun m => some (some (.int (m.1 133 (12 * v + n))), m)) (fun f k m hk hI => by
      obtain ⟨g1, g2⟩ := hI
      obtain ⟨m1, a1, a2, a3⟩ := mt_laysWorth (g2.now hP) hv h2 h4 hκ hl (show k < 12 by omega) g1
      refine ⟨m1, ⟨g1.s a2, g2.tr a3⟩, ?_⟩
      show L_M_worth_26 (f + 1) (nI v) (nI n) (nI k) m = _
      rw [le_M_worth_26]
      unfold X_M_worth_26
      rw [if_neg (nI_nlt (by omega) (by omega)), a1, qe_rV_e, nI_1]) (fun f m _ => by
      show L_M_worth_26 (f + 1) (nI v) (nI n) (nI (n + 1)) m = _
      rw [le_M_worth_26]
      unfold X_M_worth_26
      rw [if_pos (nI_lt (by omega) (by omega)), nI_12, qm_in_nI (show 12 * v + n < 24 by omega) (by omega), qe_b_e, nI_clamp (by omega)]) 1000000 0 m0 (Nat.zero_le _) (by omega) ⟨fun i hi => absurd hi (Nat.not_lt_zero _), lwf.rf m0⟩
  refine ⟨m1, ?_, g2⟩
  rw [← g1 n (by omega)]
  exact e
theorem mt_sets31 {m : qm_M} {P : sP} (hP : ms_now m P) {v κ l n : Nat} (hv : v < 2) (h2 : P (2 + v) = lN κ) (h4 : P (4 + v) = lN l) (hκ : κ ≤ 3) (hl : 1 ≤ l ∧ l ≤ 8) (hn : n < 12) :
    L_M_sets_31 1000000 (nI v) (nI n) 0 (nI (2 ^ n)) m = some (some (.int (nI (os κ l n).length)), m) := by
  have h12 := pow_12 hn
  have hp := Nat.two_pow_pos n
  obtain ⟨m1, d1, e2⟩ := lpU (fun f S (m1 : qm_M) => L_M_sets_31 f (nI v) (nI n) (nI (osT κ l n S).length) (nI (2 ^ n + S)) m1) (2 ^ n) (fun S m1 => m1 = m) (fun m1 => some (some (.int (nI (os κ l n).length)), m1)) (fun f S m1 hS hI => by
      subst hI
      have hm := mt_maySet (m := m1) (P := P) hP hv h2 h4 hκ hl (show 0 < 2 ^ n + S by omega) (by omega)
      have e3 : nI (2 ^ n + S) < qo_ishl (2 : Int32) (nI n) := by rw [ishl2 hn]; exact nI_lt (by omega) (by omega)
      have ea : nI (2 ^ n + S) + 1 = nI (2 ^ n + (S + 1)) := nI_add _ 1
      refine ⟨m1, rfl, ?_⟩
      show L_M_sets_31 (f + 1) (nI v) (nI n) (nI (osT κ l n S).length) (nI (2 ^ n + S)) m1 = _
      rw [le_M_sets_31]
      unfold X_M_sets_31
      rw [if_pos e3, hm, qe_rI_e, ea]
      by_cases q : al κ l (2 ^ n + S) = true
      · rw [if_pos q, if_neg n10, nI_1, osT_t q, List.length_append]
        rfl
      · have e0 : nI (osT κ l n S).length + (0 : Int32) = nI (osT κ l n S).length := nI_add _ 0
        rw [if_neg q, if_pos rfl, osT_f q, e0]) (fun f m1 _ => by
      have e3 : ¬ nI (2 ^ n + 2 ^ n) < qo_ishl (2 : Int32) (nI n) := by rw [ishl2 hn]; exact nI_nlt (Nat.le_refl _) (by omega)
      show L_M_sets_31 (f + 1) (nI v) (nI n) (nI (osT κ l n (2 ^ n)).length) (nI (2 ^ n + 2 ^ n)) m1 = _
      rw [le_M_sets_31]
      unfold X_M_sets_31
      rw [if_neg e3]
      rfl) 1000000 0 m (Nat.zero_le _) (by omega) rfl
  rw [d1] at e2
  exact e2
