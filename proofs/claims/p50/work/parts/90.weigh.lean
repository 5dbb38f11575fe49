/-! what coins are worth; the class weighs -/
theorem le_Ru_leastUnmet_2  (n : Nat) (v0 : Nat) (v1 : Int32) (m : qm_M) : L_Ru_leastUnmet_2 (n + 1) v0 v1 m = X_Ru_leastUnmet_2 (L_Ru_leastUnmet_2 n) v0 v1 m := rfl
theorem le_Ru_weigh_111  (n : Nat) (v0 : Nat) (v1 : Int32) (v2 : Int32) (v3 : Int32) (m : qm_M) : L_Ru_weigh_111 (n + 1) v0 v1 v2 v3 m = X_Ru_weigh_111 F_Ru_allows F_Ru_leastUnmet (L_Ru_weigh_111 n) v0 v1 v2 v3 m := rfl
theorem le_Ru_weigh_37  (n : Nat) (v0 : Nat) (v1 : Int32) (v2 : Int32) (v3 : Int32) (m : qm_M) : L_Ru_weigh_37 (n + 1) v0 v1 v2 v3 m = X_Ru_weigh_37 F_Ru_allows F_Ru_leastUnmet (L_Ru_weigh_37 n) (L_Ru_weigh_111 1000000) v0 v1 v2 v3 m := rfl
theorem le_Ru_weigh_2  (n : Nat) (v0 : Nat) (v1 : Int32) (v2 : Int32) (m : qm_M) : L_Ru_weigh_2 (n + 1) v0 v1 v2 m = X_Ru_weigh_2 F_Ru_allows F_Ru_leastUnmet (L_Ru_weigh_2 n) (L_Ru_weigh_37 1000000) v0 v1 v2 m := rfl
theorem le_Ru_tune_29  (n : Nat) (v0 : Nat) (v3 : Int32) (m : qm_M) : L_Ru_tune_29 (n + 1) v0 v3 m = X_Ru_tune_29 F_Ru_weigh (L_Ru_tune_29 n) v0 v3 m := rfl
theorem nI_and {a b : Nat} (ha : a < 2 ^ 31) (hb : b < 2 ^ 31) : nI a &&& nI b = nI (a &&& b) := by
  apply Int32.toBitVec_inj.1
  show BitVec.ofNat 32 a &&& BitVec.ofNat 32 b = BitVec.ofNat 32 (a &&& b)
  apply BitVec.eq_of_toNat_eq
  rw [BitVec.toNat_and, BitVec.toNat_ofNat, BitVec.toNat_ofNat, BitVec.toNat_ofNat, Nat.mod_eq_of_lt (show a < 2 ^ 32 by omega), Nat.mod_eq_of_lt (show b < 2 ^ 32 by omega), Nat.mod_eq_of_lt (show a &&& b < 2 ^ 32 from Nat.lt_of_le_of_lt Nat.and_le_left (by omega))]
theorem nI_and63 {a : Nat} (ha : a < 2 ^ 31) : nI a &&& 63 = nI (a % 64) := by
  have e : nI a &&& nI 63 = _ := nI_and ha (by omega)
  have e2 : a &&& 63 = a % 64 := Nat.and_two_pow_sub_one_eq_mod a 6
  rw [e2] at e
  exact e
theorem nI_shr6 {a : Nat} (ha : a < 2 ^ 31) : qo_ishr (nI a) 6 = nI (a / 64) := nI_shr (k := 6) ha (by omega)
/-- least that is not in a list -/
theorem mx_len : ∀ (k : Nat) (l : List Nat), (∀ i, i < k → i ∈ l) → k ≤ l.length
  | 0, _, _ => Nat.zero_le _
  | k + 1, l, h => by
    have ih := mx_len k (l.filter (fun i => decide (i ≠ k))) (fun i hi => List.mem_filter.mpr ⟨h i (by omega), decide_eq_true (by omega)⟩)
    have hk := h k (by omega)
    have : (l.filter (fun i => decide (i ≠ k))).length < l.length := List.length_filter_lt_length_iff_exists.mpr ⟨k, hk, by simp⟩
    omega
theorem mx_ex (l : List Nat) : ∃ v, v ∉ l ∧ ∀ i, i < v → i ∈ l := by
  obtain ⟨v, h1, h2⟩ := pk_least (fun v => v ∉ l) (by
    by_cases q : ∃ k, k ∉ l
    · exact q
    · have := mx_len (l.length + 1) l (fun i _ => by
        by_cases z : i ∈ l
        · exact z
        · exact absurd ⟨i, z⟩ q)
      omega)
  exact ⟨v, h1, fun i hi => by
    by_cases z : i ∈ l
    · exact z
    · exact absurd z (h2 i hi)⟩
noncomputable def mx (l : List Nat) : Nat := Classical.choose (mx_ex l)
theorem mx_no (l : List Nat) : mx l ∉ l := (Classical.choose_spec (mx_ex l)).1
theorem mx_lt (l : List Nat) : ∀ i, i < mx l → i ∈ l := (Classical.choose_spec (mx_ex l)).2
theorem mx_le (l : List Nat) : mx l ≤ l.length := mx_len _ l (mx_lt l)
theorem mx_un {l : List Nat} {v : Nat} (h1 : v ∉ l) (h2 : ∀ i, i < v → i ∈ l) : mx l = v := by
  by_cases q : mx l < v
  · exact absurd (h2 _ q) (mx_no l)
  · by_cases z : v < mx l
    · exact absurd (mx_lt l v z) h1
    · omega
theorem mx_c {l k : List Nat} (h : ∀ i, i ∈ l ↔ i ∈ k) : mx l = mx k := mx_un (fun z => mx_no k ((h _).mp z)) (fun i hi => (h i).mpr (mx_lt k i hi))
/-- sums of worths -/
def sw (w : Nat → Nat) : Nat → Nat → Nat
  | 0, _ => 0
  | n + 1, S => sw w n S ^^^ (if S.testBit n = true then w n else 0)
theorem sw_s (w : Nat → Nat) (n S : Nat) : sw w (n + 1) S = sw w n S ^^^ (if S.testBit n = true then w n else 0) := rfl
theorem sw_c {w u : Nat → Nat} {S T : Nat} : ∀ n, (∀ i, i < n → w i = u i ∧ S.testBit i = T.testBit i) → sw w n S = sw u n T
  | 0, _ => rfl
  | n + 1, h => by rw [sw_s, sw_s, sw_c n (fun i hi => h i (by omega)), (h n (by omega)).1, (h n (by omega)).2]
theorem sw_lo (w : Nat → Nat) {n S : Nat} (h : S < 2 ^ n) : sw w (n + 1) S = sw w n S := by
  rw [sw_s, Nat.testBit_lt_two_pow h, if_neg (by decide), Nat.xor_zero]
theorem sw_hi (w : Nat → Nat) {n S : Nat} (h : S < 2 ^ n) : sw w (n + 1) (2 ^ n + S) = sw w n S ^^^ w n := by
  rw [sw_s, Nat.testBit_two_pow_add_eq, Nat.testBit_lt_two_pow h, if_pos (by decide)]
  congr 1
  exact sw_c n (fun i hi => ⟨rfl, Nat.testBit_two_pow_add_gt hi S⟩)
theorem sw_lt {w : Nat → Nat} {b S : Nat} : ∀ n, (∀ i, i < n → w i < 2 ^ b) → sw w n S < 2 ^ b
  | 0, _ => Nat.two_pow_pos b
  | n + 1, h => by
    rw [sw_s]
    refine Nat.xor_lt_two_pow (sw_lt n (fun i hi => h i (by omega))) ?_
    split
    · exact h n (by omega)
    · exact Nat.two_pow_pos b
/-- the other coins of sets that may be -/
def os (κ l n : Nat) : List Nat := (List.range (2 ^ n)).filter (fun S => al κ l (2 ^ n + S))
theorem os_mem {κ l n S : Nat} : S ∈ os κ l n ↔ S < 2 ^ n ∧ al κ l (2 ^ n + S) = true := by
  unfold os
  rw [List.mem_filter, List.mem_range]
theorem os_len (κ l n : Nat) : (os κ l n).length ≤ 2 ^ n := by
  have h : (os κ l n).length ≤ (List.range (2 ^ n)).length := List.length_filter_le _ _
  rwa [List.length_range] at h
noncomputable def wt (κ l : Nat) : Nat → Nat → Nat
  | 0 => fun _ => 0
  | n + 1 => fun i => if i = n then mx ((os κ l n).map (sw (wt κ l n) n)) else wt κ l n i
theorem wt_s (κ l n i : Nat) : wt κ l (n + 1) i = if i = n then mx ((os κ l n).map (sw (wt κ l n) n)) else wt κ l n i := rfl
noncomputable def cw (κ l n : Nat) : Nat := wt κ l (n + 1) n
theorem wt_cw (κ l : Nat) {i : Nat} : ∀ n, i < n → wt κ l n i = cw κ l i
  | 0, h => absurd h (Nat.not_lt_zero _)
  | n + 1, h => by
    by_cases q : i = n
    · rw [q]
      rfl
    · rw [wt_s, if_neg q]
      exact wt_cw κ l n (by omega)
theorem cw_eq (κ l n : Nat) : cw κ l n = mx ((os κ l n).map (sw (cw κ l) n)) := by
  unfold cw
  rw [wt_s, if_pos rfl]
  congr 1
  exact List.map_congr_left (fun S _ => sw_c n (fun i hi => ⟨wt_cw κ l n hi, rfl⟩))
theorem cw_le (κ l n : Nat) : cw κ l n ≤ 2 ^ n := by
  rw [cw_eq]
  have h := mx_le ((os κ l n).map (sw (cw κ l) n))
  rw [List.length_map] at h
  exact Nat.le_trans h (os_len κ l n)
theorem pow_12 {n : Nat} (h : n < 12) : 2 ^ n ≤ 2048 := Nat.le_trans (Nat.pow_le_pow_right (by omega) (show n ≤ 11 by omega)) (by decide)
theorem cw_12 {κ l n : Nat} (h : n < 12) : cw κ l n < 4096 := by
  have h1 := cw_le κ l n
  have h2 := pow_12 h
  omega
theorem sw_12 {κ l n S : Nat} (h : n ≤ 12) : sw (cw κ l) n S < 4096 := sw_lt (b := 12) n (fun i hi => cw_12 (by omega))
/-- the rule's cells -/
def ru (o : Nat) : Prop := o = 49 ∨ o = 54
theorem ru_f {o : Nat} (h : ru o) : (qm_isO o 6 = true ∧ qm_rf o 0 = o + 1 ∧ qm_rf o 1 = o + 2 ∧ qm_rf o 2 = o + 3 ∧ qm_rf o 3 = o + 4 ∧ o < 55) ∧ (qm_isL (o + 1) 0 = true ∧ qm_nl (o + 1) = 12) ∧ (qm_isL (o + 2) 0 = true ∧ qm_nl (o + 2) = 12) ∧ (qm_isL (o + 3) 0 = true ∧ qm_nl (o + 3) = 2048) ∧ (Nat.ble (qm_gk (o + 4)).1 6 = true ∧ qm_n (o + 4) = 64 ∧ qm_isA (o + 4) 1 = true ∧ qm_isL (o + 4) 1 = true ∧ qm_nl (o + 4) = 64) := by
  rcases h with rfl | rfl
  · exact ⟨⟨rfl, rfl, rfl, rfl, rfl, by omega⟩, ⟨rfl, rfl⟩, ⟨rfl, rfl⟩, ⟨rfl, rfl⟩, ⟨rfl, rfl, rfl, rfl, rfl⟩⟩
  · exact ⟨⟨rfl, rfl, rfl, rfl, rfl, by omega⟩, ⟨rfl, rfl⟩, ⟨rfl, rfl⟩, ⟨rfl, rfl⟩, ⟨rfl, rfl, rfl, rfl, rfl⟩⟩
def rfr (o : Nat) (m m1 : qm_M) : Prop := (∀ a, a ≠ o + 1 → a ≠ o + 2 → a ≠ o + 3 → m1.1 a = m.1 a) ∧ ∀ a, a ≠ o + 4 → m1.2 a = m.2 a
theorem rfr.rf (o : Nat) (m : qm_M) : rfr o m m := ⟨fun _ _ _ _ => rfl, fun _ _ => rfl⟩
theorem rfr.tr {o : Nat} {m m1 m2 : qm_M} (h : rfr o m m1) (g : rfr o m1 m2) : rfr o m m2 := ⟨fun a x y z => (g.1 a x y z).trans (h.1 a x y z), fun a x => (g.2 a x).trans (h.2 a x)⟩
theorem rfr.I {o : Nat} (m : qm_M) {a : Nat} (h : a = o + 1 ∨ a = o + 2 ∨ a = o + 3) (j : Nat) (x : Int32) : rfr o m (qm_sI m a j x) := ⟨fun b x y z => (qm_sI_other b (by omega)).1, fun _ _ => rfl⟩
theorem rfr.L {o : Nat} (m : qm_M) (j : Nat) (x : Int64) : rfr o m (qm_sL m (o + 4) j x) := ⟨fun _ _ _ _ => rfl, fun b h => (qm_sL_other b h).2⟩
/-- what was met -/
def met (m : qm_M) (o : Nat) (l : List Nat) : Prop := ∀ j b, j < 64 → b < 64 → ((nb (m.2 (o + 4) j)).getLsbD b = true ↔ 64 * j + b ∈ l)
theorem met.c {m m1 : qm_M} {o : Nat} {l : List Nat} (h : met m o l) (e : m1.2 (o + 4) = m.2 (o + 4)) : met m1 o l := fun j b hj hb => by rw [e]; exact h j b hj hb
theorem nb_e_bl {k b : Nat} (hb : b < 64) : (nb_e k).getLsbD b = decide (b = k) := by
  unfold nb_e
  rw [BitVec.getLsbD_shiftLeft]
  by_cases q : b = k
  · subst q
    simp [hb]
  · by_cases z : b < k
    · simp [z, q]
    · have : b - k ≠ 0 := by omega
      simp [q, z, this]
theorem met.add {m : qm_M} {o : Nat} {l : List Nat} (h : met m o l) {v : Nat} (hv : v < 4096) : met (qm_sL m (o + 4) (v / 64) (m.2 (o + 4) (v / 64) ||| bn (nb_e (v % 64)))) o (l ++ [v]) := fun j b hj hb => by
  rw [me_2L, if_pos rfl, List.mem_append, List.mem_singleton]
  by_cases q : j = v / 64
  · rw [if_pos q]
    have e : nb (m.2 (o + 4) (v / 64) ||| bn (nb_e (v % 64))) = nb (m.2 (o + 4) (v / 64)) ||| nb_e (v % 64) := rfl
    rw [e, BitVec.getLsbD_or, nb_e_bl hb, Bool.or_eq_true, decide_eq_true_iff, ← q, h j b hj hb]
    constructor
    · rintro (z | z)
      · exact Or.inl z
      · exact Or.inr (by omega)
    · rintro (z | z)
      · exact Or.inl z
      · exact Or.inr (by omega)
  · rw [if_neg q, h j b hj hb]
    exact ⟨Or.inl, fun z => z.elim id (fun z => by omega)⟩
theorem nu_leastUnmet {m : qm_M} {o : Nat} (ho : ru o) {l : List Nat} (h : met m o l) (hl : l.length < 4096) : F_Ru_leastUnmet o m = some (some (.int (nI (mx l))), m) := by
  obtain ⟨⟨r1, r2, r3, r4, r5, r6⟩, -, -, -, ⟨s1, s2, s3, s4, s5⟩⟩ := ru_f ho
  have hx := mx_le l
  refine lpE (fun f k (m1 : qm_M) => L_Ru_leastUnmet_2 f o (nI k) m1) (mx l) (fun k m1 => m1 = m) (fun r => r = some (some (.int (nI (mx l))), m)) (fun f k m1 hk hI => ?_) (fun f m1 hI => ?_) 1000000 0 m (Nat.zero_le _) (by omega) rfl
  · subst hI
    have e : nI k < (4096 : Int32) := nI_lt (a := k) (b := 4096) (by omega) (by omega)
    show (∃ s', _ ∧ L_Ru_leastUnmet_2 (f + 1) o (nI k) m1 = _) ∨ _
    rw [le_Ru_leastUnmet_2]
    unfold X_Ru_leastUnmet_2
    have hb := (h (k / 64) (k % 64) (by omega) (by omega)).mpr (by rw [show 64 * (k / 64) + k % 64 = k by omega]; exact mx_lt l k hk)
    have hn : ¬ lg_cmp (qo_lushr (m1.2 (o + 4) (k / 64)) (nI (k % 64)) &&& 1) 0 = 0 := fun z => by
      have := (no_cmp0b (nb _) _ (by omega)).mp z
      rw [hb] at this
      cases this
    rw [if_pos e, r1, qe_b_e, r5, s3, qe_b_e, nI_shr6 (by omega), s2, qm_in_nI (show k / 64 < 64 by omega) (by omega), qe_b_e, nI_clamp (by omega), qm_gL_o (by omega), nI_and63 (by omega), if_neg hn, nI_1]
    exact Or.inl ⟨m1, rfl, rfl⟩
  · subst hI
    have e : nI (mx l) < (4096 : Int32) := nI_lt (a := mx l) (b := 4096) (by omega) (by omega)
    show L_Ru_leastUnmet_2 (f + 1) o (nI (mx l)) m1 = _
    rw [le_Ru_leastUnmet_2]
    unfold X_Ru_leastUnmet_2
    have hb : (nb (m1.2 (o + 4) (mx l / 64))).getLsbD (mx l % 64) = false := by
      have hh := h (mx l / 64) (mx l % 64) (by omega) (by omega)
      rw [show 64 * (mx l / 64) + mx l % 64 = mx l by omega] at hh
      cases z : (nb (m1.2 (o + 4) (mx l / 64))).getLsbD (mx l % 64) with
      | true => exact absurd (hh.mp z) (mx_no l)
      | false => rfl
    have hn : lg_cmp (qo_lushr (m1.2 (o + 4) (mx l / 64)) (nI (mx l % 64)) &&& 1) 0 = 0 := (no_cmp0b (nb _) _ (by omega)).mpr hb
    rw [if_pos e, r1, qe_b_e, r5, s3, qe_b_e, nI_shr6 (by omega), s2, qm_in_nI (show mx l / 64 < 64 by omega) (by omega), qe_b_e, nI_clamp (by omega), qm_gL_o (by omega), nI_and63 (by omega), if_pos hn]
