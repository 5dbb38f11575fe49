/-! the model's table of twos -/
theorem nb_shr_0 {r : nb_F} {k : Nat} (h : r >>> k = 0) : nb_cut k r = r := by
  ext i hi
  rw [nb_cut_bit]
  by_cases q : i < k
  · simp [q]
  · have h1 : (r >>> k).getLsbD (i - k) = r.getLsbD i := by
      rw [BitVec.getLsbD_ushiftRight]
      congr 1
      omega
    rw [h] at h1
    have h2 : r[i] = false := by
      rw [← BitVec.getLsbD_eq_getElem, ← h1]
      exact BitVec.getLsbD_zero
    simp [h2]
theorem nb_low1 (x : nb_F) : x &&& 1 = if x.getLsbD 0 then 1 else 0 := by
  ext i hi
  have e1 : (1 : nb_F) = nb_e 0 := by decide
  rw [BitVec.getElem_and]
  by_cases q : i = 0
  · subst q
    rw [e1, nb_e_bit 0 0 hi, ← BitVec.getLsbD_eq_getElem]
    by_cases h : x.getLsbD 0 = true
    · simp only [h, if_true]; rw [nb_e_bit 0 0 hi]; rfl
    · simp only [h]; simp
  · have e2 : (1 : nb_F)[i] = false := by rw [e1, nb_e_bit 0 i hi]; simpa using q
    rw [e2]
    by_cases h : x.getLsbD 0 = true
    · simp only [h, if_true, Bool.and_false]; rw [e2]
    · simp only [h, Bool.and_false]; simp
theorem nb_bit1 (r : nb_F) (k : Nat) : (r >>> k) &&& 1 = 1 ↔ r.getLsbD k = true := by
  rw [nb_low1]
  have e : (r >>> k).getLsbD 0 = r.getLsbD k := by rw [BitVec.getLsbD_ushiftRight, Nat.add_zero]
  rw [e]
  by_cases h : r.getLsbD k = true
  · simp [h]
  · simp only [h]
    constructor
    · intro q; exact absurd q (by decide)
    · intro q; exact absurd q (by simp)
theorem nb_shr_succ (r : nb_F) (k : Nat) : (r >>> k) >>> 1 = r >>> (k + 1) := by
  ext i hi
  simp only [BitVec.getElem_ushiftRight, BitVec.getLsbD_ushiftRight]
  congr 1
  omega
theorem nb_cut_lt {B k : Nat} {r : nb_F} (h : nb_cut B r = r) (hk : r.getLsbD k = true) : k < B ∧ k < 64 := by
  have h64 : k < 64 := by
    rcases Nat.lt_or_ge k 64 with q | q
    · exact q
    · rw [BitVec.getLsbD_of_ge _ _ q] at hk; cases hk
  refine ⟨?_, h64⟩
  have h1 := nb_cut_bit B r k h64
  rw [h] at h1
  have h2 : r[k] = true := by rw [← BitVec.getLsbD_eq_getElem]; exact hk
  rw [h2] at h1
  simpa using h1.symm
theorem nI_64 {a : Nat} (h : a < 64) : (64 : Int32) * nI a = nI (64 * a) := by
  have h1 : (List.range 64).all (fun a => decide ((64 : Int32) * nI a = nI (64 * a))) = true := by decide +kernel
  exact of_decide_eq_true (List.all_eq_true.mp h1 a (List.mem_range.mpr h))
theorem no_lushr1 (x : Int64) : nb (qo_lushr x 1) = nb x >>> 1 := no_lushr x (k := 1) (by decide)
theorem nb_1l : nb (1 : Int64) = 1 := rfl
theorem mt_byTwo_loop {two B : Nat} (ht : two < 64) {m : qm_M} (hm : ∀ k, k < B → m.2 117 (64 * two + k) = bn (nb_M two (nb_e k))) (r : nb_F) (hr : nb_cut B r = r) :
    ∀ (d f k : Nat), 64 - k = d → k ≤ 64 → d < f → L_M_byTwo_9 f (nI two) (bn (nb_M two (nb_cut k r))) (bn (r >>> k)) (nI k) m = some (some (.long (bn (nb_M two r))), m) := by
  intro d
  induction d with
  | zero =>
    intro f k h1 h2 h3
    obtain ⟨f, rfl⟩ : ∃ g, f = g + 1 := ⟨f - 1, by omega⟩
    have e : k = 64 := by omega
    subst e
    show X_M_byTwo_9 _ _ _ _ _ _ = _
    unfold X_M_byTwo_9
    have h0 : r >>> 64 = 0 := by
      ext i hi
      rw [BitVec.getElem_ushiftRight]
      simp
    rw [h0, nb_cut_64, if_pos ((no_cmpz _).mpr rfl)]
  | succ d ih =>
    intro f k h1 h2 h3
    obtain ⟨f, rfl⟩ : ∃ g, f = g + 1 := ⟨f - 1, by omega⟩
    show X_M_byTwo_9 _ _ _ _ _ _ = _
    unfold X_M_byTwo_9
    by_cases h0 : r >>> k = 0
    · rw [h0, nb_shr_0 h0, if_pos ((no_cmpz _).mpr rfl)]
    · rw [if_neg (fun q => h0 ((no_cmpz (bn (r >>> k))).mp q))]
      have es : qo_lushr (bn (r >>> k)) 1 = bn (r >>> (k + 1)) := nb_inj (by rw [no_lushr1, nb_bn, nb_bn, nb_shr_succ])
      have en : nI k + 1 = nI (k + 1) := (nI_succ k).symm
      by_cases hb : r.getLsbD k = true
      · have hk := nb_cut_lt hr hb
        rw [if_pos ((no_cmpo _).mpr (by rw [no_and, nb_bn, nb_1l]; exact (nb_bit1 r k).mpr hb)), nI_64 ht, nI_add, qm_in_nI (by omega) (by omega), nI_clamp (by omega), hm k hk.1]
        dsimp only [qe_b, cond_true]
        have ev : bn (nb_M two (nb_cut k r)) ^^^ bn (nb_M two (nb_e k)) = bn (nb_M two (nb_cut (k + 1) r)) := nb_inj (by
          rw [no_xor, nb_bn, nb_bn, nb_bn, nb_cut_succ, if_pos hb, nb_M_lin])
        rw [ev, es, en]
        exact ih f (k + 1) (by omega) (by omega) (by omega)
      · rw [if_neg (fun q => hb (by
          have q2 := (no_cmpo _).mp q
          rw [no_and, nb_bn, nb_1l] at q2
          exact (nb_bit1 r k).mp q2))]
        have ev : nb_cut k r = nb_cut (k + 1) r := by rw [nb_cut_succ, if_neg hb, nb_x0]
        rw [ev, es, en]
        exact ih f (k + 1) (by omega) (by omega) (by omega)
theorem mt_byTwo {two B : Nat} (ht : two < 64) {m : qm_M} (hm : ∀ k, k < B → m.2 117 (64 * two + k) = bn (nb_M two (nb_e k))) (r : Int64) (hr : nb_cut B (nb r) = nb r) : F_M_byTwo (nI two) r m = some (some (.long (bn (nb_M two (nb r)))), m) := by
  unfold F_M_byTwo X_M_byTwo_e
  have h := mt_byTwo_loop ht hm (nb r) hr 64 1000000 0 rfl (by omega) (by omega)
  rw [nb_cut_0, nb_lin0 (nb_M_lin two)] at h
  have e0 : nb r >>> 0 = nb r := by
    ext i hi
    simp
  rw [e0] at h
  exact h
/-! two by two -/
def nb_top : Nat → Nat → Nat → Nat
  | 0, _, _ => 0
  | t + 1, i, k => if i.testBit (t + 1) || k.testBit (t + 1) then t + 1 else nb_top t i k
theorem nb_top_le : ∀ t i k, nb_top t i k ≤ t
  | 0, _, _ => Nat.le_refl _
  | t + 1, i, k => by
    unfold nb_top
    split
    · exact Nat.le_refl _
    · exact Nat.le_succ_of_le (nb_top_le t i k)
theorem no_bit {i t : Nat} (hi : i < 64) (ht : t < 6) : ((qo_ishr (nI i) (nI t)) &&& (1 : Int32) = 0) ↔ i.testBit t = false := by
  have h1 : (List.range 64).all (fun i => (List.range 6).all (fun t => decide (((qo_ishr (nI i) (nI t)) &&& (1 : Int32) = 0) ↔ i.testBit t = false))) = true := by decide +kernel
  exact of_decide_eq_true (List.all_eq_true.mp (List.all_eq_true.mp h1 i (List.mem_range.mpr hi)) t (List.mem_range.mpr ht))
theorem mt_topOf_loop {i k : Nat} (hi : i < 64) (hk : k < 64) (m : qm_M) : ∀ (t f : Nat), t < 6 → t < f → L_M_topOf_2 f (nI i) (nI k) (nI t) m = some (some (.int (nI (nb_top t i k))), m)
  | 0, f, ht, hf => by
    obtain ⟨f, rfl⟩ : ∃ g, f = g + 1 := ⟨f - 1, by omega⟩
    show X_M_topOf_2 _ _ _ _ _ = _
    unfold X_M_topOf_2
    rw [if_neg (by decide)]
    rfl
  | t + 1, f, ht, hf => by
    obtain ⟨f, rfl⟩ : ∃ g, f = g + 1 := ⟨f - 1, by omega⟩
    show X_M_topOf_2 _ _ _ _ _ = _
    unfold X_M_topOf_2
    have hp : (0 : Int32) < nI (t + 1) := nI_lt (a := 0) (b := t + 1) (by omega) (by omega)
    have em : nI (t + 1) + (-1 : Int32) = nI t := by
      rw [← Int32.sub_eq_add_neg]
      exact nI_pred t
    rw [if_pos hp]
    unfold nb_top
    cases h1 : i.testBit (t + 1) with
    | true =>
      rw [if_neg (fun q => by have := (no_bit hi ht).mp q; rw [h1] at this; cases this)]
      rfl
    | false =>
      rw [if_pos ((no_bit hi ht).mpr h1)]
      cases h2 : k.testBit (t + 1) with
      | true =>
        rw [if_neg (fun q => by have := (no_bit hk ht).mp q; rw [h2] at this; cases this)]
        rfl
      | false =>
        rw [if_pos ((no_bit hk ht).mpr h2), em]
        exact mt_topOf_loop hi hk m t f (by omega) (by omega)
theorem mt_topOf {i k : Nat} (hi : i < 64) (hk : k < 64) (m : qm_M) : F_M_topOf (nI i) (nI k) m = some (some (.int (nI (nb_top 5 i k))), m) := by
  unfold F_M_topOf X_M_topOf_e
  exact mt_topOf_loop hi hk m 5 1000000 (by omega) (by omega)
theorem no_mask {i t : Nat} (hi : i < 64) (ht : t < 6) : (nI i &&& ((qo_ishl (1 : Int32) (nI t)) - 1) = nI (i % 2 ^ t)) ∧ ((nI i &&& (qo_ishl (1 : Int32) (nI t)) = 0) ↔ i.testBit t = false) := by
  have h1 : (List.range 64).all (fun i => (List.range 6).all (fun t => decide ((nI i &&& ((qo_ishl (1 : Int32) (nI t)) - 1) = nI (i % 2 ^ t)) ∧ ((nI i &&& (qo_ishl (1 : Int32) (nI t)) = 0) ↔ i.testBit t = false)))) = true := by decide +kernel
  exact of_decide_eq_true (List.all_eq_true.mp (List.all_eq_true.mp h1 i (List.mem_range.mpr hi)) t (List.mem_range.mpr ht))
/-- times 2 to the i, i with its highest bit -/
theorem nb_tb_chk : (List.range 6).all (fun t => (List.range (2 ^ t)).all (fun i => (List.range 6).all (fun s => decide ((2 ^ t + i).testBit s = (decide (s = t) || i.testBit s) ∧ (t ≤ s → i.testBit s = false))))) = true := by decide +kernel
theorem nb_tb {t i s : Nat} (ht : t < 6) (hi : i < 2 ^ t) (hs : s < 6) : (2 ^ t + i).testBit s = (decide (s = t) || i.testBit s) ∧ (t ≤ s → i.testBit s = false) :=
  of_decide_eq_true (List.all_eq_true.mp (List.all_eq_true.mp (List.all_eq_true.mp nb_tb_chk t (List.mem_range.mpr ht)) i (List.mem_range.mpr hi)) s (List.mem_range.mpr hs))
theorem nb_m_ne {t i s : Nat} (ht : t < 6) (hi : i < 2 ^ t) (hs : s < 6) (h : s ≠ t) (x : nb_F) : nb_m (2 ^ t + i) s x = nb_m i s x := by
  unfold nb_m
  rw [(nb_tb ht hi hs).1, decide_eq_false h, Bool.false_or]
theorem nb_m_eq {t i : Nat} (ht : t < 6) (hi : i < 2 ^ t) (x : nb_F) : nb_m (2 ^ t + i) t x = nb_L t x := by
  unfold nb_m
  rw [(nb_tb ht hi ht).1, decide_eq_true rfl, Bool.true_or, if_pos rfl]
theorem nb_m_hi {t i s : Nat} (ht : t < 6) (hi : i < 2 ^ t) (hs : s < 6) (h : t ≤ s) (x : nb_F) : nb_m i s x = x := by
  unfold nb_m
  rw [(nb_tb ht hi hs).2 h, if_neg (by decide)]
theorem nb_M_hi : ∀ i t, i < 2 ^ t → t < 6 → ∀ x, nb_M (2 ^ t + i) x = nb_L t (nb_M i x) := by
  intro i t hi ht x
  unfold nb_M
  match t, ht, hi with
  | 0, ht, hi => rw [nb_m_hi (t := 0) (by decide) hi (s := 5) (by decide) (by decide), nb_m_hi (t := 0) (by decide) hi (s := 4) (by decide) (by decide), nb_m_hi (t := 0) (by decide) hi (s := 3) (by decide) (by decide), nb_m_hi (t := 0) (by decide) hi (s := 2) (by decide) (by decide), nb_m_hi (t := 0) (by decide) hi (s := 1) (by decide) (by decide), nb_m_hi (t := 0) (by decide) hi (s := 0) (by decide) (by decide), nb_m_ne (t := 0) (by decide) hi (s := 5) (by decide) (by decide), nb_m_ne (t := 0) (by decide) hi (s := 4) (by decide) (by decide), nb_m_ne (t := 0) (by decide) hi (s := 3) (by decide) (by decide), nb_m_ne (t := 0) (by decide) hi (s := 2) (by decide) (by decide), nb_m_ne (t := 0) (by decide) hi (s := 1) (by decide) (by decide), nb_m_eq (t := 0) (by decide) hi, nb_m_hi (t := 0) (by decide) hi (s := 5) (by decide) (by decide), nb_m_hi (t := 0) (by decide) hi (s := 4) (by decide) (by decide), nb_m_hi (t := 0) (by decide) hi (s := 3) (by decide) (by decide), nb_m_hi (t := 0) (by decide) hi (s := 2) (by decide) (by decide), nb_m_hi (t := 0) (by decide) hi (s := 1) (by decide) (by decide)]
  | 1, ht, hi => rw [nb_m_hi (t := 1) (by decide) hi (s := 5) (by decide) (by decide), nb_m_hi (t := 1) (by decide) hi (s := 4) (by decide) (by decide), nb_m_hi (t := 1) (by decide) hi (s := 3) (by decide) (by decide), nb_m_hi (t := 1) (by decide) hi (s := 2) (by decide) (by decide), nb_m_hi (t := 1) (by decide) hi (s := 1) (by decide) (by decide), nb_m_ne (t := 1) (by decide) hi (s := 5) (by decide) (by decide), nb_m_ne (t := 1) (by decide) hi (s := 4) (by decide) (by decide), nb_m_ne (t := 1) (by decide) hi (s := 3) (by decide) (by decide), nb_m_ne (t := 1) (by decide) hi (s := 2) (by decide) (by decide), nb_m_eq (t := 1) (by decide) hi, nb_m_ne (t := 1) (by decide) hi (s := 0) (by decide) (by decide), nb_m_hi (t := 1) (by decide) hi (s := 5) (by decide) (by decide), nb_m_hi (t := 1) (by decide) hi (s := 4) (by decide) (by decide), nb_m_hi (t := 1) (by decide) hi (s := 3) (by decide) (by decide), nb_m_hi (t := 1) (by decide) hi (s := 2) (by decide) (by decide)]
  | 2, ht, hi => rw [nb_m_hi (t := 2) (by decide) hi (s := 5) (by decide) (by decide), nb_m_hi (t := 2) (by decide) hi (s := 4) (by decide) (by decide), nb_m_hi (t := 2) (by decide) hi (s := 3) (by decide) (by decide), nb_m_hi (t := 2) (by decide) hi (s := 2) (by decide) (by decide), nb_m_ne (t := 2) (by decide) hi (s := 5) (by decide) (by decide), nb_m_ne (t := 2) (by decide) hi (s := 4) (by decide) (by decide), nb_m_ne (t := 2) (by decide) hi (s := 3) (by decide) (by decide), nb_m_eq (t := 2) (by decide) hi, nb_m_ne (t := 2) (by decide) hi (s := 1) (by decide) (by decide), nb_m_ne (t := 2) (by decide) hi (s := 0) (by decide) (by decide), nb_m_hi (t := 2) (by decide) hi (s := 5) (by decide) (by decide), nb_m_hi (t := 2) (by decide) hi (s := 4) (by decide) (by decide), nb_m_hi (t := 2) (by decide) hi (s := 3) (by decide) (by decide)]
  | 3, ht, hi => rw [nb_m_hi (t := 3) (by decide) hi (s := 5) (by decide) (by decide), nb_m_hi (t := 3) (by decide) hi (s := 4) (by decide) (by decide), nb_m_hi (t := 3) (by decide) hi (s := 3) (by decide) (by decide), nb_m_ne (t := 3) (by decide) hi (s := 5) (by decide) (by decide), nb_m_ne (t := 3) (by decide) hi (s := 4) (by decide) (by decide), nb_m_eq (t := 3) (by decide) hi, nb_m_ne (t := 3) (by decide) hi (s := 2) (by decide) (by decide), nb_m_ne (t := 3) (by decide) hi (s := 1) (by decide) (by decide), nb_m_ne (t := 3) (by decide) hi (s := 0) (by decide) (by decide), nb_m_hi (t := 3) (by decide) hi (s := 5) (by decide) (by decide), nb_m_hi (t := 3) (by decide) hi (s := 4) (by decide) (by decide)]
  | 4, ht, hi => rw [nb_m_hi (t := 4) (by decide) hi (s := 5) (by decide) (by decide), nb_m_hi (t := 4) (by decide) hi (s := 4) (by decide) (by decide), nb_m_ne (t := 4) (by decide) hi (s := 5) (by decide) (by decide), nb_m_eq (t := 4) (by decide) hi, nb_m_ne (t := 4) (by decide) hi (s := 3) (by decide) (by decide), nb_m_ne (t := 4) (by decide) hi (s := 2) (by decide) (by decide), nb_m_ne (t := 4) (by decide) hi (s := 1) (by decide) (by decide), nb_m_ne (t := 4) (by decide) hi (s := 0) (by decide) (by decide), nb_m_hi (t := 4) (by decide) hi (s := 5) (by decide) (by decide)]
  | 5, ht, hi => rw [nb_m_hi (t := 5) (by decide) hi (s := 5) (by decide) (by decide), nb_m_eq (t := 5) (by decide) hi, nb_m_ne (t := 5) (by decide) hi (s := 4) (by decide) (by decide), nb_m_ne (t := 5) (by decide) hi (s := 3) (by decide) (by decide), nb_m_ne (t := 5) (by decide) hi (s := 2) (by decide) (by decide), nb_m_ne (t := 5) (by decide) hi (s := 1) (by decide) (by decide), nb_m_ne (t := 5) (by decide) hi (s := 0) (by decide) (by decide)]
  | t + 6, ht, hi => omega
theorem nb_M_0 (x : nb_F) : nb_M 0 x = x := by
  unfold nb_M nb_m
  simp only [Nat.zero_testBit]
  rfl
theorem nb_M_all (x : nb_F) : ∀ t, t < 6 → nb_M (2 ^ t - 1) x = nb_T t x
  | 0, _ => nb_M_0 x
  | t + 1, h => by
    have hp : 0 < 2 ^ t := Nat.pow_pos (by decide)
    have e : 2 ^ (t + 1) - 1 = 2 ^ t + (2 ^ t - 1) := by rw [Nat.pow_succ]; omega
    rw [e, nb_M_hi _ t (by omega) (by omega), nb_M_all x t (by omega)]
    rfl
theorem nb_L_shl : ∀ t, t < 6 → ∀ x, nb_in t x → nb_L t x = x <<< (2 ^ t) :=
  nb_k6 (fun x h => nb_by_cut (nb_L_lin 0) (nb_shl (2 ^ 0)) (by decide +kernel) h) (fun x h => nb_by_cut (nb_L_lin 1) (nb_shl (2 ^ 1)) (by decide +kernel) h) (fun x h => nb_by_cut (nb_L_lin 2) (nb_shl (2 ^ 2)) (by decide +kernel) h)
    (fun x h => nb_by_cut (nb_L_lin 3) (nb_shl (2 ^ 3)) (by decide +kernel) h) (fun x h => nb_by_cut (nb_L_lin 4) (nb_shl (2 ^ 4)) (by decide +kernel) h) (fun x h => nb_by_cut (nb_L_lin 5) (nb_shl (2 ^ 5)) (by decide +kernel) h)
theorem nb_LL_lin (t : Nat) : nb_lin (fun x => nb_L t (nb_L t x)) := fun x y => by
  show nb_L t (nb_L t (x ^^^ y)) = nb_L t (nb_L t x) ^^^ nb_L t (nb_L t y)
  rw [nb_L_lin, nb_L_lin]
theorem nb_LT_lin (t : Nat) : nb_lin (fun x => nb_L t x ^^^ nb_T t x) := nb_sum (nb_L_lin t) (nb_T_lin t)
/-- F times F is F and half of it -/
theorem nb_LL : ∀ t, t < 6 → ∀ x, nb_L t (nb_L t x) = nb_L t x ^^^ nb_T t x :=
  nb_k6 (fun x => nb_by_cut (N := 64) (nb_LL_lin 0) (nb_LT_lin 0) (by decide +kernel) (nb_cut_64 x)) (fun x => nb_by_cut (N := 64) (nb_LL_lin 1) (nb_LT_lin 1) (by decide +kernel) (nb_cut_64 x)) (fun x => nb_by_cut (N := 64) (nb_LL_lin 2) (nb_LT_lin 2) (by decide +kernel) (nb_cut_64 x))
    (fun x => nb_by_cut (N := 64) (nb_LL_lin 3) (nb_LT_lin 3) (by decide +kernel) (nb_cut_64 x)) (fun x => nb_by_cut (N := 64) (nb_LL_lin 4) (nb_LT_lin 4) (by decide +kernel) (nb_cut_64 x)) (fun x => nb_by_cut (N := 64) (nb_LL_lin 5) (nb_LT_lin 5) (by decide +kernel) (nb_cut_64 x))
theorem nb_cLF_lin (s t : Nat) : nb_lin (fun y => nb_cut (2 ^ t) (nb_L s y)) := fun x y => by
  show nb_cut (2 ^ t) (nb_L s (x ^^^ y)) = nb_cut (2 ^ t) (nb_L s x) ^^^ nb_cut (2 ^ t) (nb_L s y)
  rw [nb_L_lin, nb_cut_lin]
/-- lesser F keep a level -/
theorem nb_L_chk : (List.range 7).all (fun t => (List.range t).all (fun s => Nat.beq s 6 || (List.range (2 ^ t)).all (fun i => decide (nb_cut (2 ^ t) (nb_L s (nb_e i)) = nb_L s (nb_e i))))) = true := by decide +kernel
theorem nb_L_in {s t : Nat} (hs : s < t) (ht : t < 7) {x : nb_F} (h : nb_in t x) : nb_in t (nb_L s x) := by
  refine nb_by_cut (N := 2 ^ t) (nb_cLF_lin s t) (nb_L_lin s) ?_ h
  have h1 := List.all_eq_true.mp (List.all_eq_true.mp nb_L_chk t (List.mem_range.mpr ht)) s (List.mem_range.mpr hs)
  rcases Bool.or_eq_true_iff.mp h1 with q | q
  · have := Nat.eq_of_beq_eq_true q; omega
  · exact q
theorem nb_m_in {i s t : Nat} (hi : i < 2 ^ t) (ht : t < 7) {x : nb_F} (h : nb_in t x) : nb_in t (nb_m i s x) := by
  unfold nb_m
  by_cases q : i.testBit s = true
  · rw [if_pos q]
    refine nb_L_in ?_ ht h
    rcases Nat.lt_or_ge s t with r | r
    · exact r
    · rw [Nat.testBit_lt_two_pow (Nat.lt_of_lt_of_le hi (Nat.pow_le_pow_right (by decide) r))] at q
      cases q
  · rw [if_neg q]
    exact h
theorem nb_M_in {i t : Nat} (hi : i < 2 ^ t) (ht : t < 7) {x : nb_F} (h : nb_in t x) : nb_in t (nb_M i x) := nb_m_in hi ht (nb_m_in hi ht (nb_m_in hi ht (nb_m_in hi ht (nb_m_in hi ht (nb_m_in hi ht h)))))
theorem nb_e_in {k t : Nat} (hk : k < 2 ^ t) : nb_in t (nb_e k) := by
  unfold nb_in
  ext i hi
  rw [nb_cut_bit, nb_e_bit k i hi]
  by_cases q : i = k
  · subst q; simp [hk]
  · simp [q]
theorem nb_e_hi {k t : Nat} (hk : k < 2 ^ t) (ht : t < 6) : nb_e (2 ^ t + k) = nb_L t (nb_e k) := by
  rw [nb_L_shl t ht _ (nb_e_in hk)]
  unfold nb_e
  rw [← BitVec.shiftLeft_add, Nat.add_comm]
theorem nb_top_chk : (List.range 64).all (fun i => (List.range 64).all (fun k => (Nat.beq i 0 && Nat.beq k 0) || decide (((nb_top 5 i k) < 6) ∧ ((i.testBit (nb_top 5 i k) = true ∧ i = 2 ^ (nb_top 5 i k) + i % 2 ^ (nb_top 5 i k)) ∨ (i.testBit (nb_top 5 i k) = false ∧ i = i % 2 ^ (nb_top 5 i k))) ∧ ((k.testBit (nb_top 5 i k) = true ∧ k = 2 ^ (nb_top 5 i k) + k % 2 ^ (nb_top 5 i k)) ∨ (k.testBit (nb_top 5 i k) = false ∧ k = k % 2 ^ (nb_top 5 i k))) ∧ (i.testBit (nb_top 5 i k) = true ∨ k.testBit (nb_top 5 i k) = true)))) = true := by decide +kernel
def nt_ok (M : Nat) (m : qm_M) : Prop := ∀ a b, a < M → b < M → m.2 117 (64 * a + b) = bn (nb_M a (nb_e b))
theorem mt_twoByTwo {M i k : Nat} {m : qm_M} (hm : nt_ok M m) (hi : i < 64) (hk : k < 64) (hM : i ≤ M) (hkM : k ≤ M) : F_M_twoByTwo (nI i) (nI k) m = some (some (.long (bn (nb_M i (nb_e k)))), m) := by
  unfold F_M_twoByTwo X_M_twoByTwo_e
  have z : ∀ a, a < 64 → (nI a = 0 ↔ a = 0) := fun a ha => nI_eq (a := a) (b := 0) (by omega) (by omega)
  by_cases h0 : i = 0 ∧ k = 0
  · obtain ⟨rfl, rfl⟩ := h0
    rw [if_pos ((z 0 hi).mpr rfl), if_pos ((z 0 hk).mpr rfl)]
    have e1 : nb_M 0 (nb_e 0) = 1 := by decide +kernel
    rw [e1]
    rfl
  · have e : (if nI i = 0 then if nI k = 0 then some (some (Value.long 1), m) else L_M_twoByTwo_10 (nI i) (nI k) m else L_M_twoByTwo_10 (nI i) (nI k) m) = L_M_twoByTwo_10 (nI i) (nI k) m := by
      by_cases h1 : i = 0
      · rw [if_pos ((z i hi).mpr h1), if_neg (fun q => h0 ⟨h1, (z k hk).mp q⟩)]
      · rw [if_neg (fun q => h1 ((z i hi).mp q))]
    rw [e]
    unfold L_M_twoByTwo_10 X_M_twoByTwo_10
    rw [mt_topOf hi hk]
    dsimp only [qe_rI]
    have hc := List.all_eq_true.mp (List.all_eq_true.mp nb_top_chk i (List.mem_range.mpr hi)) k (List.mem_range.mpr hk)
    have hc2 := (Bool.or_eq_true_iff.mp hc).resolve_left (fun q => by
      obtain ⟨q1, q2⟩ := Bool.and_eq_true_iff.mp q
      exact h0 ⟨Nat.eq_of_beq_eq_true q1, Nat.eq_of_beq_eq_true q2⟩)
    obtain ⟨ht, ci, ck, c3⟩ := of_decide_eq_true hc2
    generalize nb_top 5 i k = t at ht ci ck c3 ⊢
    have hp : 0 < 2 ^ t := Nat.pow_pos (by decide)
    have h32 : 2 ^ t ≤ 32 := by
      have : 2 ^ t ≤ 2 ^ 5 := Nat.pow_le_pow_right (by decide) (by omega)
      omega
    have li : i % 2 ^ t < 2 ^ t := Nat.mod_lt _ hp
    have lk : k % 2 ^ t < 2 ^ t := Nat.mod_lt _ hp
    have hMt : 2 ^ t ≤ M := by
      rcases c3 with q | q
      · rcases ci with ⟨-, z⟩ | ⟨z, -⟩
        · omega
        · rw [z] at q; cases q
      · rcases ck with ⟨-, z⟩ | ⟨z, -⟩
        · omega
        · rw [z] at q; cases q
    rw [(no_mask hi ht).1, (no_mask hk ht).1, nI_64 (by omega), nI_add, qm_in_nI (by omega) (by omega), nI_clamp (by omega), hm _ _ (by omega) (by omega)]
    dsimp only [qe_b, cond_true]
    have hr : nb_in t (nb_M (i % 2 ^ t) (nb_e (k % 2 ^ t))) := nb_M_in li (by omega) (nb_e_in lk)
    have hl0 : ∀ r : nb_F, L_M_twoByTwo_63 (qo_ishl 1 (nI t)) (bn r) 0 m = some (some (.long (bn (r <<< (2 ^ t)))), m) := fun r => by
      unfold L_M_twoByTwo_63 X_M_twoByTwo_63
      rw [if_pos rfl, no_ishl1 (by omega)]
      congr 4
      exact nb_inj (by rw [no_lshl _ (by omega), nb_bn, nb_bn])
    rcases ci with ⟨b1, ei⟩ | ⟨b1, ei⟩
    · rw [if_neg (fun q => by rw [(no_mask hi ht).2.mp q] at b1; cases b1)]
      rcases ck with ⟨b2, ek⟩ | ⟨b2, ek⟩
      · rw [if_neg (fun q => by rw [(no_mask hk ht).2.mp q] at b2; cases b2)]
        have goal : nb_M i (nb_e k) = (nb_M (i % 2 ^ t) (nb_e (k % 2 ^ t))) <<< (2 ^ t) ^^^ nb_M (2 ^ t - 1) (nb_M (i % 2 ^ t) (nb_e (k % 2 ^ t))) := by
          have e1 : nb_M i (nb_e k) = nb_L t (nb_L t (nb_M (i % 2 ^ t) (nb_e (k % 2 ^ t)))) := by
            conv => lhs; rw [ei, ek]
            rw [nb_M_hi _ t li ht, nb_e_hi lk ht, nb_M_com (i % 2 ^ t) t ht]
          rw [e1, nb_LL t ht, nb_M_all _ t ht, nb_L_shl t ht _ hr]
        rw [goal]
        unfold L_M_twoByTwo_63 X_M_twoByTwo_63
        rw [if_neg (by decide), no_ishl1 (by omega)]
        have e1 : nI (2 ^ t) - 1 = nI (2 ^ t - 1) := by
          obtain ⟨q, hq⟩ : ∃ q, 2 ^ t = q + 1 := ⟨2 ^ t - 1, by omega⟩
          rw [hq]
          exact nI_pred q
        rw [e1, mt_byTwo (two := 2 ^ t - 1) (B := 2 ^ t) (by omega) (fun j hj => hm _ _ (by omega) (by omega)) (bn (nb_M (i % 2 ^ t) (nb_e (k % 2 ^ t)))) hr]
        dsimp only [qe_rL]
        congr 4
        apply nb_inj
        rw [no_xor, no_lshl _ (by omega), nb_bn, nb_bn, nb_bn]
      · rw [if_pos ((no_mask hk ht).2.mpr b2), hl0]
        congr 4
        have e1 : nb_M i (nb_e k) = nb_L t (nb_M (i % 2 ^ t) (nb_e (k % 2 ^ t))) := by
          conv => lhs; rw [ei, ek]
          rw [nb_M_hi _ t li ht]
        rw [e1, nb_L_shl t ht _ hr]
    · rw [if_pos ((no_mask hi ht).2.mpr b1), hl0]
      congr 4
      rcases ck with ⟨b2, ek⟩ | ⟨b2, ek⟩
      · have e1 : nb_M i (nb_e k) = nb_L t (nb_M (i % 2 ^ t) (nb_e (k % 2 ^ t))) := by
          conv => lhs; rw [ei, ek]
          rw [nb_e_hi lk ht, nb_M_com (i % 2 ^ t) t ht]
        rw [e1, nb_L_shl t ht _ hr]
      · rcases c3 with q | q
        · rw [b1] at q; cases q
        · rw [b2] at q; cases q
