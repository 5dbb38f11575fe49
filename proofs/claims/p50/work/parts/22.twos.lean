/-! the model's table of twos -/
theorem nb_low1 (x : nb_F) : x &&& 1 = if x.getLsbD 0 then 1 else 0 := by
  ext i hi
  have e1 : (1 : nb_F) = nb_e 0 := by decide
  rw [BitVec.getElem_and]
  by_cases q : i = 0
  · subst q
    rw [e1, nb_e_bit 0 0 hi, ← BitVec.getLsbD_eq_getElem]
    by_cases h : x.getLsbD 0 = true
    · simp only [h, if_true]; rw [nb_e_bit 0 0 hi]; rfl
    · simp only [h]; simp
  · have e2 : (1 : nb_F)[i] = false := by rw [e1, nb_e_bit 0 i hi]; simpa using q
    rw [e2]
    by_cases h : x.getLsbD 0 = true
    · simp only [h, if_true, Bool.and_false]; rw [e2]
    · simp only [h, Bool.and_false]; simp
theorem nb_cut_lt {B k : Nat} {r : nb_F} (h : nb_cut B r = r) (hk : r.getLsbD k = true) : k < B ∧ k < 64 := by
  have h64 : k < 64 := by
    rcases Nat.lt_or_ge k 64 with q | q
    · exact q
    · rw [BitVec.getLsbD_of_ge _ _ q] at hk; cases hk
  refine ⟨?_, h64⟩
  have h1 := nb_cut_bit B r k h64
  rw [h] at h1
  have h2 : r[k] = true := by rw [← BitVec.getLsbD_eq_getElem]; exact hk
  rw [h2] at h1
  simpa using h1.symm
/-! two by two -/
/-- times 2 to the i, i with its highest bit -/
theorem nb_tb_chk : (List.range 6).all (fun t => (List.range (2 ^ t)).all (fun i => (List.range 6).all (fun s => decide ((2 ^ t + i).testBit s = (decide (s = t) || i.testBit s) ∧ (t ≤ s → i.testBit s = false))))) = true := by decide +kernel
theorem nb_tb {t i s : Nat} (ht : t < 6) (hi : i < 2 ^ t) (hs : s < 6) : (2 ^ t + i).testBit s = (decide (s = t) || i.testBit s) ∧ (t ≤ s → i.testBit s = false) :=
  of_decide_eq_true (List.all_eq_true.mp (List.all_eq_true.mp (List.all_eq_true.mp nb_tb_chk t (List.mem_range.mpr ht)) i (List.mem_range.mpr hi)) s (List.mem_range.mpr hs))
theorem nb_m_ne {t i s : Nat} (ht : t < 6) (hi : i < 2 ^ t) (hs : s < 6) (h : s ≠ t) (x : nb_F) : nb_m (2 ^ t + i) s x = nb_m i s x := by
  unfold nb_m
  rw [(nb_tb ht hi hs).1, decide_eq_false h, Bool.false_or]
theorem nb_m_eq {t i : Nat} (ht : t < 6) (hi : i < 2 ^ t) (x : nb_F) : nb_m (2 ^ t + i) t x = nb_L t x := by
  unfold nb_m
  rw [(nb_tb ht hi ht).1, decide_eq_true rfl, Bool.true_or, if_pos rfl]
theorem nb_m_hi {t i s : Nat} (ht : t < 6) (hi : i < 2 ^ t) (hs : s < 6) (h : t ≤ s) (x : nb_F) : nb_m i s x = x := by
  unfold nb_m
  rw [(nb_tb ht hi hs).2 h, if_neg (by decide)]
theorem nb_M_hi : ∀ i t, i < 2 ^ t → t < 6 → ∀ x, nb_M (2 ^ t + i) x = nb_L t (nb_M i x) := by
  intro i t hi ht x
  unfold nb_M
  match t, ht, hi with
  | 0, ht, hi => rw [nb_m_hi (t := 0) (by decide) hi (s := 5) (by decide) (by decide), nb_m_hi (t := 0) (by decide) hi (s := 4) (by decide) (by decide), nb_m_hi (t := 0) (by decide) hi (s := 3) (by decide) (by decide), nb_m_hi (t := 0) (by decide) hi (s := 2) (by decide) (by decide), nb_m_hi (t := 0) (by decide) hi (s := 1) (by decide) (by decide), nb_m_hi (t := 0) (by decide) hi (s := 0) (by decide) (by decide), nb_m_ne (t := 0) (by decide) hi (s := 5) (by decide) (by decide), nb_m_ne (t := 0) (by decide) hi (s := 4) (by decide) (by decide), nb_m_ne (t := 0) (by decide) hi (s := 3) (by decide) (by decide), nb_m_ne (t := 0) (by decide) hi (s := 2) (by decide) (by decide), nb_m_ne (t := 0) (by decide) hi (s := 1) (by decide) (by decide), nb_m_eq (t := 0) (by decide) hi, nb_m_hi (t := 0) (by decide) hi (s := 5) (by decide) (by decide), nb_m_hi (t := 0) (by decide) hi (s := 4) (by decide) (by decide), nb_m_hi (t := 0) (by decide) hi (s := 3) (by decide) (by decide), nb_m_hi (t := 0) (by decide) hi (s := 2) (by decide) (by decide), nb_m_hi (t := 0) (by decide) hi (s := 1) (by decide) (by decide)]
  | 1, ht, hi => rw [nb_m_hi (t := 1) (by decide) hi (s := 5) (by decide) (by decide), nb_m_hi (t := 1) (by decide) hi (s := 4) (by decide) (by decide), nb_m_hi (t := 1) (by decide) hi (s := 3) (by decide) (by decide), nb_m_hi (t := 1) (by decide) hi (s := 2) (by decide) (by decide), nb_m_hi (t := 1) (by decide) hi (s := 1) (by decide) (by decide), nb_m_ne (t := 1) (by decide) hi (s := 5) (by decide) (by decide), nb_m_ne (t := 1) (by decide) hi (s := 4) (by decide) (by decide), nb_m_ne (t := 1) (by decide) hi (s := 3) (by decide) (by decide), nb_m_ne (t := 1) (by decide) hi (s := 2) (by decide) (by decide), nb_m_eq (t := 1) (by decide) hi, nb_m_ne (t := 1) (by decide) hi (s := 0) (by decide) (by decide), nb_m_hi (t := 1) (by decide) hi (s := 5) (by decide) (by decide), nb_m_hi (t := 1) (by decide) hi (s := 4) (by decide) (by decide), nb_m_hi (t := 1) (by decide) hi (s := 3) (by decide) (by decide), nb_m_hi (t := 1) (by decide) hi (s := 2) (by decide) (by decide)]
  | 2, ht, hi => rw [nb_m_hi (t := 2) (by decide) hi (s := 5) (by decide) (by decide), nb_m_hi (t := 2) (by decide) hi (s := 4) (by decide) (by decide), nb_m_hi (t := 2) (by decide) hi (s := 3) (by decide) (by decide), nb_m_hi (t := 2) (by decide) hi (s := 2) (by decide) (by decide), nb_m_ne (t := 2) (by decide) hi (s := 5) (by decide) (by decide), nb_m_ne (t := 2) (by decide) hi (s := 4) (by decide) (by decide), nb_m_ne (t := 2) (by decide) hi (s := 3) (by decide) (by decide), nb_m_eq (t := 2) (by decide) hi, nb_m_ne (t := 2) (by decide) hi (s := 1) (by decide) (by decide), nb_m_ne (t := 2) (by decide) hi (s := 0) (by decide) (by decide), nb_m_hi (t := 2) (by decide) hi (s := 5) (by decide) (by decide), nb_m_hi (t := 2) (by decide) hi (s := 4) (by decide) (by decide), nb_m_hi (t := 2) (by decide) hi (s := 3) (by decide) (by decide)]
  | 3, ht, hi => rw [nb_m_hi (t := 3) (by decide) hi (s := 5) (by decide) (by decide), nb_m_hi (t := 3) (by decide) hi (s := 4) (by decide) (by decide), nb_m_hi (t := 3) (by decide) hi (s := 3) (by decide) (by decide), nb_m_ne (t := 3) (by decide) hi (s := 5) (by decide) (by decide), nb_m_ne (t := 3) (by decide) hi (s := 4) (by decide) (by decide), nb_m_eq (t := 3) (by decide) hi, nb_m_ne (t := 3) (by decide) hi (s := 2) (by decide) (by decide), nb_m_ne (t := 3) (by decide) hi (s := 1) (by decide) (by decide), nb_m_ne (t := 3) (by decide) hi (s := 0) (by decide) (by decide), nb_m_hi (t := 3) (by decide) hi (s := 5) (by decide) (by decide), nb_m_hi (t := 3) (by decide) hi (s := 4) (by decide) (by decide)]
  | 4, ht, hi => rw [nb_m_hi (t := 4) (by decide) hi (s := 5) (by decide) (by decide), nb_m_hi (t := 4) (by decide) hi (s := 4) (by decide) (by decide), nb_m_ne (t := 4) (by decide) hi (s := 5) (by decide) (by decide), nb_m_eq (t := 4) (by decide) hi, nb_m_ne (t := 4) (by decide) hi (s := 3) (by decide) (by decide), nb_m_ne (t := 4) (by decide) hi (s := 2) (by decide) (by decide), nb_m_ne (t := 4) (by decide) hi (s := 1) (by decide) (by decide), nb_m_ne (t := 4) (by decide) hi (s := 0) (by decide) (by decide), nb_m_hi (t := 4) (by decide) hi (s := 5) (by decide) (by decide)]
  | 5, ht, hi => rw [nb_m_hi (t := 5) (by decide) hi (s := 5) (by decide) (by decide), nb_m_eq (t := 5) (by decide) hi, nb_m_ne (t := 5) (by decide) hi (s := 4) (by decide) (by decide), nb_m_ne (t := 5) (by decide) hi (s := 3) (by decide) (by decide), nb_m_ne (t := 5) (by decide) hi (s := 2) (by decide) (by decide), nb_m_ne (t := 5) (by decide) hi (s := 1) (by decide) (by decide), nb_m_ne (t := 5) (by decide) hi (s := 0) (by decide) (by decide)]
  | t + 6, ht, hi => omega
theorem nb_M_0 (x : nb_F) : nb_M 0 x = x := by
  unfold nb_M nb_m
  simp only [Nat.zero_testBit]
  rfl
theorem nb_M_all (x : nb_F) : ∀ t, t < 6 → nb_M (2 ^ t - 1) x = nb_T t x
  | 0, _ => nb_M_0 x
  | t + 1, h => by
    have hp : 0 < 2 ^ t := Nat.pow_pos (by decide)
    have e : 2 ^ (t + 1) - 1 = 2 ^ t + (2 ^ t - 1) := by rw [Nat.pow_succ]; omega
    rw [e, nb_M_hi _ t (by omega) (by omega), nb_M_all x t (by omega)]
    rfl
theorem nb_LL_lin (t : Nat) : nb_lin (fun x => nb_L t (nb_L t x)) := fun x y => by
  show nb_L t (nb_L t (x ^^^ y)) = nb_L t (nb_L t x) ^^^ nb_L t (nb_L t y)
  rw [nb_L_lin, nb_L_lin]
theorem nb_LT_lin (t : Nat) : nb_lin (fun x => nb_L t x ^^^ nb_T t x) := nb_sum (nb_L_lin t) (nb_T_lin t)
/-- F times F is F and half of it -/
theorem nb_LL : ∀ t, t < 6 → ∀ x, nb_L t (nb_L t x) = nb_L t x ^^^ nb_T t x :=
  nb_k6 (fun x => nb_by_cut (N := 64) (nb_LL_lin 0) (nb_LT_lin 0) (by decide +kernel) (nb_cut_64 x)) (fun x => nb_by_cut (N := 64) (nb_LL_lin 1) (nb_LT_lin 1) (by decide +kernel) (nb_cut_64 x)) (fun x => nb_by_cut (N := 64) (nb_LL_lin 2) (nb_LT_lin 2) (by decide +kernel) (nb_cut_64 x))
    (fun x => nb_by_cut (N := 64) (nb_LL_lin 3) (nb_LT_lin 3) (by decide +kernel) (nb_cut_64 x)) (fun x => nb_by_cut (N := 64) (nb_LL_lin 4) (nb_LT_lin 4) (by decide +kernel) (nb_cut_64 x)) (fun x => nb_by_cut (N := 64) (nb_LL_lin 5) (nb_LT_lin 5) (by decide +kernel) (nb_cut_64 x))
theorem nb_cLF_lin (s t : Nat) : nb_lin (fun y => nb_cut (2 ^ t) (nb_L s y)) := fun x y => by
  show nb_cut (2 ^ t) (nb_L s (x ^^^ y)) = nb_cut (2 ^ t) (nb_L s x) ^^^ nb_cut (2 ^ t) (nb_L s y)
  rw [nb_L_lin, nb_cut_lin]
/-- lesser F keep a level -/
theorem nb_L_chk : (List.range 7).all (fun t => (List.range t).all (fun s => Nat.beq s 6 || (List.range (2 ^ t)).all (fun i => decide (nb_cut (2 ^ t) (nb_L s (nb_e i)) = nb_L s (nb_e i))))) = true := by decide +kernel
theorem nb_L_in {s t : Nat} (hs : s < t) (ht : t < 7) {x : nb_F} (h : nb_in t x) : nb_in t (nb_L s x) := by
  refine nb_by_cut (N := 2 ^ t) (nb_cLF_lin s t) (nb_L_lin s) ?_ h
  have h1 := List.all_eq_true.mp (List.all_eq_true.mp nb_L_chk t (List.mem_range.mpr ht)) s (List.mem_range.mpr hs)
  rcases Bool.or_eq_true_iff.mp h1 with q | q
  · have := Nat.eq_of_beq_eq_true q; omega
  · exact q
theorem nb_m_in {i s t : Nat} (hi : i < 2 ^ t) (ht : t < 7) {x : nb_F} (h : nb_in t x) : nb_in t (nb_m i s x) := by
  unfold nb_m
  by_cases q : i.testBit s = true
  · rw [if_pos q]
    refine nb_L_in ?_ ht h
    rcases Nat.lt_or_ge s t with r | r
    · exact r
    · rw [Nat.testBit_lt_two_pow (Nat.lt_of_lt_of_le hi (Nat.pow_le_pow_right (by decide) r))] at q
      cases q
  · rw [if_neg q]
    exact h
theorem nb_M_in {i t : Nat} (hi : i < 2 ^ t) (ht : t < 7) {x : nb_F} (h : nb_in t x) : nb_in t (nb_M i x) := nb_m_in hi ht (nb_m_in hi ht (nb_m_in hi ht (nb_m_in hi ht (nb_m_in hi ht (nb_m_in hi ht h)))))
theorem nb_e_in {k t : Nat} (hk : k < 2 ^ t) : nb_in t (nb_e k) := by
  unfold nb_in
  ext i hi
  rw [nb_cut_bit, nb_e_bit k i hi]
  by_cases q : i = k
  · subst q; simp [hk]
  · simp [q]
def nt_ok (M : Nat) (m : qm_M) : Prop := ∀ a b, a < M → b < M → m.2 117 (64 * a + b) = bn (nb_M a (nb_e b))
