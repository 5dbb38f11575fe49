/-! least polynomials: what they are; the model's -/
/-- times x less c, by coefficients -/
def nl_m (c : nb_F) (p : Nat → nb_F) (k : Nat) : nb_F := (if k = 0 then 0 else p (k - 1)) ^^^ nb_mul c (p k)
def nl_p (cs : Nat → nb_F) : Nat → Nat → nb_F
  | 0 => fun k => if k = 0 then 1 else 0
  | n + 1 => nl_m (cs n) (nl_p cs n)
theorem nl_p_0 (cs : Nat → nb_F) (k : Nat) : nl_p cs 0 k = if k = 0 then 1 else 0 := rfl
theorem nl_p_s (cs : Nat → nb_F) (n k : Nat) : nl_p cs (n + 1) k = (if k = 0 then 0 else nl_p cs n (k - 1)) ^^^ nb_mul (cs n) (nl_p cs n k) := rfl
theorem nl_p_z (cs : Nat → nb_F) : ∀ n k, n < k → nl_p cs n k = 0
  | 0, k, h => by rw [nl_p_0, if_neg (by omega)]
  | n + 1, k, h => by rw [nl_p_s, if_neg (by omega), nl_p_z cs n (k - 1) (by omega), nl_p_z cs n k (by omega), nb_mul_0, nb_xx]
theorem nl_p_1 (cs : Nat → nb_F) : ∀ n, nl_p cs n n = 1
  | 0 => by rw [nl_p_0, if_pos rfl]
  | n + 1 => by rw [nl_p_s, if_neg (by omega), Nat.add_sub_cancel, nl_p_1 cs n, nl_p_z cs n (n + 1) (by omega), nb_mul_0, nb_x0]
theorem nl_m_com (a b : nb_F) (p : Nat → nb_F) (k : Nat) : nl_m a (nl_m b p) k = nl_m b (nl_m a p) k := by
  unfold nl_m
  by_cases h : k = 0
  · simp only [if_pos h, nb_0x]
    rw [← nb_assoc, ← nb_assoc, nb_comm a b]
  · rw [if_neg h, if_neg h, if_neg h]
    generalize (if k - 1 = 0 then (0 : nb_F) else p (k - 1 - 1)) = u
    generalize p (k - 1) = v
    generalize p k = w
    letI := nb_RI
    haveI := nb_RC
    exact (show ∀ a b u v w : nb_R, u + b * v + a * (v + b * w) = u + a * v + b * (v + a * w) by intros; grind) a b u v w
theorem nl_m_c {c : nb_F} {p q : Nat → nb_F} (h : ∀ k, p k = q k) (k : Nat) : nl_m c p k = nl_m c q k := by
  unfold nl_m
  rw [h, h]
/-- the first factor may come last -/
theorem nl_p_rot (cs : Nat → nb_F) : ∀ n k, nl_p cs (n + 1) k = nl_m (cs 0) (nl_p (fun i => cs (i + 1)) n) k
  | 0, k => rfl
  | n + 1, k => by
    show nl_m (cs (n + 1)) (nl_p cs (n + 1)) k = _
    rw [nl_m_c (nl_p_rot cs n) k, nl_m_com]
    rfl
theorem nl_p_sq (cs : Nat → nb_F) : ∀ n k, nb_sq (nl_p cs n k) = nl_p (fun i => nb_sq (cs i)) n k
  | 0, k => by
    rw [nl_p_0, nl_p_0]
    by_cases h : k = 0
    · rw [if_pos h, nb_sq_1]
    · rw [if_neg h, nb_lin0 nb_sq_lin]
  | n + 1, k => by
    rw [nl_p_s, nl_p_s, nb_sq_lin, nb_sq_mul, nl_p_sq cs n k]
    by_cases h : k = 0
    · rw [if_pos h, if_pos h, nb_lin0 nb_sq_lin]
    · rw [if_neg h, if_neg h, nl_p_sq cs n (k - 1)]
theorem nb_sqN_s' (n : Nat) (x : nb_F) : nb_sq (nb_sqN n x) = nb_sqN (n + 1) x := by
  rw [Nat.add_comm n 1, nb_sqN_add 0 1 n x, nb_sqN_s, nb_sqN_0]
/-- the conjugates -/
def nl_cs (x : nb_F) (i : Nat) : nb_F := nb_sqN i x
theorem nl_per {x : nb_F} {D : Nat} (h : nb_sqN D x = x) (h0 : 0 < D) (k : Nat) : nb_sq (nl_p (nl_cs x) D k) = nl_p (nl_cs x) D k := by
  obtain ⟨n, rfl⟩ : ∃ n, D = n + 1 := ⟨D - 1, by omega⟩
  rw [nl_p_sq]
  have e : (fun i => nb_sq (nl_cs x i)) = (fun i => nl_cs x (i + 1)) := funext (fun i => nb_sqN_s' i x)
  rw [e, nl_p_rot (nl_cs x)]
  show nl_m (nb_sqN (n + 1) x) (nl_p (fun i => nl_cs x (i + 1)) n) k = nl_m (nb_sqN 0 x) (nl_p (fun i => nl_cs x (i + 1)) n) k
  rw [h, nb_sqN_0]
theorem nb_01 {a : nb_F} (h : nb_sq a = a) : a = 0 ∨ a = 1 := by
  have e : nb_mul a (a ^^^ 1) = 0 := by
    rw [nb_mul_add, nb_mul_1]
    have h2 : nb_mul a a = a := h
    rw [h2, nb_xx]
  rcases nb_nz e with q | q
  · exact Or.inl q
  · exact Or.inr (nb_x_eq q)
theorem nl_m_ev (c y : nb_F) {p : Nat → nb_F} {m : Nat} (hz : p m = 0) : pf_e (m + 1) (nl_m c p) y = nb_mul (y ^^^ c) (pf_e m p y) := by
  unfold nl_m
  rw [pf_e_add (m + 1) (fun k => if k = 0 then 0 else p (k - 1)) (fun k => nb_mul c (p k)), pf_e_sc c, pf_e_hi m p, hz, nb_mul_0, nb_x0, pf_e_s, if_pos rfl, nb_0x, nb_add_mul]
  exact nb_xc (nb_mc y (pf_e_c (fun i _ => by rw [if_neg (by omega), Nat.add_sub_cancel]) y)) rfl
theorem nl_p_ev {cs : Nat → nb_F} {y : nb_F} (h : cs 0 = y) : ∀ n, 0 < n → pf_e (n + 1) (nl_p cs n) y = 0
  | 0, h0 => absurd h0 (Nat.lt_irrefl 0)
  | n + 1, _ => by
    show pf_e (n + 1 + 1) (nl_m (cs n) (nl_p cs n)) y = 0
    rw [nl_m_ev _ _ (nl_p_z cs n (n + 1) (by omega))]
    by_cases q : n = 0
    · subst q
      rw [h, nb_xx, nb_0_mul]
    · rw [nl_p_ev h n (by omega), nb_mul_0]
/-! bits as coefficients -/
def nl_b (t : nb_F) (k : Nat) : nb_F := if t.getLsbD k = true then 1 else 0
/-- what bits stand for: the sum of these powers -/
def nl_v (x t : nb_F) : nb_F := pf_e 64 (nl_b t) x
theorem nl_b_add (s t : nb_F) (k : Nat) : nl_b (s ^^^ t) k = nl_b s k ^^^ nl_b t k := by
  unfold nl_b
  rw [BitVec.getLsbD_xor]
  cases s.getLsbD k <;> cases t.getLsbD k <;> decide
theorem nl_v_add (x s t : nb_F) : nl_v x (s ^^^ t) = nl_v x s ^^^ nl_v x t := by
  unfold nl_v
  rw [pf_e_c (fun i _ => nl_b_add s t i) x, pf_e_add]
theorem pf_e_d (x : nb_F) (k : Nat) : ∀ n, pf_e n (fun i => if i = k then 1 else 0) x = if k < n then nb_pow k x else 0
  | 0 => by rw [pf_e_0, if_neg (by omega)]
  | n + 1 => by
    rw [pf_e_hi, pf_e_d x k n]
    by_cases h : n = k
    · rw [if_pos h, if_neg (by omega), if_pos (by omega), nb_mul_1, nb_0x, h]
    · rw [if_neg h, nb_mul_0, nb_x0]
      by_cases q : k < n
      · rw [if_pos q, if_pos (by omega)]
      · rw [if_neg q, if_neg (by omega)]
theorem nl_v_e (x : nb_F) {k : Nat} (hk : k < 64) : nl_v x (nb_e k) = nb_pow k x := by
  unfold nl_v
  rw [pf_e_c (d := fun i => if i = k then 1 else 0) (fun i hi => by
    unfold nl_b
    rw [BitVec.getLsbD_eq_getElem hi, nb_e_bit k i hi]
    by_cases q : i = k
    · rw [if_pos q]; simp [q]
    · rw [if_neg q]; simp [q]) x, pf_e_d, if_pos hk]
def nl_lt (n : Nat) (t : nb_F) : Prop := ∀ k, n ≤ k → t.getLsbD k = false
theorem nl_lt_add {n : Nat} {s t : nb_F} (hs : nl_lt n s) (ht : nl_lt n t) : nl_lt n (s ^^^ t) := fun k hk => by
  rw [BitVec.getLsbD_xor, hs k hk, ht k hk]; rfl
theorem nl_lt_e {k n : Nat} (h : k < n) : nl_lt n (nb_e k) := fun i hi => by
  by_cases q : i < 64
  · rw [BitVec.getLsbD_eq_getElem q, nb_e_bit k i q]
    simp
    omega
  · exact BitVec.getLsbD_of_ge _ _ (by omega)
theorem nl_lt_up {k n : Nat} (h : k ≤ n) {t : nb_F} (ht : nl_lt k t) : nl_lt n t := fun i hi => ht i (by omega)
theorem nl_lt_0 (n : Nat) : nl_lt n 0 := fun i _ => by simp
theorem pf_e_sq {c : Nat → nb_F} (y : nb_F) : ∀ n, (∀ i, nb_sq (c i) = c i) → nb_sq (pf_e n c y) = pf_e n c (nb_sq y) := by
  intro n
  induction n generalizing c with
  | zero => intro _; rw [pf_e_0, pf_e_0, nb_lin0 nb_sq_lin]
  | succ n ih =>
    intro h
    rw [pf_e_s, pf_e_s, nb_sq_lin, h 0, nb_sq_mul, ih (fun i => h (i + 1))]
theorem nl_b_sq (t : nb_F) (k : Nat) : nb_sq (nl_b t k) = nl_b t k := by
  unfold nl_b
  by_cases h : t.getLsbD k = true
  · rw [if_pos h, nb_sq_1]
  · rw [if_neg h, nb_lin0 nb_sq_lin]
theorem nl_cs_ne {x : nb_F} {i j : Nat} (h1 : i < j) (h2 : j < 2 ^ nb_lev x) : nl_cs x i ≠ nl_cs x j := by
  intro h
  have hf := nb_frob _ (nb_lev_lt x) x (nb_lev_in x)
  have e : nb_sqN (2 ^ nb_lev x - j) (nb_sqN i x) = nb_sqN (2 ^ nb_lev x - j) (nb_sqN j x) := congrArg _ h
  rw [← nb_sqN_add 0, ← nb_sqN_add 0, show 2 ^ nb_lev x - j + j = 2 ^ nb_lev x by omega, hf] at e
  exact nb_lev_per (by omega) (by omega) e
theorem nl_D64 (x : nb_F) : 0 < 2 ^ nb_lev x ∧ 2 ^ nb_lev x ≤ 64 := by
  refine ⟨Nat.pow_pos (by decide), ?_⟩
  have : 2 ^ nb_lev x ≤ 2 ^ 6 := Nat.pow_le_pow_right (by decide) (by have := nb_lev_lt x; omega)
  omega
/-- powers below the degree are independent -/
theorem nl_ind {x t : nb_F} (ht : nl_lt (2 ^ nb_lev x) t) (h : nl_v x t = 0) : t = 0 := by
  obtain ⟨d0, d64⟩ := nl_D64 x
  have hv : ∀ i, pf_e 64 (nl_b t) (nl_cs x i) = 0 := by
    intro i
    induction i with
    | zero => exact h
    | succ i ih =>
      show pf_e 64 (nl_b t) (nb_sqN (i + 1) x) = 0
      rw [← nb_sqN_s', ← pf_e_sq _ 64 (nl_b_sq t)]
      show nb_sq (pf_e 64 (nl_b t) (nl_cs x i)) = 0
      rw [ih, nb_lin0 nb_sq_lin]
  have e : ∀ y, pf_e 64 (nl_b t) y = pf_e (2 ^ nb_lev x) (nl_b t) y := fun y => by
    have := pf_e_up (2 ^ nb_lev x) (c := nl_b t) (64 - 2 ^ nb_lev x) (fun i h1 _ => by unfold nl_b; rw [if_neg (by rw [ht i h1]; decide)]) y
    rw [show 2 ^ nb_lev x + (64 - 2 ^ nb_lev x) = 64 by omega] at this
    exact this
  have hz := pf_zero ((List.range (2 ^ nb_lev x)).map (nl_cs x)) (2 ^ nb_lev x) (nl_b t) (nodup_mapR (fun i j h1 h2 => nl_cs_ne h1 h2)) (by simp) (fun a ha => by
    obtain ⟨i, -, hi⟩ := List.mem_map.mp ha
    rw [← hi, ← e, hv])
  apply BitVec.eq_of_getLsbD_eq
  intro i hi
  have e0 : (0 : nb_F).getLsbD i = false := by simp
  rw [e0]
  by_cases q : i < 2 ^ nb_lev x
  · have z := hz i q
    unfold nl_b at z
    cases hb : t.getLsbD i with
    | false => rfl
    | true => rw [if_pos hb] at z; exact absurd z (by decide)
  · exact ht i (by omega)
/-- the bits of the least polynomial, the first n -/
def nl_B (x : nb_F) : Nat → nb_F
  | 0 => 0
  | k + 1 => nl_B x k ||| ((nl_p (nl_cs x) (2 ^ nb_lev x) k &&& 1) <<< k)
theorem nl_B_bit (x : nb_F) : ∀ n, n ≤ 64 → ∀ i, (nl_B x n).getLsbD i = (decide (i < n) && (nl_p (nl_cs x) (2 ^ nb_lev x) i).getLsbD 0)
  | 0, _, i => by show (0 : nb_F).getLsbD i = _; simp
  | n + 1, hn, i => by
    show (nl_B x n ||| ((nl_p (nl_cs x) (2 ^ nb_lev x) n &&& 1) <<< n)).getLsbD i = _
    rw [BitVec.getLsbD_or, nl_B_bit x n (by omega), nb_low1]
    have e : ((if (nl_p (nl_cs x) (2 ^ nb_lev x) n).getLsbD 0 then (1 : nb_F) else 0) <<< n).getLsbD i = (decide (i = n) && (nl_p (nl_cs x) (2 ^ nb_lev x) n).getLsbD 0) := by
      cases (nl_p (nl_cs x) (2 ^ nb_lev x) n).getLsbD 0 with
      | true =>
        simp only [if_true, Bool.and_true]
        show (nb_e n).getLsbD i = _
        by_cases q : i < 64
        · rw [BitVec.getLsbD_eq_getElem q, nb_e_bit n i q]
        · rw [BitVec.getLsbD_of_ge _ _ (by omega)]
          simp; omega
      | false => simp
    rw [e]
    by_cases q : i = n
    · subst q; simp
    · have : decide (i < n + 1) = decide (i < n) := by rw [decide_eq_decide]; omega
      rw [this]
      simp [q]
/-- the least polynomial -/
def nw_least (x : nb_F) : nb_F := nl_B x (2 ^ nb_lev x)
theorem nw_least_lt (x : nb_F) : nl_lt (2 ^ nb_lev x) (nw_least x) := fun i hi => by
  unfold nw_least
  rw [nl_B_bit x _ (nl_D64 x).2]
  have : decide (i < 2 ^ nb_lev x) = false := decide_eq_false (by omega)
  rw [this]; rfl
theorem nw_least_v (x : nb_F) : nl_v x (nw_least x) = nb_pow (2 ^ nb_lev x) x := by
  obtain ⟨d0, d64⟩ := nl_D64 x
  have hf := nb_frob _ (nb_lev_lt x) x (nb_lev_in x)
  have hev := nl_p_ev (cs := nl_cs x) (y := x) (nb_sqN_0 x) (2 ^ nb_lev x) d0
  rw [pf_e_hi, nl_p_1, nb_mul_1] at hev
  have hper := nl_per hf d0
  rw [← nb_x_eq hev]
  unfold nl_v
  have e := pf_e_up (2 ^ nb_lev x) (c := nl_b (nw_least x)) (64 - 2 ^ nb_lev x) (fun i h1 _ => by unfold nl_b; rw [if_neg (by rw [nw_least_lt x i h1]; decide)]) x
  rw [show 2 ^ nb_lev x + (64 - 2 ^ nb_lev x) = 64 by omega] at e
  rw [e]
  refine pf_e_c (fun i hi => ?_) x
  unfold nl_b nw_least
  rw [nl_B_bit x _ d64]
  have h1 : decide (i < 2 ^ nb_lev x) = true := decide_eq_true hi
  rw [h1, Bool.true_and]
  rcases nb_01 (hper i) with q | q
  · rw [q]; decide
  · rw [q]; decide
theorem nw_least_un {x t : nb_F} (ht : nl_lt (2 ^ nb_lev x) t) (h : nl_v x t = nb_pow (2 ^ nb_lev x) x) : t = nw_least x := by
  have := nl_ind (nl_lt_add ht (nw_least_lt x)) (by rw [nl_v_add, h, nw_least_v, nb_xx])
  exact nb_x_eq this
