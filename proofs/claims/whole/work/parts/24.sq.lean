/-! levels, squares, roots, powers -/
def nb_levA : Nat → nb_F → Nat
  | 0, _ => 6
  | d + 1, x => if x >>> (2 ^ (5 - d)) = 0 then 5 - d else nb_levA d x
/-- the least k so that it is below 2 to the 2 to the k -/
def nb_lev (x : nb_F) : Nat := nb_levA 6 x
theorem nu_lev_loop (x : Int64) (m : qm_M) : ∀ (d f : Nat), d ≤ 6 → d < f → L_Nu_levelOf_2 f x (nI (6 - d)) m = some (some (.int (nI (nb_levA d (nb x)))), m)
  | 0, f, _, hf => by
    obtain ⟨f, rfl⟩ : ∃ g, f = g + 1 := ⟨f - 1, by omega⟩
    show X_Nu_levelOf_2 _ _ _ _ = _
    unfold X_Nu_levelOf_2
    rw [if_neg (by decide)]
    rfl
  | d + 1, f, hd, hf => by
    obtain ⟨f, rfl⟩ : ∃ g, f = g + 1 := ⟨f - 1, by omega⟩
    show X_Nu_levelOf_2 _ _ _ _ = _
    unfold X_Nu_levelOf_2
    have e : 6 - (d + 1) = 5 - d := by omega
    rw [e, if_pos (show nI (5 - d) < 6 from nI_lt (a := 5 - d) (b := 6) (by omega) (by omega)), no_ishl1 (by omega)]
    unfold nb_levA
    have h2 := no_p2 (k := 5 - d) (by omega)
    by_cases h : nb x >>> (2 ^ (5 - d)) = 0
    · rw [if_pos ((no_cmpz _).mpr (by rw [no_lushr _ h2]; exact h)), if_pos h]
    · rw [if_neg (fun q => h (by have := (no_cmpz _).mp q; rwa [no_lushr _ h2] at this)), if_neg h, ← nI_succ, show 5 - d + 1 = 6 - d by omega]
      exact nu_lev_loop x m d f (by omega) (by omega)
theorem nu_levelOf (x : Int64) (m : qm_M) : F_Nu_levelOf x m = some (some (.int (nI (nb_lev (nb x)))), m) := by
  unfold F_Nu_levelOf X_Nu_levelOf_e
  exact nu_lev_loop x m 6 1000000 (by omega) (by omega)
theorem mt_lev_loop (x : Int64) (m : qm_M) : ∀ (d f : Nat), d ≤ 6 → d < f → L_M_levelOf_2 f x (nI (6 - d)) m = some (some (.int (nI (nb_levA d (nb x)))), m)
  | 0, f, _, hf => by
    obtain ⟨f, rfl⟩ : ∃ g, f = g + 1 := ⟨f - 1, by omega⟩
    show X_M_levelOf_2 _ _ _ _ = _
    unfold X_M_levelOf_2
    rw [if_neg (by decide)]
    rfl
  | d + 1, f, hd, hf => by
    obtain ⟨f, rfl⟩ : ∃ g, f = g + 1 := ⟨f - 1, by omega⟩
    show X_M_levelOf_2 _ _ _ _ = _
    unfold X_M_levelOf_2
    have e : 6 - (d + 1) = 5 - d := by omega
    rw [e, if_pos (show nI (5 - d) < 6 from nI_lt (a := 5 - d) (b := 6) (by omega) (by omega)), no_ishl1 (by omega)]
    unfold nb_levA
    have h2 := no_p2 (k := 5 - d) (by omega)
    by_cases h : nb x >>> (2 ^ (5 - d)) = 0
    · rw [if_pos ((no_cmpz _).mpr (by rw [no_lushr _ h2]; exact h)), if_pos h]
    · rw [if_neg (fun q => h (by have := (no_cmpz _).mp q; rwa [no_lushr _ h2] at this)), if_neg h, ← nI_succ, show 5 - d + 1 = 6 - d by omega]
      exact mt_lev_loop x m d f (by omega) (by omega)
theorem mt_levelOf (x : Int64) (m : qm_M) : F_M_levelOf x m = some (some (.int (nI (nb_lev (nb x)))), m) := by
  unfold F_M_levelOf X_M_levelOf_e
  exact mt_lev_loop x m 6 1000000 (by omega) (by omega)
/-! squares -/
def nb_sq (x : nb_F) : nb_F := nb_mul x x
theorem nb_sq_lin : nb_lin nb_sq := fun x y => by
  unfold nb_sq
  rw [nb_add_mul, nb_mul_add, nb_mul_add, nb_comm y x]
  ext i hi
  simp only [BitVec.getElem_xor]
  cases (nb_mul x x)[i] <;> cases (nb_mul x y)[i] <;> cases (nb_mul y y)[i] <;> rfl
/-- one step of square, of root -/
def nb_sk (k : Nat) (y : nb_F) : nb_F := y ^^^ nb_T k ((y >>> (2 ^ k)) &&& nb_low k)
theorem nb_sk_lin (k : Nat) : nb_lin (nb_sk k) := nb_sum nb_idl (nb_comp (nb_T_lin k) (nb_hi_lin k))
def nb_sqA : Nat → nb_F → nb_F
  | 0, x => x
  | k + 1, x => nb_sk k (nb_sqA k x)
theorem nb_sqA_lin : ∀ k, nb_lin (nb_sqA k)
  | 0 => nb_idl
  | k + 1 => fun x y => by
    show nb_sk k (nb_sqA k (x ^^^ y)) = nb_sk k (nb_sqA k x) ^^^ nb_sk k (nb_sqA k y)
    rw [nb_sqA_lin k, nb_sk_lin k]
def nb_rtA : Nat → nb_F → nb_F
  | 0, x => x
  | k + 1, x => nb_rtA k (nb_sk k x)
theorem nb_rtA_lin : ∀ k, nb_lin (nb_rtA k)
  | 0 => nb_idl
  | k + 1 => fun x y => by
    show nb_rtA k (nb_sk k (x ^^^ y)) = nb_rtA k (nb_sk k x) ^^^ nb_rtA k (nb_sk k y)
    rw [nb_sk_lin k, nb_rtA_lin k]
/-- the root -/
def nb_rt (x : nb_F) : nb_F := nb_rtA 6 x
theorem nb_sq_chk : (List.range 64).all (fun i => decide (nb_sqA 6 (nb_e i) = nb_sq (nb_e i))) = true := by decide +kernel
theorem nb_sqA_eq (x : nb_F) : nb_sqA 6 x = nb_sq x := nb_basis (nb_sqA_lin 6) nb_sq_lin (fun i hi => of_decide_eq_true (List.all_eq_true.mp nb_sq_chk i (List.mem_range.mpr hi))) x
theorem nb_rt_chk : (List.range 64).all (fun i => decide (nb_sqA 6 (nb_rtA 6 (nb_e i)) = nb_e i) && decide (nb_rtA 6 (nb_sqA 6 (nb_e i)) = nb_e i)) = true := by decide +kernel
theorem nb_sq_rt (x : nb_F) : nb_sq (nb_rt x) = x := by
  rw [← nb_sqA_eq]
  refine nb_basis (f := fun x => nb_sqA 6 (nb_rtA 6 x)) (nb_comp (nb_sqA_lin 6) (nb_rtA_lin 6)) nb_idl (fun i hi => ?_) x
  exact of_decide_eq_true (Bool.and_eq_true_iff.mp (List.all_eq_true.mp nb_rt_chk i (List.mem_range.mpr hi))).1
theorem nb_rt_sq (x : nb_F) : nb_rt (nb_sq x) = x := by
  rw [← nb_sqA_eq]
  refine nb_basis (f := fun x => nb_rtA 6 (nb_sqA 6 x)) (nb_comp (nb_rtA_lin 6) (nb_sqA_lin 6)) nb_idl (fun i hi => ?_) x
  exact of_decide_eq_true (Bool.and_eq_true_iff.mp (List.all_eq_true.mp nb_rt_chk i (List.mem_range.mpr hi))).2
theorem nu_sk {k : Nat} (hk : k < 6) (x : Int64) (m : qm_M) : F_Nu_toppedBy 10 (qo_lushr x (qo_ishl 1 (nI k)) &&& qm_gL m 1000001 (nI k).toNatClampNeg) (nI k) m = some (some (.long (bn (nb_T k ((nb x >>> (2 ^ k)) &&& nb_low k)))), m) := by
  rw [nu_toppedBy (by omega), no_and, no_ishl1 (by omega), no_lushr _ (no_p2 hk), no_low m hk]
  rfl
theorem nu_square_loop (x : nb_F) (m : qm_M) : ∀ (d f k : Nat), 6 - k = d → k ≤ 6 → d < f → L_Nu_square_5 f (bn (nb_sqA k x)) (nI k) m = some (some (.long (bn (nb_sqA 6 x))), m) := by
  intro d
  induction d with
  | zero =>
    intro f k h1 h2 h3
    obtain ⟨f, rfl⟩ : ∃ g, f = g + 1 := ⟨f - 1, by omega⟩
    have e : k = 6 := by omega
    subst e
    show X_Nu_square_5 _ _ _ _ _ = _
    unfold X_Nu_square_5
    rw [if_neg (by decide)]
  | succ d ih =>
    intro f k h1 h2 h3
    obtain ⟨f, rfl⟩ : ∃ g, f = g + 1 := ⟨f - 1, by omega⟩
    have hk : k < 6 := by omega
    show X_Nu_square_5 _ _ _ _ _ = _
    unfold X_Nu_square_5
    rw [if_pos (show nI k < 6 from nI_lt (a := k) (b := 6) hk (by omega)), qm_in_nI hk (by omega), nu_sk hk]
    dsimp only [qe_b, cond_true, qe_rL]
    rw [← nI_succ]
    exact ih f (k + 1) (by omega) (by omega) (by omega)
theorem nu_square (x : Int64) (m : qm_M) : F_Nu_square x m = some (some (.long (bn (nb_sq (nb x)))), m) := by
  unfold F_Nu_square X_Nu_square_e
  rw [← nb_sqA_eq]
  exact nu_square_loop (nb x) m 6 1000000 0 rfl (by omega) (by omega)
theorem nu_root_loop (m : qm_M) : ∀ (k f : Nat) (x : nb_F), k ≤ 6 → k < f → L_Nu_rootOf_5 f (bn x) (nI k - 1) m = some (some (.long (bn (nb_rtA k x))), m)
  | 0, f, x, _, hf => by
    obtain ⟨f, rfl⟩ : ∃ g, f = g + 1 := ⟨f - 1, by omega⟩
    show X_Nu_rootOf_5 _ _ _ _ _ = _
    unfold X_Nu_rootOf_5
    rw [if_pos (by decide)]
    rfl
  | k + 1, f, x, hk, hf => by
    obtain ⟨f, rfl⟩ : ∃ g, f = g + 1 := ⟨f - 1, by omega⟩
    show X_Nu_rootOf_5 _ _ _ _ _ = _
    unfold X_Nu_rootOf_5
    rw [nI_pred, if_neg (nI_pos (by omega)), qm_in_nI (by omega) (by omega), nu_sk (by omega)]
    dsimp only [qe_b, cond_true, qe_rL]
    rw [← Int32.sub_eq_add_neg]
    exact nu_root_loop m k f (nb_sk k x) (by omega) (by omega)
theorem nu_rootOf (x : Int64) (m : qm_M) : F_Nu_rootOf x m = some (some (.long (bn (nb_rt (nb x)))), m) := by
  unfold F_Nu_rootOf X_Nu_rootOf_e
  exact nu_root_loop m 6 1000000 (nb x) (by omega) (by omega)
/-! powers -/
def nb_pow : Nat → nb_F → nb_F
  | 0, _ => 1
  | n + 1, a => nb_mul (nb_pow n a) a
theorem nb_pow_add (a : nb_F) (p : Nat) : ∀ q, nb_pow (p + q) a = nb_mul (nb_pow p a) (nb_pow q a)
  | 0 => (nb_mul_1 _).symm
  | q + 1 => by
    show nb_mul (nb_pow (p + q) a) a = nb_mul (nb_pow p a) (nb_mul (nb_pow q a) a)
    rw [nb_pow_add a p q, nb_assoc]
theorem nb_pow_sq (a : nb_F) : ∀ q, nb_pow q (nb_sq a) = nb_pow (2 * q) a
  | 0 => rfl
  | q + 1 => by
    show nb_mul (nb_pow q (nb_sq a)) (nb_sq a) = nb_pow (2 * q + 1 + 1) a
    rw [nb_pow_sq a q]
    show nb_mul (nb_pow (2 * q) a) (nb_mul a a) = nb_mul (nb_mul (nb_pow (2 * q) a) a) a
    rw [nb_assoc]
theorem nb_one_pow : ∀ q, nb_pow q 1 = 1
  | 0 => rfl
  | q + 1 => by
    show nb_mul (nb_pow q 1) 1 = 1
    rw [nb_one_pow q, nb_mul_1]
theorem mt_power_loop {m : qm_M} (hm : nt_ok 64 m) : ∀ (d f : Nat) (v b n : nb_F), n.toNat < 2 ^ d → d < f → L_M_powerOf_9 f (bn v) (bn b) (bn n) m = some (some (.long (bn (nb_mul v (nb_pow n.toNat b)))), m)
  | 0, f, v, b, n, hn, hf => by
    obtain ⟨f, rfl⟩ : ∃ g, f = g + 1 := ⟨f - 1, by omega⟩
    have h0 : n = 0 := BitVec.eq_of_toNat_eq (by simp at hn; simpa using hn)
    subst h0
    show X_M_powerOf_9 _ _ _ _ _ _ _ = _
    unfold X_M_powerOf_9
    rw [if_pos ((no_cmpz _).mpr rfl), show nb_mul v (nb_pow (0 : nb_F).toNat b) = v from nb_mul_1 v]
  | d + 1, f, v, b, n, hn, hf => by
    obtain ⟨f, rfl⟩ : ∃ g, f = g + 1 := ⟨f - 1, by omega⟩
    show X_M_powerOf_9 _ _ _ _ _ _ _ = _
    unfold X_M_powerOf_9
    by_cases h0 : n = 0
    · subst h0
      rw [if_pos ((no_cmpz _).mpr rfl), show nb_mul v (nb_pow (0 : nb_F).toNat b) = v from nb_mul_1 v]
    · rw [if_neg (fun q => h0 ((no_cmpz (bn n)).mp q))]
      have eh : (n >>> 1).toNat = n.toNat / 2 := by
        rw [BitVec.toNat_ushiftRight, Nat.shiftRight_eq_div_pow]
      have hlt : (n >>> 1).toNat < 2 ^ d := by
        rw [eh]
        rw [Nat.pow_succ] at hn
        omega
      have es : qo_lushr (bn n) 1 = bn (n >>> 1) := nb_inj (by rw [no_lushr1, nb_bn, nb_bn])
      have go : ∀ w : nb_F, L_M_powerOf_35 (L_M_powerOf_9 f) (bn w) (bn b) (bn n) m = some (some (.long (bn (nb_mul w (nb_pow (2 * (n.toNat / 2)) b)))), m) := fun w => by
        unfold L_M_powerOf_35 X_M_powerOf_35
        rw [mt_square hm]
        dsimp only [qe_rL]
        rw [es]
        have h := mt_power_loop hm d f w (nb_sq b) (n >>> 1) hlt (by omega)
        rw [eh, nb_pow_sq] at h
        exact h
      have hbit : n.getLsbD 0 = true ↔ n.toNat % 2 = 1 := by
        rw [BitVec.getLsbD, Nat.testBit_zero]
        simp
      by_cases hb : n.getLsbD 0 = true
      · have e1 : n &&& 1 = 1 := by rw [nb_low1, if_pos hb]
        rw [if_pos ((no_cmpo _).mpr (by rw [no_and, nb_bn, nb_1l]; exact e1)), mt_product hm]
        dsimp only [qe_rL]
        have e2 : n.toNat = 1 + 2 * (n.toNat / 2) := by have := hbit.mp hb; omega
        have e3 : nb_pow n.toNat b = nb_mul b (nb_pow (2 * (n.toNat / 2)) b) := by
          conv => lhs; rw [e2]
          rw [nb_pow_add, show nb_pow 1 b = b from nb_1_mul b]
        rw [nb_bn, nb_bn, go, e3, nb_assoc]
      · rw [if_neg (fun q => hb (by
          have q2 := (no_cmpo _).mp q
          rw [no_and, nb_bn, nb_1l, nb_low1] at q2
          by_cases z : n.getLsbD 0 = true
          · exact z
          · rw [if_neg z] at q2; exact absurd q2 (by decide)))]
        have e2 : n.toNat = 2 * (n.toNat / 2) := by
          have : ¬ n.toNat % 2 = 1 := fun z => hb (hbit.mpr z)
          omega
        rw [go, ← e2]
theorem mt_powerOf {m : qm_M} (hm : nt_ok 64 m) (a n : Int64) : F_M_powerOf a n m = some (some (.long (bn (nb_pow (nb n).toNat (nb a)))), m) := by
  unfold F_M_powerOf X_M_powerOf_e
  have h := mt_power_loop hm 64 1000000 1 (nb a) (nb n) (nb n).isLt (by omega)
  rw [nb_1_mul] at h
  exact h
