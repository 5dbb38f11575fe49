/-! orders: the class's powers without a prime -/
/-- prime i of the class's table -/
def nw_p (i : Nat) : Nat := (nb (qm_nth pm_prm i 0)).toNat
/-- how many primes level k has -/
def nw_pn (k : Nat) : Nat := if k < 6 then k else 7
theorem nb_pow_s (n : Nat) (x : nb_F) : nb_pow (n + 1) x = nb_mul (nb_pow n x) x := rfl
theorem nb_pow_0 (x : nb_F) : nb_pow 0 x = 1 := rfl
theorem nb_pow_pow (p : Nat) (x : nb_F) (q : Nat) : nb_pow q (nb_pow p x) = nb_pow (p * q) x := by
  induction q with
  | zero => rw [Nat.mul_zero, nb_pow_0, nb_pow_0]
  | succ q ih => rw [Nat.mul_succ, nb_pow_s, ih, nb_pow_add]
theorem nu_primesIn {k : Nat} (hk : k < 7) (m : qm_M) : F_Nu_primesIn (nI k) m = some (some (.int (nI (nw_pn k))), m) := by
  unfold F_Nu_primesIn X_Nu_primesIn_e nw_pn
  by_cases h : k < 6
  · have h6 : nI k < (6 : Int32) := nI_lt (a := k) (b := 6) h (by omega)
    rw [if_pos h, if_pos h6]
  · have e : k = 6 := by omega
    rw [if_neg h, e, if_neg (by decide)]
    rfl
theorem nw_pn_le (k : Nat) : nw_pn k ≤ 7 := by
  unfold nw_pn
  split <;> omega
theorem no_prm (m : qm_M) {i : Nat} (hi : i < 7) : nb (qm_gL m 1000002 (nI i).toNatClampNeg) = BitVec.ofNat 64 (nw_p i) := by
  rw [nI_clamp (by omega)]
  show nb (qm_nth pm_prm i 0) = _
  unfold nw_p
  rw [BitVec.ofNat_toNat, BitVec.setWidth_eq]
/-- the product of the first primes but one -/
def nw_wo (s : Nat) : Nat → Nat
  | 0 => 1
  | i + 1 => if i = s then nw_wo s i else nw_wo s i * nw_p i
theorem nw_wo_s (s i : Nat) : nw_wo s (i + 1) = if i = s then nw_wo s i else nw_wo s i * nw_p i := rfl
theorem nu_without_loop {k s : Nat} (hk : k < 7) (hs : s < 7) (x : nb_F) (m : qm_M) (d : Nat) : ∀ (f i : Nat), nw_pn k - i = d → i ≤ nw_pn k → d < f → L_Nu_powerWithout_6 f (nI k) (nI s) (bn (nb_pow (nw_wo s i) x)) (nI i) m = some (some (.long (bn (nb_pow (nw_wo s (nw_pn k)) x))), m) := by
  have h7 := nw_pn_le k
  induction d with
  | zero =>
    intro f i h1 h2 h3
    obtain ⟨f, rfl⟩ : ∃ g, f = g + 1 := ⟨f - 1, by omega⟩
    have e : i = nw_pn k := by omega
    show X_Nu_powerWithout_6 _ _ _ _ _ _ _ _ = _
    unfold X_Nu_powerWithout_6
    rw [nu_primesIn hk]
    dsimp only [qe_rI]
    rw [e, if_neg (nI_nlt (Nat.le_refl _) (by omega))]
  | succ d ih =>
    intro f i h1 h2 h3
    obtain ⟨f, rfl⟩ : ∃ g, f = g + 1 := ⟨f - 1, by omega⟩
    show X_Nu_powerWithout_6 _ _ _ _ _ _ _ _ = _
    unfold X_Nu_powerWithout_6
    rw [nu_primesIn hk]
    dsimp only [qe_rI]
    rw [if_pos (nI_lt (by omega) (by omega))]
    have ih2 := ih f (i + 1) (by omega) (by omega) (by omega)
    rw [nw_wo_s] at ih2
    by_cases q : i = s
    · rw [if_pos q] at ih2
      rw [if_pos ((nI_eq (by omega) (by omega)).mpr q), ← nI_succ]
      exact ih2
    · rw [if_neg q] at ih2
      rw [if_neg (fun z => q ((nI_eq (by omega) (by omega)).mp z)), qm_in_nI (by omega) (by omega)]
      dsimp only [qe_b, cond_true]
      rw [nu_raisedTo]
      dsimp only [qe_rL]
      have e2 : (BitVec.ofNat 64 (nw_p i)).toNat = nw_p i := by
        rw [BitVec.toNat_ofNat]
        exact Nat.mod_eq_of_lt (nb (qm_nth pm_prm i 0)).isLt
      rw [no_prm m (by omega), e2, nb_bn, nb_pow_pow, ← nI_succ]
      exact ih2
theorem nu_powerWithout {k s : Nat} (hk : k < 7) (hs : s < 7) (x : Int64) (m : qm_M) : F_Nu_powerWithout x (nI k) (nI s) m = some (some (.long (bn (nb_pow (nw_wo s (nw_pn k)) (nb x)))), m) := by
  unfold F_Nu_powerWithout X_Nu_powerWithout_e
  have h := nu_without_loop hk hs (nb x) m (nw_pn k) 1000000 0 rfl (Nat.zero_le _) (by have := nw_pn_le k; omega)
  have e : nb_pow (nw_wo s 0) (nb x) = nb x := nb_1_mul _
  rw [e] at h
  exact h
/-- the order as the class gathers it: the product of the primes without which the power is not 1 -/
def nw_ord (n : Nat) (x : nb_F) : Nat → Int64
  | 0 => 1
  | i + 1 => if nb_pow (nw_wo i n) x = 1 then nw_ord n x i else nw_ord n x i * bn (BitVec.ofNat 64 (nw_p i))
theorem nw_ord_s (n : Nat) (x : nb_F) (i : Nat) : nw_ord n x (i + 1) = if nb_pow (nw_wo i n) x = 1 then nw_ord n x i else nw_ord n x i * bn (BitVec.ofNat 64 (nw_p i)) := rfl
theorem nu_order_loop {k : Nat} (hk : k < 7) (x : Int64) (m : qm_M) (d : Nat) : ∀ (f i : Nat), nw_pn k - i = d → i ≤ nw_pn k → d < f → L_Nu_orderOf_18 f x (nI k) (nw_ord (nw_pn k) (nb x) i) (nI i) m = some (some (.long (nw_ord (nw_pn k) (nb x) (nw_pn k))), m) := by
  have h7 := nw_pn_le k
  induction d with
  | zero =>
    intro f i h1 h2 h3
    obtain ⟨f, rfl⟩ : ∃ g, f = g + 1 := ⟨f - 1, by omega⟩
    have e : i = nw_pn k := by omega
    show X_Nu_orderOf_18 _ _ _ _ _ _ _ _ _ = _
    unfold X_Nu_orderOf_18
    rw [nu_primesIn hk]
    dsimp only [qe_rI]
    rw [e, if_neg (nI_nlt (Nat.le_refl _) (by omega))]
  | succ d ih =>
    intro f i h1 h2 h3
    obtain ⟨f, rfl⟩ : ∃ g, f = g + 1 := ⟨f - 1, by omega⟩
    show X_Nu_orderOf_18 _ _ _ _ _ _ _ _ _ = _
    unfold X_Nu_orderOf_18
    rw [nu_primesIn hk]
    dsimp only [qe_rI]
    rw [if_pos (nI_lt (by omega) (by omega)), nu_powerWithout hk (by omega)]
    dsimp only [qe_rL]
    have ih2 := ih f (i + 1) (by omega) (by omega) (by omega)
    rw [nw_ord_s] at ih2
    by_cases q : nb_pow (nw_wo i (nw_pn k)) (nb x) = 1
    · rw [if_pos q] at ih2
      rw [if_pos ((no_cmpo (bn _)).mpr q), ← nI_succ]
      exact ih2
    · rw [if_neg q] at ih2
      rw [if_neg (fun z => q ((no_cmpo (bn _)).mp z)), qm_in_nI (by omega) (by omega)]
      dsimp only [qe_b, cond_true]
      have e2 : qm_gL m 1000002 (nI i).toNatClampNeg = bn (BitVec.ofNat 64 (nw_p i)) := nb_inj (no_prm m (by omega))
      rw [e2, ← nI_succ]
      exact ih2
theorem nu_orderOf (x : Int64) (m : qm_M) : F_Nu_orderOf x m = some (some (.long (if nb x = 0 then 0 else nw_ord (nw_pn (nb_lev (nb x))) (nb x) (nw_pn (nb_lev (nb x))))), m) := by
  unfold F_Nu_orderOf X_Nu_orderOf_e
  by_cases h : nb x = 0
  · rw [if_pos ((no_cmpz x).mpr h), if_pos h]
  · rw [if_neg (fun q => h ((no_cmpz x).mp q)), if_neg h, nu_levelOf]
    dsimp only [qe_rI]
    exact nu_order_loop (nb_lev_lt _) x m _ 1000000 0 rfl (Nat.zero_le _) (by have := nw_pn_le (nb_lev (nb x)); omega)
