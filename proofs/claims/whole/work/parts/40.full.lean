/-! full ones -/
def nb_fp : Nat → Nat → nb_F → nb_F
  | 0, _, _ => 1
  | f + 1, n, a => if n % 2 = 1 then nb_mul a (nb_sqA 6 (nb_fp f (n / 2) a)) else nb_sqA 6 (nb_fp f (n / 2) a)
theorem nb_fp_s (f n : Nat) (a : nb_F) : nb_fp (f + 1) n a = if n % 2 = 1 then nb_mul a (nb_sqA 6 (nb_fp f (n / 2) a)) else nb_sqA 6 (nb_fp f (n / 2) a) := rfl
theorem nb_fp_eq (a : nb_F) : ∀ (f n : Nat), n < 2 ^ f → nb_fp f n a = nb_pow n a
  | 0, n, h => by
    have e : n = 0 := by simpa using h
    subst e
    rfl
  | f + 1, n, h => by
    rw [nb_fp_s, nb_fp_eq a f (n / 2) (by rw [Nat.pow_succ] at h; omega), nb_sqA_eq]
    have e : nb_sq (nb_pow (n / 2) a) = nb_pow (2 * (n / 2)) a := by
      rw [Nat.two_mul, nb_pow_add]
      rfl
    rw [e]
    by_cases q : n % 2 = 1
    · rw [if_pos q, nb_comm, ← nb_pow_s, show 2 * (n / 2) + 1 = n by omega]
    · rw [if_neg q, show 2 * (n / 2) = n by omega]
def nf_d (k : Nat) : Nat := [0, 0, 0, 2, 2, 4, 6].getD k 0
def nf_f (k : Nat) : Nat := if k = 0 then 1 else 2 ^ (2 ^ (k - 1))
def nf_x (k d : Nat) : nb_F := BitVec.ofNat 64 (nf_f k + d)
theorem nf_wo_lt {k i : Nat} (hk : k < 7) (hi : i < 7) : nw_wo i (nw_pn k) < 2 ^ 64 := by
  have c : (List.range 7).all (fun k => (List.range 7).all (fun i => Nat.blt (nw_wo i (nw_pn k)) (2 ^ 64))) = true := by decide +kernel
  exact Nat.le_of_ble_eq_true (List.all_eq_true.mp (List.all_eq_true.mp c k (List.mem_range.mpr hk)) i (List.mem_range.mpr hi))
theorem nf_no_chk : (List.range 7).all (fun k => (List.range (nf_d k)).all (fun d => decide (nb_fp 64 (nw_wo 0 (nw_pn k)) (nf_x k d) = 1))) = true := by decide +kernel
theorem nf_yes_chk : (List.range 7).all (fun k => (List.range (nw_pn k)).all (fun i => decide (¬ nb_fp 64 (nw_wo i (nw_pn k)) (nf_x k (nf_d k)) = 1))) = true := by decide +kernel
theorem nf_no {k d : Nat} (hk : k < 7) (hd : d < nf_d k) : nb_pow (nw_wo 0 (nw_pn k)) (nf_x k d) = 1 := by
  rw [← nb_fp_eq _ 64 _ (nf_wo_lt hk (by omega))]
  exact of_decide_eq_true (List.all_eq_true.mp (List.all_eq_true.mp nf_no_chk k (List.mem_range.mpr hk)) d (List.mem_range.mpr hd))
theorem nf_yes {k i : Nat} (hk : k < 7) (hi : i < nw_pn k) : ¬ nb_pow (nw_wo i (nw_pn k)) (nf_x k (nf_d k)) = 1 := by
  rw [← nb_fp_eq _ 64 _ (nf_wo_lt hk (by have := nw_pn_le k; omega))]
  exact of_decide_eq_true (List.all_eq_true.mp (List.all_eq_true.mp nf_yes_chk k (List.mem_range.mpr hk)) i (List.mem_range.mpr hi))
theorem nf_d0 {k : Nat} (hk : k < 7) (h : 0 < nf_d k) : 0 < nw_pn k := by
  have c : (List.range 7).all (fun k => decide (0 < nf_d k → 0 < nw_pn k)) = true := by decide +kernel
  exact of_decide_eq_true (List.all_eq_true.mp c k (List.mem_range.mpr hk)) h
theorem nf_d6 {k : Nat} (hk : k < 7) : nf_d k ≤ 6 := by
  have c : (List.range 7).all (fun k => decide (nf_d k ≤ 6)) = true := by decide +kernel
  exact of_decide_eq_true (List.all_eq_true.mp c k (List.mem_range.mpr hk))
/-! the class -/
theorem nu_isFull_no {k : Nat} (hk : k < 7) (h0 : 0 < nw_pn k) {x : nb_F} (h : nb_pow (nw_wo 0 (nw_pn k)) x = 1) (m : qm_M) : F_Nu_isFull (bn x) (nI k) m = some (some (.int 0), m) := by
  unfold F_Nu_isFull X_Nu_isFull_e
  show X_Nu_isFull_2 _ _ (L_Nu_isFull_2 999999) _ _ (nI 0) _ = _
  unfold X_Nu_isFull_2
  rw [nu_primesIn hk]
  dsimp only [qe_rI]
  rw [if_pos (nI_lt h0 (by have := nw_pn_le k; omega)), nu_powerWithout hk (by omega)]
  dsimp only [qe_rL]
  rw [nb_bn, h, if_pos ((no_cmpo (bn 1)).mpr rfl)]
theorem nu_isFull_yes_loop {k : Nat} (hk : k < 7) {x : nb_F} (h : ∀ i, i < nw_pn k → ¬ nb_pow (nw_wo i (nw_pn k)) x = 1) (m : qm_M) (d : Nat) : ∀ (f i : Nat), nw_pn k - i = d → i ≤ nw_pn k → d < f → L_Nu_isFull_2 f (bn x) (nI k) (nI i) m = some (some (.int 1), m) := by
  have h7 := nw_pn_le k
  induction d with
  | zero =>
    intro f i h1 h2 h3
    obtain ⟨f, rfl⟩ : ∃ g, f = g + 1 := ⟨f - 1, by omega⟩
    have e : i = nw_pn k := by omega
    subst e
    show X_Nu_isFull_2 _ _ _ _ _ _ _ = _
    unfold X_Nu_isFull_2
    rw [nu_primesIn hk]
    dsimp only [qe_rI]
    rw [if_neg (nI_nlt (Nat.le_refl _) (by omega))]
  | succ d ih =>
    intro f i h1 h2 h3
    obtain ⟨f, rfl⟩ : ∃ g, f = g + 1 := ⟨f - 1, by omega⟩
    show X_Nu_isFull_2 _ _ _ _ _ _ _ = _
    unfold X_Nu_isFull_2
    rw [nu_primesIn hk]
    dsimp only [qe_rI]
    rw [if_pos (nI_lt (by omega) (by omega)), nu_powerWithout hk (by omega)]
    dsimp only [qe_rL]
    rw [nb_bn, if_neg (fun z => h i (by omega) ((no_cmpo (bn _)).mp z)), nI_1]
    exact ih f (i + 1) (by omega) (by omega) (by omega)
theorem nf_add {k d : Nat} (hk : k < 7) (hd : d ≤ 6) : bn (nf_x k 0) + (nI d).toInt64 = bn (nf_x k d) := by
  have c : (List.range 7).all (fun k => (List.range 7).all (fun d => decide (bn (nf_x k 0) + (nI d).toInt64 = bn (nf_x k d)))) = true := by decide +kernel
  exact of_decide_eq_true (List.all_eq_true.mp (List.all_eq_true.mp c k (List.mem_range.mpr hk)) d (List.mem_range.mpr (by omega)))
theorem nu_leastFull_loop {k : Nat} (hk : k < 7) (m : qm_M) (e : Nat) : ∀ (f i : Nat), nf_d k - i = e → i ≤ nf_d k → e < f → L_Nu_leastFull_16 f (nI k) (bn (nf_x k 0)) (nI i) m = some (some (.long (bn (nf_x k (nf_d k)))), m) := by
  have h6 := nf_d6 hk
  induction e with
  | zero =>
    intro f i h1 h2 h3
    obtain ⟨f, rfl⟩ : ∃ g, f = g + 1 := ⟨f - 1, by omega⟩
    have e : i = nf_d k := by omega
    subst e
    show X_Nu_leastFull_16 _ _ _ _ _ _ = _
    unfold X_Nu_leastFull_16
    have e1 : nI (nf_d k) < (1000000 : Int32) := nI_lt (a := nf_d k) (b := 1000000) (by omega) (by omega)
    have e2 : F_Nu_isFull (bn (nf_x k (nf_d k))) (nI k) m = some (some (.int 1), m) := nu_isFull_yes_loop hk (fun i hi => nf_yes hk hi) m (nw_pn k) 1000000 0 rfl (Nat.zero_le _) (by have := nw_pn_le k; omega)
    rw [if_pos e1, nf_add hk (by omega), e2]
    dsimp only [qe_rI]
    rw [if_neg (by decide)]
  | succ e ih =>
    intro f i h1 h2 h3
    obtain ⟨f, rfl⟩ : ∃ g, f = g + 1 := ⟨f - 1, by omega⟩
    show X_Nu_leastFull_16 _ _ _ _ _ _ = _
    unfold X_Nu_leastFull_16
    have e1 : nI i < (1000000 : Int32) := nI_lt (a := i) (b := 1000000) (by omega) (by omega)
    rw [if_pos e1, nf_add hk (by omega), nu_isFull_no hk (nf_d0 hk (by omega)) (nf_no hk (by omega))]
    dsimp only [qe_rI]
    rw [if_pos rfl, nI_1]
    exact ih f (i + 1) (by omega) (by omega) (by omega)
theorem nf_first {k : Nat} (hk : k < 6) : qo_lshl 1 (qo_ishl 1 (nI k)) = bn (nf_x (k + 1) 0) := by
  have c : (List.range 6).all (fun k => decide (qo_lshl 1 (qo_ishl 1 (nI k)) = bn (nf_x (k + 1) 0))) = true := by decide +kernel
  exact of_decide_eq_true (List.all_eq_true.mp c k (List.mem_range.mpr hk))
theorem nu_leastFull {k : Nat} (hk : k < 7) (m : qm_M) : F_Nu_leastFull (nI k) m = some (some (.long (bn (nf_x k (nf_d k)))), m) := by
  unfold F_Nu_leastFull X_Nu_leastFull_e
  cases k with
  | zero =>
    rw [if_neg (by decide)]
    rfl
  | succ k =>
    have e1 : (0 : Int32) < nI (k + 1) := nI_lt (a := 0) (b := k + 1) (by omega) (by omega)
    rw [if_pos e1, nI_pred, nf_first (by omega)]
    exact nu_leastFull_loop hk m (nf_d (k + 1)) 1000000 0 rfl (Nat.zero_le _) (by have := nf_d6 hk; omega)
def nf_a : Nat → Int64
  | 0 => 1
  | i + 1 => nf_a i * (bn (BitVec.ofNat 64 (nw_p i)) - 1)
theorem nu_fullCount_loop {k : Nat} (hk : k < 7) (m : qm_M) (d : Nat) : ∀ (f i : Nat), nw_pn k - i = d → i ≤ nw_pn k → d < f → L_Nu_fullCount_4 f (nI k) (nf_a i) (nI i) m = some (some (.long (nf_a (nw_pn k))), m) := by
  have h7 := nw_pn_le k
  induction d with
  | zero =>
    intro f i h1 h2 h3
    obtain ⟨f, rfl⟩ : ∃ g, f = g + 1 := ⟨f - 1, by omega⟩
    have e : i = nw_pn k := by omega
    subst e
    show X_Nu_fullCount_4 _ _ _ _ _ _ = _
    unfold X_Nu_fullCount_4
    rw [nu_primesIn hk]
    dsimp only [qe_rI]
    rw [if_neg (nI_nlt (Nat.le_refl _) (by omega))]
  | succ d ih =>
    intro f i h1 h2 h3
    obtain ⟨f, rfl⟩ : ∃ g, f = g + 1 := ⟨f - 1, by omega⟩
    show X_Nu_fullCount_4 _ _ _ _ _ _ = _
    unfold X_Nu_fullCount_4
    rw [nu_primesIn hk]
    dsimp only [qe_rI]
    have e2 : qm_gL m 1000002 (nI i).toNatClampNeg = bn (BitVec.ofNat 64 (nw_p i)) := nb_inj (no_prm m (by omega))
    rw [if_pos (nI_lt (by omega) (by omega)), qm_in_nI (by omega) (by omega), e2, nI_1]
    exact ih f (i + 1) (by omega) (by omega) (by omega)
/-! the model -/
def nf_set (k : Nat) : Nat := [0, 1, 3, 7, 15, 47, 127].getD k 0
theorem nf_set_ok {k : Nat} (hk : k < 7) : nf_set k < 128 ∧ ∀ m, F_M_primesOf (nI k) m = some (some (.int (nI (nf_set k))), m) := by
  refine ⟨?_, fun m => ?_⟩
  · have c : (List.range 7).all (fun k => decide (nf_set k < 128)) = true := by decide +kernel
    exact of_decide_eq_true (List.all_eq_true.mp c k (List.mem_range.mpr hk))
  · unfold F_M_primesOf X_M_primesOf_e
    have c : (List.range 7).all (fun k => decide ((if nI k < 4 then qo_ishl 1 (nI k) - 1 else if nI k = 4 then 15 else if nI k = 5 then 47 else 127) = nI (nf_set k))) = true := by decide +kernel
    have c1 := of_decide_eq_true (List.all_eq_true.mp c k (List.mem_range.mpr hk))
    rw [← c1]
    repeat' split
    all_goals rfl
theorem nf_set_wo {k j : Nat} (hk : k < 7) (hj : j < 7) (h : (nf_set k).testBit j = true) : nq_p j < nw_pn k ∧ nq_mk (nq_rm (nf_set k) j) 7 = nw_wo (nq_p j) (nw_pn k) := by
  have c : (List.range 7).all (fun k => (List.range 7).all (fun j => decide ((nf_set k).testBit j = true → nq_p j < nw_pn k ∧ nq_mk (nq_rm (nf_set k) j) 7 = nw_wo (nq_p j) (nw_pn k)))) = true := by decide +kernel
  exact of_decide_eq_true (List.all_eq_true.mp (List.all_eq_true.mp c k (List.mem_range.mpr hk)) j (List.mem_range.mpr hj)) h
theorem nf_set_0 {k : Nat} (hk : k < 7) (h : 0 < nw_pn k) : (nf_set k).testBit 0 = true := by
  have c : (List.range 7).all (fun k => decide (0 < nw_pn k → (nf_set k).testBit 0 = true)) = true := by decide +kernel
  exact of_decide_eq_true (List.all_eq_true.mp c k (List.mem_range.mpr hk)) h
theorem mt_isFull_step {m : qm_M} (hm : nt_ok 64 m) (hp : np_ok m) {k j : Nat} (hk : k < 7) (hj : j < 7) (x : nb_F) (f : Nat) : L_M_isFull_3 (f + 1) (bn x) (nI (nf_set k)) (nI j) m = if (nf_set k).testBit j = true ∧ nb_pow (nw_wo (nq_p j) (nw_pn k)) x = 1 then some (some (.int 0), m) else L_M_isFull_3 f (bn x) (nI (nf_set k)) (nI (j + 1)) m := by
  show X_M_isFull_3 _ _ _ _ _ _ _ _ = _
  unfold X_M_isFull_3
  have hs := (nf_set_ok hk).1
  have e1 : nI j < (7 : Int32) := nI_lt (a := j) (b := 7) (by omega) (by omega)
  rw [if_pos e1, mt_hasI hs hj]
  dsimp only [qe_rI]
  rw [nI_1]
  by_cases q : (nf_set k).testBit j = true
  · have hR := (nq_rm_ok hs hj).1
    rw [if_pos q, if_neg (by decide), nq_rm_mask hs hj, mt_madeOf hp hR]
    dsimp only [qe_rL]
    rw [mt_powerOf hm, nb_bn, nb_bn]
    dsimp only [qe_rL]
    rw [BitVec.toNat_ofNat, Nat.mod_eq_of_lt (nq_le hR (by omega)), (nf_set_wo hk hj q).2]
    by_cases z : nb_pow (nw_wo (nq_p j) (nw_pn k)) x = 1
    · have c : lg_cmp (bn (nb_pow (nw_wo (nq_p j) (nw_pn k)) x)) 1 = 0 := (no_cmpo _).mpr z
      rw [if_pos c, if_pos ⟨q, z⟩]
    · have c : ¬ lg_cmp (bn (nb_pow (nw_wo (nq_p j) (nw_pn k)) x)) 1 = 0 := fun y => z ((no_cmpo _).mp y)
      rw [if_neg c, if_neg (fun y => z y.2)]
  · rw [if_neg q, if_pos rfl, if_neg (fun y => q y.1)]
theorem mt_isFull_no {m : qm_M} (hm : nt_ok 64 m) (hp : np_ok m) {k : Nat} (hk : k < 7) (h0 : 0 < nw_pn k) {x : nb_F} (h : nb_pow (nw_wo 0 (nw_pn k)) x = 1) : F_M_isFull (bn x) (nI (nf_set k)) m = some (some (.int 0), m) := by
  unfold F_M_isFull X_M_isFull_e
  have := mt_isFull_step hm hp (j := 0) hk (by omega) x 999999
  rw [if_pos ⟨nf_set_0 hk h0, h⟩] at this
  exact this
theorem mt_isFull_yes_loop {m : qm_M} (hm : nt_ok 64 m) (hp : np_ok m) {k : Nat} (hk : k < 7) {x : nb_F} (h : ∀ i, i < nw_pn k → ¬ nb_pow (nw_wo i (nw_pn k)) x = 1) (d : Nat) : ∀ (f j : Nat), 7 - j = d → j ≤ 7 → d < f → L_M_isFull_3 f (bn x) (nI (nf_set k)) (nI j) m = some (some (.int 1), m) := by
  induction d with
  | zero =>
    intro f j h1 h2 h3
    obtain ⟨f, rfl⟩ : ∃ g, f = g + 1 := ⟨f - 1, by omega⟩
    have e : j = 7 := by omega
    subst e
    show X_M_isFull_3 _ _ _ _ _ _ _ _ = _
    unfold X_M_isFull_3
    rw [if_neg (by decide)]
  | succ d ih =>
    intro f j h1 h2 h3
    obtain ⟨f, rfl⟩ : ∃ g, f = g + 1 := ⟨f - 1, by omega⟩
    rw [mt_isFull_step hm hp hk (by omega), if_neg (fun y => h _ (nf_set_wo hk (by omega) y.1).1 y.2)]
    exact ih f (j + 1) (by omega) (by omega) (by omega)
theorem nf_succ {k d : Nat} (hk : k < 7) (hd : d ≤ 6) : bn (nf_x k d) + 1 = bn (nf_x k (d + 1)) := by
  have c : (List.range 7).all (fun k => (List.range 7).all (fun d => decide (bn (nf_x k d) + 1 = bn (nf_x k (d + 1))))) = true := by decide +kernel
  exact of_decide_eq_true (List.all_eq_true.mp (List.all_eq_true.mp c k (List.mem_range.mpr hk)) d (List.mem_range.mpr (by omega)))
theorem mt_least_loop {m : qm_M} (hm : nt_ok 64 m) (hp : np_ok m) {k : Nat} (hk : k < 7) (e : Nat) : ∀ (f i : Nat), nf_d k - i = e → i ≤ nf_d k → e < f → L_M_full_52 f (nI (nf_set k)) (bn (nf_x k i)) m = some (some (.long (bn (nf_x k (nf_d k)))), m) := by
  have h6 := nf_d6 hk
  induction e with
  | zero =>
    intro f i h1 h2 h3
    obtain ⟨f, rfl⟩ : ∃ g, f = g + 1 := ⟨f - 1, by omega⟩
    have e : i = nf_d k := by omega
    subst e
    show X_M_full_52 _ _ _ _ _ _ _ _ = _
    unfold X_M_full_52
    have e2 : F_M_isFull (bn (nf_x k (nf_d k))) (nI (nf_set k)) m = some (some (.int 1), m) := mt_isFull_yes_loop hm hp hk (fun i hi => nf_yes hk hi) 7 1000000 0 rfl (Nat.zero_le _) (by omega)
    rw [e2]
    dsimp only [qe_rI]
    rw [if_neg (by decide)]
  | succ e ih =>
    intro f i h1 h2 h3
    obtain ⟨f, rfl⟩ : ∃ g, f = g + 1 := ⟨f - 1, by omega⟩
    show X_M_full_52 _ _ _ _ _ _ _ _ = _
    unfold X_M_full_52
    rw [mt_isFull_no hm hp hk (nf_d0 hk (by omega)) (nf_no hk (by omega))]
    dsimp only [qe_rI]
    rw [if_pos rfl, nf_succ hk (by omega)]
    exact ih f (i + 1) (by omega) (by omega) (by omega)
def nf_b (s : Nat) : Nat → Int64
  | 0 => 1
  | i + 1 => if s.testBit i then nf_b s i * (bn (BitVec.ofNat 64 (nq i)) - 1) else nf_b s i
theorem mt_count_loop {m : qm_M} (hp : np_ok m) {s : Nat} (hs : s < 128) (d : Nat) : ∀ (f i : Nat), 7 - i = d → i ≤ 7 → d < f → L_M_full_80 f (nI s) (nf_b s i) (nI i) m = some (some (.long (nf_b s 7)), m) := by
  induction d with
  | zero =>
    intro f i h1 h2 h3
    obtain ⟨f, rfl⟩ : ∃ g, f = g + 1 := ⟨f - 1, by omega⟩
    have e : i = 7 := by omega
    subst e
    show X_M_full_80 _ _ _ _ _ _ _ _ _ = _
    unfold X_M_full_80
    rw [if_neg (by decide)]
  | succ d ih =>
    intro f i h1 h2 h3
    obtain ⟨f, rfl⟩ : ∃ g, f = g + 1 := ⟨f - 1, by omega⟩
    show X_M_full_80 _ _ _ _ _ _ _ _ _ = _
    unfold X_M_full_80
    have e1 : nI i < (7 : Int32) := nI_lt (a := i) (b := 7) (by omega) (by omega)
    have ih2 := ih f (i + 1) (by omega) (by omega) (by omega)
    rw [if_pos e1, mt_hasI hs (by omega)]
    dsimp only [qe_rI]
    rw [nI_1]
    by_cases q : s.testBit i = true
    · rw [show nf_b s (i + 1) = nf_b s i * (bn (BitVec.ofNat 64 (nq i)) - 1) by simp only [nf_b, q, if_true]] at ih2
      rw [if_pos q, if_neg (by decide), qm_in_nI (by omega) (by omega), nI_clamp (by omega), hp i (by omega)]
      exact ih2
    · rw [show nf_b s (i + 1) = nf_b s i by simp only [nf_b, q]; rfl] at ih2
      rw [if_neg q, if_pos rfl]
      exact ih2
theorem nf_ab {k : Nat} (hk : k < 7) : nf_b (nf_set k) 7 = nf_a (nw_pn k) := by
  have c : (List.range 7).all (fun k => decide (nf_b (nf_set k) 7 = nf_a (nw_pn k))) = true := by decide +kernel
  exact of_decide_eq_true (List.all_eq_true.mp c k (List.mem_range.mpr hk))
/-- the least full one (0), how many (1) -/
def nw_full (k w : Int32) : Int64 := if k < 0 then -1 else if 6 < k then -1 else if w < 0 then -1 else if 1 < w then -1 else
  if w = 0 then bn (nf_x k.toNatClampNeg (nf_d k.toNatClampNeg)) else nf_a (nw_pn k.toNatClampNeg)
theorem tw_full (k w : Int32) (m : qm_M) : F_T_full k w m = some (some (.long (nw_full k w)), m) := by
  unfold F_T_full X_T_full_e nw_full
  by_cases h1 : k < 0
  · rw [if_pos h1, if_pos h1]
  · by_cases h2 : 6 < k
    · rw [if_neg h1, if_neg h1, if_pos h2, if_pos h2]
    · by_cases h3 : w < 0
      · rw [if_neg h1, if_neg h1, if_neg h2, if_neg h2, if_pos h3, if_pos h3]
      · by_cases h4 : 1 < w
        · rw [if_neg h1, if_neg h1, if_neg h2, if_neg h2, if_neg h3, if_neg h3, if_pos h4, if_pos h4]
        · rw [if_neg h1, if_neg h1, if_neg h2, if_neg h2, if_neg h3, if_neg h3, if_neg h4, if_neg h4]
          obtain ⟨j, hj, rfl⟩ := nw_ex k h1
          have hj7 : j < 7 := by
            by_cases q : j < 7
            · exact q
            · exact absurd (nI_lt (a := 6) (b := j) (by omega) hj) h2
          rw [nI_clamp hj]
          by_cases h5 : w = 0
          · rw [if_pos h5, if_pos h5, nu_leastFull hj7]
            rfl
          · rw [if_neg h5, if_neg h5]
            unfold F_Nu_fullCount X_Nu_fullCount_e
            have := nu_fullCount_loop hj7 m (nw_pn j) 1000000 0 rfl (Nat.zero_le _) (by have := nw_pn_le j; omega)
            rw [show L_Nu_fullCount_4 1000000 (nI j) 1 0 m = some (some (.long (nf_a (nw_pn j))), m) from this]
            rfl
theorem mw_full {m : qm_M} (hm : nt_ok 64 m) (hp : np_ok m) (k w : Int32) : F_M_full k w m = some (some (.long (nw_full k w)), m) := by
  unfold F_M_full X_M_full_e nw_full
  have ei := mt_isInI k 0 6 m
  have ew := mt_isInI w 0 1 m
  rw [show (0 : Int32).toInt64 = 0 from rfl, show (6 : Int32).toInt64 = 6 from rfl] at ei
  rw [show (0 : Int32).toInt64 = 0 from rfl, show (1 : Int32).toInt64 = 1 from rfl] at ew
  rw [ei]
  dsimp only [qe_rI]
  by_cases h1 : k < 0
  · rw [if_pos h1, if_pos rfl, if_pos h1]
  · by_cases h2 : 6 < k
    · rw [if_neg h1, if_pos h2, if_pos rfl, if_neg h1, if_pos h2]
    · rw [if_neg h1, if_neg h2, if_neg (by decide), if_neg h1, if_neg h2, ew]
      dsimp only [qe_rI]
      by_cases h3 : w < 0
      · rw [if_pos h3, if_pos rfl, if_pos h3]
      · by_cases h4 : 1 < w
        · rw [if_neg h3, if_pos h4, if_pos rfl, if_neg h3, if_pos h4]
        · rw [if_neg h3, if_neg h4, if_neg (by decide), if_neg h3, if_neg h4]
          obtain ⟨j, hj, rfl⟩ := nw_ex k h1
          have hj7 : j < 7 := by
            by_cases q : j < 7
            · exact q
            · exact absurd (nI_lt (a := 6) (b := j) (by omega) hj) h2
          rw [nI_clamp hj, (nf_set_ok hj7).2]
          dsimp only [qe_rI]
          by_cases h5 : w = 0
          · rw [if_pos h5, if_pos h5]
            have h := mt_least_loop hm hp hj7 (nf_d j) 1000000 0 rfl (Nat.zero_le _) (by have := nf_d6 hj7; omega)
            cases j with
            | zero =>
              rw [if_pos (show nI 0 = 0 from rfl)]
              exact h
            | succ j =>
              rw [if_neg (nI_ne0 (by omega) (by omega)), nI_pred, nf_first (by omega)]
              exact h
          · rw [if_neg h5, if_neg h5, ← nf_ab hj7]
            exact mt_count_loop hp (nf_set_ok hj7).1 7 1000000 0 rfl (by omega) (by omega)
