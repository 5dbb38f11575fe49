/-! the class's Numbers: what they are -/
abbrev nb (x : Int64) : nb_F := x.toBitVec
abbrev bn (x : nb_F) : Int64 := Int64.ofBitVec x
theorem nb_inj {x y : Int64} (h : nb x = nb y) : x = y := Int64.toBitVec_inj.1 h
theorem nb_bn (x : nb_F) : nb (bn x) = x := rfl
theorem nb_lr {k : Nat} (hk : k < 64) : ((nI k).toInt64.toUInt64 &&& Int64.toUInt64 63).toBitVec % 64 = BitVec.ofNat 64 k := by
  have h : (List.range 64).all (fun k => decide (((nI k).toInt64.toUInt64 &&& Int64.toUInt64 63).toBitVec % 64 = BitVec.ofNat 64 k)) = true := by decide +kernel
  exact of_decide_eq_true (List.all_eq_true.mp h k (List.mem_range.mpr hk))
theorem nb_ll {k : Nat} (hk : k < 64) : ((nI k).toInt64 &&& 63).toBitVec.smod 64 = BitVec.ofNat 64 k := by
  have h : (List.range 64).all (fun k => decide (((nI k).toInt64 &&& 63).toBitVec.smod 64 = BitVec.ofNat 64 k)) = true := by decide +kernel
  exact of_decide_eq_true (List.all_eq_true.mp h k (List.mem_range.mpr hk))
theorem no_lushr (x : Int64) {k : Nat} (hk : k < 64) : nb (qo_lushr x (nI k)) = nb x >>> k := by
  unfold qo_lushr nb
  rw [UInt64.toBitVec_toInt64, UInt64.toBitVec_shiftRight, nb_lr hk, Int64.toBitVec_toUInt64, BitVec.ushiftRight_eq', BitVec.toNat_ofNat, Nat.mod_eq_of_lt (by omega)]
theorem no_lshl (x : Int64) {k : Nat} (hk : k < 64) : nb (qo_lshl x (nI k)) = nb x <<< k := by
  unfold qo_lshl nb
  rw [Int64.toBitVec_shiftLeft, nb_ll hk, BitVec.shiftLeft_eq', BitVec.toNat_ofNat, Nat.mod_eq_of_lt (by omega)]
theorem no_ishl1 {k : Nat} (hk : k < 31) : qo_ishl 1 (nI k) = nI (2 ^ k) := by
  have h : (List.range 31).all (fun k => decide (qo_ishl 1 (nI k) = nI (2 ^ k))) = true := by decide +kernel
  exact of_decide_eq_true (List.all_eq_true.mp h k (List.mem_range.mpr hk))
theorem no_p2 {k : Nat} (hk : k < 6) : 2 ^ k < 64 := by
  have : 2 ^ k ≤ 2 ^ 5 := Nat.pow_le_pow_right (by decide) (by omega)
  omega
theorem no_low (m : qm_M) {k : Nat} (hk : k < 6) : qm_gL m 1000001 (nI k).toNatClampNeg = bn (nb_low k) := by
  rw [nI_clamp (by omega)]
  show qm_nth pm_low k 0 = _
  have h : (List.range 6).all (fun k => decide (qm_nth pm_low k 0 = bn (nb_low k))) = true := by decide +kernel
  exact of_decide_eq_true (List.all_eq_true.mp h k (List.mem_range.mpr hk))
theorem qm_in_nI {k n : Nat} (h : k < n) (hn : n < 2 ^ 31) : qm_in (nI k) n = true := by
  unfold qm_in
  have h1 : decide (nI k < 0) = false := decide_eq_false (nI_pos (by omega))
  rw [h1, cond_false, nI_clamp (by omega)]
  exact Nat.ble_eq_true_of_le h
theorem nb_x0 (x : nb_F) : x ^^^ 0 = x := BitVec.xor_zero
theorem no_xor (x y : Int64) : nb (x ^^^ y) = nb x ^^^ nb y := rfl
theorem no_and (x y : Int64) : nb (x &&& y) = nb x &&& nb y := rfl
theorem no_cmpz (x : Int64) : (lg_cmp x 0 = 0) ↔ nb x = 0 := by
  rw [lg_cmp_eq]
  exact ⟨fun h => by rw [h]; rfl, fun h => nb_inj h⟩
theorem no_cmpo (x : Int64) : (lg_cmp x 1 = 0) ↔ nb x = 1 := by
  rw [lg_cmp_eq]
  exact ⟨fun h => by rw [h]; rfl, fun h => nb_inj h⟩
/-! times F, times half of F -/
theorem nu_topped {R : Int64 → Int32 → qm_M → Option qm_R} {k : Nat} (hk : k < 7) (hR : ∀ j, j < k → ∀ x m, R x (nI j) m = some (some (.long (bn (nb_L j (nb x)))), m)) (x : nb_F) (m : qm_M) :
    ∀ (d f j : Nat), k - j = d → j ≤ k → d < f → L_Nu_toppedBy_5 R f (nI k) (bn (nb_T j x)) (nI j) m = some (some (.long (bn (nb_T k x))), m) := by
  intro d
  induction d with
  | zero =>
    intro f j h1 h2 h3
    obtain ⟨f, rfl⟩ : ∃ g, f = g + 1 := ⟨f - 1, by omega⟩
    have e : j = k := by omega
    subst e
    show X_Nu_toppedBy_5 _ _ _ _ _ _ = _
    unfold X_Nu_toppedBy_5
    rw [if_neg (nI_nlt (Nat.le_refl _) (by omega))]
  | succ d ih =>
    intro f j h1 h2 h3
    obtain ⟨f, rfl⟩ : ∃ g, f = g + 1 := ⟨f - 1, by omega⟩
    show X_Nu_toppedBy_5 _ _ _ _ _ _ = _
    unfold X_Nu_toppedBy_5
    rw [if_pos (nI_lt (by omega) (by omega)), hR j (by omega)]
    show L_Nu_toppedBy_5 R f (nI k) (bn (nb_L j (nb_T j x))) (nI j + 1) m = _
    rw [← nI_succ]
    exact ih f (j + 1) (by omega) (by omega) (by omega)
theorem nu_toppedB {R : Int64 → Int32 → qm_M → Option qm_R} {k : Nat} (hk : k < 7) (hR : ∀ j, j < k → ∀ x m, R x (nI j) m = some (some (.long (bn (nb_L j (nb x)))), m)) (x : Int64) (m : qm_M) : B_Nu_toppedBy R x (nI k) m = some (some (.long (bn (nb_T k (nb x)))), m) := by
  unfold B_Nu_toppedBy X_Nu_toppedBy_e
  exact nu_topped hk hR (nb x) m k 1000000 0 rfl (Nat.zero_le _) (by omega)
theorem nu_liftedN : ∀ (n k : Nat), k < 6 → k < n → ∀ (x : Int64) (m : qm_M), F_Nu_lifted n x (nI k) m = some (some (.long (bn (nb_L k (nb x)))), m)
  | 0, k, _, h, _, _ => absurd h (Nat.not_lt_zero _)
  | n + 1, k, hk, h, x, m => by
    show X_Nu_lifted_e (B_Nu_toppedBy (F_Nu_lifted n)) x (nI k) m = _
    have hT := fun x => nu_toppedB (R := F_Nu_lifted n) (k := k) (by omega) (fun j hj x m => nu_liftedN n j (by omega) (by omega) x m) x m
    have h5 : ¬ (5 : Int32) < nI k := nI_nlt (a := 5) (b := k) (by omega) (by omega)
    unfold X_Nu_lifted_e
    by_cases h0 : nb x = 0
    · rw [if_pos ((no_cmpz x).mpr h0), h0, nb_lin0 (nb_L_lin k), ← h0]
      rfl
    · rw [if_neg (fun q => h0 ((no_cmpz x).mp q)), if_neg (nI_pos (by omega)), if_neg h5, qm_in_nI hk (by omega), no_ishl1 (by omega), no_low m hk]
      dsimp only [qe_b, cond_true]
      rw [hT]
      dsimp only [qe_rL]
      congr 4
      apply nb_inj
      rw [no_xor, no_lshl _ (no_p2 hk), no_xor, no_and, no_lushr _ (no_p2 hk), no_and]
      rfl
theorem nu_lifted {k : Nat} (hk : k < 6) (x : Int64) (m : qm_M) : F_Nu_lifted 10 x (nI k) m = some (some (.long (bn (nb_L k (nb x)))), m) := nu_liftedN 10 k hk (by omega) x m
/-! halves -/
/-- below 2 to the 2 to the k -/
def nb_in (k : Nat) (x : nb_F) : Prop := nb_cut (2 ^ k) x = x
theorem nb_cut_lin (n : Nat) : nb_lin (nb_cut n) := nb_and _
theorem nb_by_cut {f g : nb_F → nb_F} (hf : nb_lin f) (hg : nb_lin g) {N : Nat} (h : (List.range N).all (fun i => decide (f (nb_e i) = g (nb_e i))) = true) {x : nb_F} (hx : nb_cut N x = x) : f x = g x := by
  have := nb_basis_lt hf hg (fun i hi => of_decide_eq_true (List.all_eq_true.mp h i (List.mem_range.mpr hi))) x N (Nat.le_refl _)
  rwa [hx] at this
theorem nb_k6 {P : Nat → Prop} (h0 : P 0) (h1 : P 1) (h2 : P 2) (h3 : P 3) (h4 : P 4) (h5 : P 5) : ∀ k, k < 6 → P k
  | 0, _ => h0
  | 1, _ => h1
  | 2, _ => h2
  | 3, _ => h3
  | 4, _ => h4
  | 5, _ => h5
  | k + 6, h => by omega
theorem nb_loF_lin (k : Nat) : nb_lin (fun y => y &&& nb_low k) := nb_and _
theorem nb_hiF_lin (k : Nat) : nb_lin (fun y => y >>> (2 ^ k)) := nb_shr _
theorem nb_LhF_lin (k : Nat) : nb_lin (fun y => nb_L k (y >>> (2 ^ k))) := fun x y => by
  show nb_L k ((x ^^^ y) >>> (2 ^ k)) = nb_L k (x >>> (2 ^ k)) ^^^ nb_L k (y >>> (2 ^ k))
  have h : (x ^^^ y) >>> (2 ^ k) = (x >>> (2 ^ k)) ^^^ (y >>> (2 ^ k)) := nb_shr (2 ^ k) x y
  rw [h, nb_L_lin]
theorem nb_spF_lin (k : Nat) : nb_lin (fun y => (y &&& nb_low k) ^^^ nb_L k (y >>> (2 ^ k))) := nb_sum (nb_loF_lin k) (nb_LhF_lin k)
theorem nb_cuF_lin {f : nb_F → nb_F} (n : Nat) (hf : nb_lin f) : nb_lin (fun y => nb_cut n (f y)) := fun x y => by
  show nb_cut n (f (x ^^^ y)) = nb_cut n (f x) ^^^ nb_cut n (f y)
  rw [hf, nb_cut_lin]
theorem nb_split : ∀ k, k < 6 → ∀ y, nb_in (k + 1) y → (y &&& nb_low k) ^^^ nb_L k (y >>> (2 ^ k)) = y :=
  nb_k6 (fun y h => nb_by_cut (nb_spF_lin 0) nb_idl (by decide +kernel) h) (fun y h => nb_by_cut (nb_spF_lin 1) nb_idl (by decide +kernel) h) (fun y h => nb_by_cut (nb_spF_lin 2) nb_idl (by decide +kernel) h)
    (fun y h => nb_by_cut (nb_spF_lin 3) nb_idl (by decide +kernel) h) (fun y h => nb_by_cut (nb_spF_lin 4) nb_idl (by decide +kernel) h) (fun y h => nb_by_cut (nb_spF_lin 5) nb_idl (by decide +kernel) h)
theorem nb_lo_in : ∀ k, k < 6 → ∀ y, nb_in (k + 1) y → nb_in k (y &&& nb_low k) :=
  nb_k6 (fun y h => nb_by_cut (nb_cuF_lin (2 ^ 0) (nb_loF_lin 0)) (nb_loF_lin 0) (by decide +kernel) h) (fun y h => nb_by_cut (nb_cuF_lin (2 ^ 1) (nb_loF_lin 1)) (nb_loF_lin 1) (by decide +kernel) h) (fun y h => nb_by_cut (nb_cuF_lin (2 ^ 2) (nb_loF_lin 2)) (nb_loF_lin 2) (by decide +kernel) h)
    (fun y h => nb_by_cut (nb_cuF_lin (2 ^ 3) (nb_loF_lin 3)) (nb_loF_lin 3) (by decide +kernel) h) (fun y h => nb_by_cut (nb_cuF_lin (2 ^ 4) (nb_loF_lin 4)) (nb_loF_lin 4) (by decide +kernel) h) (fun y h => nb_by_cut (nb_cuF_lin (2 ^ 5) (nb_loF_lin 5)) (nb_loF_lin 5) (by decide +kernel) h)
theorem nb_hi_in : ∀ k, k < 6 → ∀ y, nb_in (k + 1) y → nb_in k (y >>> (2 ^ k)) :=
  nb_k6 (fun y h => nb_by_cut (nb_cuF_lin (2 ^ 0) (nb_hiF_lin 0)) (nb_hiF_lin 0) (by decide +kernel) h) (fun y h => nb_by_cut (nb_cuF_lin (2 ^ 1) (nb_hiF_lin 1)) (nb_hiF_lin 1) (by decide +kernel) h) (fun y h => nb_by_cut (nb_cuF_lin (2 ^ 2) (nb_hiF_lin 2)) (nb_hiF_lin 2) (by decide +kernel) h)
    (fun y h => nb_by_cut (nb_cuF_lin (2 ^ 3) (nb_hiF_lin 3)) (nb_hiF_lin 3) (by decide +kernel) h) (fun y h => nb_by_cut (nb_cuF_lin (2 ^ 4) (nb_hiF_lin 4)) (nb_hiF_lin 4) (by decide +kernel) h) (fun y h => nb_by_cut (nb_cuF_lin (2 ^ 5) (nb_hiF_lin 5)) (nb_hiF_lin 5) (by decide +kernel) h)
theorem nb_in6 (x : nb_F) : nb_in 6 x := nb_cut_64 x
theorem nb_in0 {x : nb_F} (h : nb_in 0 x) : x = 0 ∨ x = 1 := by
  have h1 : nb_cut 1 x = x := h
  rw [nb_cut_succ, nb_cut_0] at h1
  by_cases hx : x.getLsbD 0 = true
  · rw [if_pos hx] at h1
    right
    rw [← h1]
    decide
  · rw [if_neg hx] at h1
    left
    rw [← h1]
    decide
/-! the product -/
theorem nu_sharedN : ∀ (n k : Nat), k ≤ 6 → k < n → ∀ (x y : Int64) (m : qm_M), nb_in k (nb y) → F_Nu_sharedOut n x y (nI k) m = some (some (.long (bn (nb_mul (nb x) (nb y)))), m)
  | 0, k, _, h, _, _, _, _ => absurd h (Nat.not_lt_zero _)
  | n + 1, k, hk, h, x, y, m, hy => by
    show X_Nu_sharedOut_e (F_Nu_sharedOut n) (F_Nu_lifted 10) x y (nI k) m = _
    unfold X_Nu_sharedOut_e
    by_cases h0 : nb y = 0
    · rw [if_pos ((no_cmpz y).mpr h0), h0, nb_mul_0]
      rfl
    · rw [if_neg (fun q => h0 ((no_cmpz y).mp q))]
      by_cases h1 : nb y = 1
      · rw [if_pos ((no_cmpo y).mpr h1), h1, nb_mul_1]
        rfl
      · rw [if_neg (fun q => h1 ((no_cmpo y).mp q))]
        cases k with
        | zero => rcases nb_in0 hy with q | q
                  · exact absurd q h0
                  · exact absurd q h1
        | succ k =>
          have hk6 : k < 6 := by omega
          have hp : (0 : Int32) < nI (k + 1) := nI_lt (a := 0) (b := k + 1) (by omega) (by omega)
          have hq : ¬ (6 : Int32) < nI (k + 1) := nI_nlt (a := 6) (b := k + 1) (by omega) (by omega)
          rw [if_pos hp, if_neg hq, nI_pred, no_ishl1 (by omega)]
          have hs := nb_split k hk6 (nb y) hy
          have e1 : nb (qo_lushr y (nI (2 ^ k))) = nb y >>> (2 ^ k) := no_lushr y (no_p2 hk6)
          dsimp only
          by_cases h2 : nb (qo_lushr y (nI (2 ^ k))) = 0
          · rw [if_pos ((no_cmpz _).mpr h2)]
            have hlo : nb_in k (nb y) := by
              have h3 := nb_lo_in k hk6 (nb y) hy
              rw [e1] at h2
              rw [h2, nb_lin0 (nb_L_lin k), nb_x0] at hs
              rwa [hs] at h3
            rw [nu_sharedN n k (by omega) (by omega) x y m hlo]
            rfl
          · rw [if_neg (fun q => h2 ((no_cmpz _).mp q)), qm_in_nI hk6 (by omega), no_low m hk6]
            dsimp only [qe_b, cond_true]
            rw [nu_sharedN n k (by omega) (by omega) x (y &&& bn (nb_low k)) m (nb_lo_in k hk6 (nb y) hy)]
            dsimp only [qe_rL]
            rw [nu_sharedN n k (by omega) (by omega) x _ m (by rw [e1]; exact nb_hi_in k hk6 (nb y) hy)]
            dsimp only [qe_rL]
            rw [nu_lifted hk6]
            dsimp only [qe_rL]
            congr 4
            apply nb_inj
            rw [no_xor, nb_bn, nb_bn, nb_bn, nb_bn, e1, ← nb_mul_com' (nb x) k hk6, ← nb_mul_add]
            congr 1
theorem nu_below (x y : Int64) (m : qm_M) : ∃ b : Int32, F_Nu_below x y m = some (some (.int b), m) := by
  unfold F_Nu_below X_Nu_below_e
  split
  · exact ⟨1, rfl⟩
  · exact ⟨0, rfl⟩
theorem nu_product (x y : Int64) (m : qm_M) : F_Nu_product x y m = some (some (.long (bn (nb_mul (nb x) (nb y)))), m) := by
  unfold F_Nu_product X_Nu_product_e
  obtain ⟨b, hb⟩ := nu_below x y m
  rw [hb]
  dsimp only [qe_rI]
  have h1 := nu_sharedN 10 6 (by omega) (by omega) x y m (nb_in6 _)
  have h2 := nu_sharedN 10 6 (by omega) (by omega) y x m (nb_in6 _)
  have e6 : (6 : Int32) = nI 6 := rfl
  rw [e6]
  split
  · rw [h1]; rfl
  · rw [h2, nb_comm]; rfl
