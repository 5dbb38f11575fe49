/-! halves: z with z times z and z together a; the class's -/
def nb_hv : Nat → nb_F → nb_F
  | 0, _ => 0
  | k + 1, a => if a = 0 then 0 else
    if ((a &&& nb_low k) ^^^ nb_T k (nb_hv k (a >>> (2 ^ k)) ^^^ (a >>> (2 ^ k)))).getLsbD (2 ^ k - 1) then
      ((nb_hv k (a >>> (2 ^ k)) ^^^ 1) <<< (2 ^ k)) ||| nb_hv k (((a &&& nb_low k) ^^^ nb_T k (nb_hv k (a >>> (2 ^ k)) ^^^ (a >>> (2 ^ k)))) ^^^ nb_e (2 ^ k - 1))
    else (nb_hv k (a >>> (2 ^ k)) <<< (2 ^ k)) ||| nb_hv k ((a &&& nb_low k) ^^^ nb_T k (nb_hv k (a >>> (2 ^ k)) ^^^ (a >>> (2 ^ k))))
theorem nb_hv_s (k : Nat) (a : nb_F) : nb_hv (k + 1) a = (if a = 0 then 0 else
    if ((a &&& nb_low k) ^^^ nb_T k (nb_hv k (a >>> (2 ^ k)) ^^^ (a >>> (2 ^ k)))).getLsbD (2 ^ k - 1) then
      ((nb_hv k (a >>> (2 ^ k)) ^^^ 1) <<< (2 ^ k)) ||| nb_hv k (((a &&& nb_low k) ^^^ nb_T k (nb_hv k (a >>> (2 ^ k)) ^^^ (a >>> (2 ^ k)))) ^^^ nb_e (2 ^ k - 1))
    else (nb_hv k (a >>> (2 ^ k)) <<< (2 ^ k)) ||| nb_hv k ((a &&& nb_low k) ^^^ nb_T k (nb_hv k (a >>> (2 ^ k)) ^^^ (a >>> (2 ^ k)))) : nb_F) := rfl
theorem nb_bit0 (r : nb_F) (k : Nat) : (r >>> k) &&& 1 = 0 ↔ r.getLsbD k = false := by
  rw [nb_low1]
  have e : (r >>> k).getLsbD 0 = r.getLsbD k := by rw [BitVec.getLsbD_ushiftRight, Nat.add_zero]
  rw [e]
  cases r.getLsbD k
  · simp
  · simp
theorem nb_or {k : Nat} (p : nb_F) {q : nb_F} (hq : nb_in k q) : (p <<< (2 ^ k)) ||| q = (p <<< (2 ^ k)) ^^^ q := by
  ext i hi
  rw [BitVec.getElem_or, BitVec.getElem_xor]
  by_cases h : i < 2 ^ k
  · have e : (p <<< (2 ^ k))[i] = false := by rw [BitVec.getElem_shiftLeft]; simp [h]
    rw [e]; simp
  · rw [nb_in_bit.mp hq i hi (by omega)]; simp
theorem nb_T_in {k : Nat} (hk : k < 6) {x : nb_F} (hx : nb_in k x) : nb_in k (nb_T k x) := by
  rw [nb_T_mul k hk, nb_T1 k hk]
  exact nb_in_mul (by omega) (nb_e_in (by have : 0 < 2 ^ k := Nat.pow_pos (by decide); omega)) hx
theorem nb_hv_id (F p q l h t : nb_F) (h1 : nb_mul F F = F ^^^ t) (h2 : nb_sq p ^^^ p = h) (h3 : nb_sq q ^^^ q = l ^^^ nb_mul t (p ^^^ h)) : nb_sq (nb_mul F p ^^^ q) ^^^ (nb_mul F p ^^^ q) = l ^^^ nb_mul F h := by
  letI := nb_RI
  haveI := nb_RC
  exact (show ∀ F p q l h t : nb_R, F * F = F + t → p * p + p = h → q * q + q = l + t * (p + h) → (F * p + q) * (F * p + q) + (F * p + q) = l + F * h by intros; grind) F p q l h t h1 h2 h3
theorem nb_sq_p1 (p : nb_F) : nb_sq (p ^^^ 1) ^^^ (p ^^^ 1) = nb_sq p ^^^ p := by
  letI := nb_RI
  haveI := nb_RC
  exact (show ∀ p : nb_R, (p + 1) * (p + 1) + (p + 1) = p * p + p by intros; grind) p
theorem nb_FF (k : Nat) (hk : k < 6) : nb_mul (nb_e (2 ^ k)) (nb_e (2 ^ k)) = nb_e (2 ^ k) ^^^ nb_T k 1 := by
  have e := nb_LL k hk 1
  rw [nb_L_mul k hk 1, nb_mul_1, nb_L_mul k hk] at e
  exact e
theorem nb_hv_ok : ∀ k, k < 7 → ∀ a, nb_in k a → a.getLsbD (2 ^ k - 1) = false → nb_in k (nb_hv k a) ∧ nb_sq (nb_hv k a) ^^^ nb_hv k a = a ∧ (nb_hv k a).getLsbD 0 = false
  | 0, _, a, ha, h0 => by
    have e : a = 0 := by
      rcases nb_in0 ha with q | q
      · exact q
      · rw [q] at h0; exact absurd h0 (by decide)
    subst e
    exact ⟨nb_in_zero 0, by decide +kernel, by decide⟩
  | k + 1, hk, a, ha, h0 => by
    have hk6 : k < 6 := by omega
    have hp1 : 0 < 2 ^ k := Nat.pow_pos (by decide)
    have hp2 : 2 ^ (k + 1) = 2 ^ k + 2 ^ k := by rw [Nat.pow_succ]; omega
    rw [nb_hv_s]
    by_cases hz : a = 0
    · rw [if_pos hz, hz]
      exact ⟨nb_in_zero _, by decide +kernel, by decide⟩
    · rw [if_neg hz]
      have hs := nb_split k hk6 a ha
      have hl := nb_lo_in k hk6 a ha
      have hh := nb_hi_in k hk6 a ha
      have hb : (a >>> (2 ^ k)).getLsbD (2 ^ k - 1) = false := by
        rw [BitVec.getLsbD_ushiftRight, show 2 ^ k + (2 ^ k - 1) = 2 ^ (k + 1) - 1 by omega]
        exact h0
      generalize a &&& nb_low k = l at hs hl ⊢
      generalize a >>> (2 ^ k) = h at hs hh hb ⊢
      obtain ⟨i1, i2, i3⟩ := nb_hv_ok k (by omega) h hh hb
      generalize nb_hv k h = p at i1 i2 i3 ⊢
      have ht : nb_in k (l ^^^ nb_T k (p ^^^ h)) := nb_in_add hl (nb_T_in hk6 (nb_in_add i1 hh))
      have hT := nb_T_mul k hk6 (p ^^^ h)
      have hT1 := nb_T1 k hk6
      have hF := nb_FF k hk6
      rw [nb_L_mul k hk6] at hs
      have fin : ∀ p q : nb_F, nb_in k p → nb_in k q → nb_sq p ^^^ p = h → nb_sq q ^^^ q = l ^^^ nb_mul (nb_T k 1) (p ^^^ h) → q.getLsbD 0 = false →
          nb_in (k + 1) (p <<< (2 ^ k) ||| q) ∧ nb_sq (p <<< (2 ^ k) ||| q) ^^^ (p <<< (2 ^ k) ||| q) = a ∧ (p <<< (2 ^ k) ||| q).getLsbD 0 = false := by
        intro p q j1 j2 j3 j4 j5
        rw [nb_or p j2, ← nb_L_shl k hk6 p j1]
        refine ⟨nb_in_add (nb_L_in (by omega) (by omega) (nb_in_up j1)) (nb_in_up j2), ?_, ?_⟩
        · rw [nb_L_mul k hk6, nb_hv_id _ p q l h _ hF j3 j4, hs]
        · rw [nb_L_shl k hk6 p j1, BitVec.getLsbD_xor, j5, BitVec.getLsbD_shiftLeft]
          simp [hp1]
      by_cases hc : (l ^^^ nb_T k (p ^^^ h)).getLsbD (2 ^ k - 1) = true
      · rw [if_pos hc]
        have hin : nb_in k ((l ^^^ nb_T k (p ^^^ h)) ^^^ nb_e (2 ^ k - 1)) := nb_in_add ht (nb_e_in (by omega))
        have hbit : ((l ^^^ nb_T k (p ^^^ h)) ^^^ nb_e (2 ^ k - 1)).getLsbD (2 ^ k - 1) = false := by
          have h64 : 2 ^ k - 1 < 64 := by have := no_p2 hk6; omega
          rw [BitVec.getLsbD_xor, hc, BitVec.getLsbD_eq_getElem h64, nb_e_bit _ _ h64]
          simp
        obtain ⟨q1, q2, q3⟩ := nb_hv_ok k (by omega) _ hin hbit
        refine fin (p ^^^ 1) _ (nb_in_add i1 (nb_in_one k)) q1 ((nb_sq_p1 p).trans i2) (q2.trans ?_) q3
        rw [hT, ← hT1, nb_mul_add, nb_mul_add, nb_mul_add, nb_mul_1]
        generalize nb_mul (nb_T k 1) p = u
        generalize nb_mul (nb_T k 1) h = v
        generalize nb_T k 1 = w
        ext i hi
        simp only [BitVec.getElem_xor]
        cases l[i] <;> cases u[i] <;> cases v[i] <;> cases w[i] <;> rfl
      · rw [if_neg hc]
        obtain ⟨q1, q2, q3⟩ := nb_hv_ok k (by omega) _ ht (by simpa using hc)
        exact fin p _ i1 q1 i2 (q2.trans (by rw [hT])) q3
/-! the class computes it -/
theorem no_cmp0b (x : nb_F) (k : Nat) (hk : k < 64) : (lg_cmp (qo_lushr (bn x) (nI k) &&& 1) 0 = 0) ↔ x.getLsbD k = false := by
  rw [no_cmpz, no_and, no_lushr _ hk]
  exact nb_bit0 x k
theorem no_lshl1 {k : Nat} (hk : k < 64) : qo_lshl 1 (nI k) = bn (nb_e k) := nb_inj (no_lshl _ hk)
theorem nu_halvedN : ∀ (n k : Nat), k ≤ 6 → k < n → ∀ (x : Int64) (m : qm_M), F_Nu_halvedIn n x (nI k) m = some (some (.long (bn (nb_hv k (nb x)))), m)
  | 0, k, _, h, _, _ => absurd h (Nat.not_lt_zero _)
  | n + 1, k, hk, h, x, m => by
    show X_Nu_halvedIn_e (F_Nu_halvedIn n) (F_Nu_toppedBy 10) (L_Nu_halvedIn_91 (F_Nu_halvedIn n)) x (nI k) m = _
    unfold X_Nu_halvedIn_e
    cases k with
    | zero =>
      have e : ¬ (0 : Int32) < nI 0 := by decide
      rw [if_neg e]
      split <;> rfl
    | succ k =>
      have hk6 : k < 6 := by omega
      rw [nb_hv_s]
      by_cases h0 : nb x = 0
      · rw [if_pos ((no_cmpz x).mpr h0), if_pos h0]
        rfl
      · have e1 : (0 : Int32) < nI (k + 1) := nI_lt (a := 0) (b := k + 1) (by omega) (by omega)
        have e2 : ¬ (6 : Int32) < nI (k + 1) := nI_nlt (a := 6) (b := k + 1) (by omega) (by omega)
        rw [if_neg (fun q => h0 ((no_cmpz x).mp q)), if_neg h0, if_pos e1, if_neg e2]
        dsimp only
        have sh : qo_lushr x (nI (2 ^ k)) = bn (nb x >>> (2 ^ k)) := nb_inj (no_lushr x (no_p2 hk6))
        rw [nI_pred, no_ishl1 (by omega), sh, nu_halvedN n k (by omega) (by omega), qm_in_nI hk6 (by omega)]
        dsimp only [qe_rL, qe_b, cond_true]
        rw [nu_toppedBy (by omega)]
        dsimp only [qe_rL]
        rw [no_low m hk6]
        rw [nb_bn, show nb (bn (nb_hv k (nb x >>> (2 ^ k))) ^^^ bn (nb x >>> (2 ^ k))) = nb_hv k (nb x >>> (2 ^ k)) ^^^ (nb x >>> (2 ^ k)) from rfl]
        have et : (x &&& bn (nb_low k)) ^^^ bn (nb_T k (nb_hv k (nb x >>> (2 ^ k)) ^^^ (nb x >>> (2 ^ k)))) = bn ((nb x &&& nb_low k) ^^^ nb_T k (nb_hv k (nb x >>> (2 ^ k)) ^^^ (nb x >>> (2 ^ k)))) := rfl
        rw [et]
        generalize (nb x &&& nb_low k) ^^^ nb_T k (nb_hv k (nb x >>> (2 ^ k)) ^^^ (nb x >>> (2 ^ k))) = t
        generalize nb_hv k (nb x >>> (2 ^ k)) = p
        obtain ⟨w, hw⟩ : ∃ w, 2 ^ k = w + 1 := ⟨2 ^ k - 1, by have : 0 < 2 ^ k := Nat.pow_pos (by decide); omega⟩
        have h64 := no_p2 hk6
        have fin : ∀ (p t : nb_F), L_Nu_halvedIn_91 (F_Nu_halvedIn n) (nI (k + 1)) (nI (2 ^ k)) (bn p) (bn t) m = some (some (.long (bn (p <<< (2 ^ k) ||| nb_hv k t))), m) := by
          intro p t
          unfold L_Nu_halvedIn_91 X_Nu_halvedIn_91
          rw [nI_pred, nu_halvedN n k (by omega) (by omega)]
          dsimp only [qe_rL]
          rw [show qo_lshl (bn p) (nI (2 ^ k)) = bn (p <<< (2 ^ k)) from nb_inj (no_lshl _ h64)]
          rfl
        have e3 : nI (2 ^ k) - 1 = nI (2 ^ k - 1) := by rw [hw]; exact nI_pred w
        rw [e3]
        by_cases hc : t.getLsbD (2 ^ k - 1) = true
        · rw [if_neg (fun q => by rw [(no_cmp0b t _ (by omega)).mp q] at hc; cases hc), if_pos hc, no_lshl1 (by omega)]
          exact fin (p ^^^ 1) (t ^^^ nb_e (2 ^ k - 1))
        · rw [if_pos ((no_cmp0b t _ (by omega)).mpr (by simpa using hc)), if_neg hc]
          exact fin p t
theorem nu_hasHalf (x : Int64) (m : qm_M) : F_Nu_hasHalf x m = some (some (.int (if (nb x).getLsbD 63 = true then 0 else 1)), m) := by
  unfold F_Nu_hasHalf X_Nu_hasHalf_e
  have e : (lg_cmp x 0 < 0) ↔ (nb x).getLsbD 63 = true := by
    rw [lg_cmp_lt, Int64.lt_iff_toInt_lt]
    have h1 : (nb x).msb = (nb x).getLsbD 63 := BitVec.msb_eq_getLsbD_last _
    rw [← h1]
    have h2 := BitVec.msb_eq_toInt (x := nb x)
    rw [h2]
    simp
  by_cases h : (nb x).getLsbD 63 = true
  · rw [if_pos (e.mpr h), if_pos h]
  · rw [if_neg (fun q => h (e.mp q)), if_neg h]
/-- the lesser half, or 0 -/
def nw_half (a : nb_F) : nb_F := if a.getLsbD 63 = true then 0 else nb_hv 6 a
theorem nu_halved (x : Int64) (m : qm_M) : F_Nu_halved x m = some (some (.long (bn (nb_hv 6 (nb x)))), m) := by
  unfold F_Nu_halved X_Nu_halved_e
  rw [show (6 : Int32) = nI 6 from rfl, nu_halvedN 10 6 (by omega) (by omega)]
  dsimp only [qe_rL]
theorem tw_half (x : Int64) (m : qm_M) : F_T_half x m = some (some (.long (bn (nw_half (nb x)))), m) := by
  unfold F_T_half X_T_half_e nw_half
  rw [nu_hasHalf]
  dsimp only [qe_rI]
  by_cases h : (nb x).getLsbD 63 = true
  · rw [if_pos h, if_pos rfl, if_pos h]; rfl
  · rw [if_neg h, if_neg (by decide), if_neg h, nu_halved]
    rfl
