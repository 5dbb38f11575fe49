/-! halves: the model's -/
theorem no_lshr (x : Int64) {k : Nat} (hk : k < 64) : nb (qo_lshr x (nI k)) = (nb x).sshiftRight k := by
  unfold qo_lshr nb
  rw [Int64.toBitVec_shiftRight, nb_ll hk, BitVec.sshiftRight_eq', BitVec.toNat_ofNat, Nat.mod_eq_of_lt (by omega)]
theorem mt_has (v : Int64) {k : Nat} (hk : k < 64) (m : qm_M) : F_M_has v (nI k) m = some (some (.int (if (nb v).getLsbD k = true then 1 else 0)), m) := by
  unfold F_M_has X_M_has_e
  have e : (lg_cmp (qo_lshr v (nI k) &&& 1) 1 = 0) ↔ (nb v).getLsbD k = true := by
    rw [no_cmpo, no_and, no_lshr _ hk, nb_1l, nb_low1, BitVec.getLsbD_sshiftRight]
    have h1 : (nb v).getLsbD (k + 0) = (nb v).getLsbD k := rfl
    simp [hk]
  by_cases h : (nb v).getLsbD k = true
  · rw [if_pos (e.mpr h), if_pos h]
  · rw [if_neg (fun q => h (e.mp q)), if_neg h]
/-- h is the highest bit of v -/
def nb_hib (v : nb_F) (h : Nat) : Prop := h < 64 ∧ v.getLsbD h = true ∧ ∀ j, h < j → v.getLsbD j = false
theorem nb_hib_ex (v : nb_F) (n : Nat) : (∀ j, n ≤ j → v.getLsbD j = false) → v ≠ 0 → ∃ h, h < n ∧ nb_hib v h := by
  induction n with
  | zero =>
    intro h h0
    exact absurd (BitVec.eq_of_getLsbD_eq (fun i _ => by rw [h i (Nat.zero_le _)]; simp)) h0
  | succ n ih =>
    intro h h0
    by_cases q : v.getLsbD n = true
    · refine ⟨n, by omega, ?_, q, fun j hj => h j hj⟩
      rcases Nat.lt_or_ge n 64 with z | z
      · exact z
      · rw [BitVec.getLsbD_of_ge _ _ z] at q; cases q
    · obtain ⟨b, h1, h2⟩ := ih (fun j hj => by
        rcases Nat.lt_or_ge n j with z | z
        · exact h j z
        · have : j = n := by omega
          rw [this]; simpa using q) h0
      exact ⟨b, by omega, h2⟩
theorem mt_highest_loop {v : nb_F} {h : Nat} (hh : nb_hib v h) (m : qm_M) : ∀ (d f : Nat), h + d < 64 → d < f → L_M_highest_3 f (bn v) (nI (h + d)) m = some (some (.int (nI h)), m) := by
  intro d
  induction d with
  | zero =>
    intro f h1 h2
    obtain ⟨f, rfl⟩ : ∃ g, f = g + 1 := ⟨f - 1, by omega⟩
    show X_M_highest_3 _ _ _ _ _ = _
    unfold X_M_highest_3
    rw [Nat.add_zero, mt_has _ hh.1, nb_bn, if_pos hh.2.1]
    dsimp only [qe_rI]
    rw [if_neg (by decide)]
  | succ d ih =>
    intro f h1 h2
    obtain ⟨f, rfl⟩ : ∃ g, f = g + 1 := ⟨f - 1, by omega⟩
    show X_M_highest_3 _ _ _ _ _ = _
    unfold X_M_highest_3
    have e := hh.2.2 (h + (d + 1)) (by omega)
    rw [mt_has _ h1, nb_bn, if_neg (by rw [e]; decide)]
    dsimp only [qe_rI]
    rw [if_pos rfl, show h + (d + 1) = (h + d) + 1 by omega, pk_m1]
    exact ih f (by omega) (by omega)
theorem mt_highest {v : nb_F} {h : Nat} (hh : nb_hib v h) (m : qm_M) : F_M_highest (bn v) m = some (some (.int (nI h)), m) := by
  unfold F_M_highest X_M_highest_e
  have := mt_highest_loop hh m (63 - h) 1000000 (by have := hh.1; omega) (by omega)
  rw [show h + (63 - h) = 63 by have := hh.1; omega] at this
  exact this
theorem nb_hib_nz {v : nb_F} {h : Nat} (hh : nb_hib v h) : v ≠ 0 := fun q => by
  have := hh.2.1
  rw [q] at this
  simp at this
/-- what bit k tells -/
def nh_v (k : Nat) : nb_F := nb_sq (nb_e k) ^^^ nb_e k
theorem nh_v_hib {k : Nat} (h0 : 0 < k) (h : k < 64) : nb_hib (nh_v k) (k - 1) := by
  have c : (List.range 63).all (fun k => decide ((nb_sqA 6 (nb_e (k + 1)) ^^^ nb_e (k + 1)).getLsbD k = true) && (List.range 64).all (fun j => Nat.ble j k || decide ((nb_sqA 6 (nb_e (k + 1)) ^^^ nb_e (k + 1)).getLsbD j = false))) = true := by decide +kernel
  have c1 := List.all_eq_true.mp c (k - 1) (List.mem_range.mpr (by omega))
  obtain ⟨c2, c3⟩ := Bool.and_eq_true_iff.mp c1
  rw [show k - 1 + 1 = k by omega, nb_sqA_eq] at c2 c3
  refine ⟨by omega, of_decide_eq_true c2, fun j hj => ?_⟩
  by_cases q : j < 64
  · rcases Bool.or_eq_true_iff.mp (List.all_eq_true.mp c3 j (List.mem_range.mpr q)) with z | z
    · have := Nat.le_of_ble_eq_true z; omega
    · exact of_decide_eq_true z
  · exact BitVec.getLsbD_of_ge _ _ (by omega)
/-- the table of halves -/
def nh_ok (k : Nat) (m : qm_M) : Prop := ∀ h, h < 64 → m.2 120 h = (if h + 1 < k then bn (nh_v (h + 1)) else 0) ∧ (h + 1 < k → m.2 121 h = bn (nb_e (h + 1)))
abbrev nh_T (a : Nat) : Prop := a = 120 ∨ a = 121
abbrev no_S (_ : Nat) : Prop := False
theorem nI_65 {k : Nat} : (65 : Int32) * nI k = nI (65 * k) := pk_mul 65 k
theorem nt_ok.fr {S T : Nat → Prop} {m m1 : qm_M} {M : Nat} (h : nt_ok M m) (g : fr S T m m1) (hT : ¬ T 117) : nt_ok M m1 := fun a b ha hb => by
  rw [g.2 117 hT]
  exact h a b ha hb
theorem mt_lays23 {m0 : qm_M} (hm : nt_ok 64 m0) (d : Nat) : ∀ (f k : Nat) (m : qm_M), 64 - k = d → 0 < k → k ≤ 64 → d < f → nh_ok k m → fr no_S nh_T m0 m → ∃ m1, L_M_laysHalves_23 f (nI k) m = some (none, m1) ∧ nh_ok 64 m1 ∧ fr no_S nh_T m0 m1 := by
  induction d with
  | zero =>
    intro f k m h1 h0 h2 h3 hk g
    obtain ⟨f, rfl⟩ : ∃ g, f = g + 1 := ⟨f - 1, by omega⟩
    have e : k = 64 := by omega
    subst e
    refine ⟨m, ?_, hk, g⟩
    show X_M_laysHalves_23 _ _ _ _ = _
    unfold X_M_laysHalves_23
    rw [if_neg (by decide)]
  | succ d ih =>
    intro f k m h1 h0 h2 h3 hk g
    obtain ⟨f, rfl⟩ : ∃ g, f = g + 1 := ⟨f - 1, by omega⟩
    have hk64 : k < 64 := by omega
    have hh := nh_v_hib h0 hk64
    have hv : m.2 117 (65 * k) ^^^ qo_lshl 1 (nI k) = bn (nh_v k) := by
      rw [no_lshl1 hk64, g.2 117 (by decide), show 65 * k = 64 * k + k by omega, hm k k hk64 hk64, bn_xor, nb_M_mul k hk64]
      rfl
    have hc0 : m.2 120 (k - 1) = 0 := by rw [(hk (k - 1) (by omega)).1, if_neg (by omega)]
    have key : L_M_laysHalves_23 (f + 1) (nI k) m = L_M_laysHalves_23 f (nI (k + 1)) (qm_sL (qm_sL m 120 (k - 1) (bn (nh_v k))) 121 (k - 1) (bn (nb_e k))) := by
      show X_M_laysHalves_23 _ (L_M_laysHalves_48 (L_M_laysHalves_23 f) (999999 + 1)) _ _ = _
      unfold X_M_laysHalves_23
      have e1 : nI k < (64 : Int32) := nI_lt (a := k) (b := 64) (by omega) (by omega)
      rw [if_pos e1, nI_65, qm_in_nI (by omega) (by omega), nI_clamp (by omega), hv, no_lshl1 hk64]
      dsimp only [qe_b, cond_true]
      generalize 999999 = ff
      show X_M_laysHalves_48 _ _ _ _ _ _ _ = _
      unfold X_M_laysHalves_48
      have nz : ¬ lg_cmp (bn (nh_v k)) 0 = 0 := fun q => nb_hib_nz hh ((no_cmpz _).mp q)
      rw [if_neg nz, mt_highest hh]
      dsimp only [qe_rI]
      rw [qm_in_nI (by omega) (by omega), nI_clamp (by omega), hc0]
      dsimp only [qe_b, cond_true]
      rw [if_pos ((no_cmpz 0).mpr rfl)]
      show X_M_laysHalves_99 _ _ _ _ _ _ = _
      unfold X_M_laysHalves_99
      rw [if_neg nz, mt_highest hh]
      dsimp only [qe_rI]
      rw [qm_in_nI (by omega) (by omega), nI_clamp (by omega)]
      dsimp only [qe_b, cond_true]
      rw [mt_highest hh]
      dsimp only [qe_rI]
      rw [qm_in_nI (by omega) (by omega), nI_clamp (by omega), nI_1]
      dsimp only [qe_b, cond_true]
    rw [key]
    refine ih f (k + 1) _ (by omega) (by omega) (by omega) (by omega) (fun h hh => ?_) ((g.sL (Or.inl rfl)).sL (Or.inr rfl))
    have hp := hk h hh
    refine ⟨?_, fun hl => ?_⟩
    · rw [me_2L, if_neg (by decide), me_2L, if_pos rfl, hp.1]
      by_cases q : h = k - 1
      · rw [if_pos q, if_pos (by omega), q, show k - 1 + 1 = k by omega]
      · rw [if_neg q]
        by_cases z : h + 1 < k
        · rw [if_pos z, if_pos (by omega)]
        · rw [if_neg z, if_neg (by omega)]
    · rw [me_2L, if_pos rfl]
      by_cases q : h = k - 1
      · rw [if_pos q, q, show k - 1 + 1 = k by omega]
      · rw [if_neg q, me_2L, if_neg (by decide)]
        exact hp.2 (by omega)
theorem mt_lays2 {m0 : qm_M} (hm : nt_ok 64 m0) (d : Nat) : ∀ (f k : Nat) (m : qm_M), 64 - k = d → k ≤ 64 → d < f → (∀ h, h < k → m.2 120 h = 0) → fr no_S nh_T m0 m → ∃ m1, L_M_laysHalves_2 f (nI k) m = some (none, m1) ∧ nh_ok 64 m1 ∧ fr no_S nh_T m0 m1 := by
  induction d with
  | zero =>
    intro f k m h1 h2 h3 hk g
    obtain ⟨f, rfl⟩ : ∃ g, f = g + 1 := ⟨f - 1, by omega⟩
    have e : k = 64 := by omega
    subst e
    have := mt_lays23 hm 63 1000000 1 m rfl (by omega) (by omega) (by omega) (fun h hh => ⟨by rw [if_neg (by omega)]; exact hk h hh, fun q => by omega⟩) g
    obtain ⟨m1, q1, q2, q3⟩ := this
    refine ⟨m1, ?_, q2, q3⟩
    show X_M_laysHalves_2 _ _ _ _ _ = _
    unfold X_M_laysHalves_2
    rw [if_neg (by decide)]
    exact q1
  | succ d ih =>
    intro f k m h1 h2 h3 hk g
    obtain ⟨f, rfl⟩ : ∃ g, f = g + 1 := ⟨f - 1, by omega⟩
    have e1 : nI k < (64 : Int32) := nI_lt (a := k) (b := 64) (by omega) (by omega)
    obtain ⟨m1, q1, q2, q3⟩ := ih f (k + 1) (qm_sL m 120 k 0) (by omega) (by omega) (by omega) (fun h hh => by
      rw [me_2L, if_pos rfl]
      by_cases q : h = k
      · rw [if_pos q]
      · rw [if_neg q]; exact hk h (by omega)) (g.sL (Or.inl rfl))
    refine ⟨m1, ?_, q2, q3⟩
    show X_M_laysHalves_2 _ _ _ _ _ = _
    unfold X_M_laysHalves_2
    rw [if_pos e1, qm_in_nI (by omega) (by omega), nI_clamp (by omega), nI_1]
    exact q1
theorem mt_laysHalves {m : qm_M} (hm : nt_ok 64 m) : ∃ m1, F_M_laysHalves m = some (none, m1) ∧ nh_ok 64 m1 ∧ fr no_S nh_T m m1 := by
  unfold F_M_laysHalves X_M_laysHalves_e
  exact mt_lays2 hm 64 1000000 0 m rfl (by omega) (by omega) (fun h hh => absurd hh (Nat.not_lt_zero _)) (fr.rf m)
theorem nb_half_un {z w : nb_F} (h : nb_sq z ^^^ z = nb_sq w ^^^ w) (h1 : z.getLsbD 0 = false) (h2 : w.getLsbD 0 = false) : z = w := by
  have e : nb_mul (z ^^^ w) (z ^^^ w ^^^ 1) = 0 := by
    letI := nb_RI
    haveI := nb_RC
    exact (show ∀ z w : nb_R, z * z + z = w * w + w → (z + w) * (z + w + 1) = 0 by intros; grind) z w h
  rcases nb_nz e with q | q
  · exact nb_x_eq q
  · have q1 : (z ^^^ w).getLsbD 0 = (1 : nb_F).getLsbD 0 := by rw [nb_x_eq q]
    rw [BitVec.getLsbD_xor, h1, h2] at q1
    exact absurd q1 (by decide)
theorem nb_m2 {b : nb_F} (h : b.getLsbD 0 = false) : bn b &&& -2 = bn b := by
  apply nb_inj
  show b &&& nb (-2) = b
  ext i hi
  rw [BitVec.getElem_and]
  by_cases q : i = 0
  · subst q
    rw [BitVec.getLsbD_eq_getElem hi] at h
    rw [h]; rfl
  · have c : (List.range 64).all (fun i => Nat.beq i 0 || (nb (-2)).getLsbD i) = true := by decide +kernel
    rcases Bool.or_eq_true_iff.mp (List.all_eq_true.mp c i (List.mem_range.mpr hi)) with z | z
    · exact absurd (Nat.eq_of_beq_eq_true z) q
    · rw [BitVec.getLsbD_eq_getElem hi] at z
      rw [z]; simp
theorem mt_half_loop {m : qm_M} (hm : nh_ok 64 m) {a : nb_F} (n : Nat) : ∀ (f : Nat) (v b : nb_F), n ≤ 63 → n < f → (∀ j, n ≤ j → v.getLsbD j = false) → nb_sq b ^^^ b ^^^ v = a → b.getLsbD 0 = false →
    ∃ z, L_M_halfOf_9 f (bn v) (bn b) m = some (some (.long (bn z)), m) ∧ nb_sq z ^^^ z = a ∧ z.getLsbD 0 = false := by
  induction n with
  | zero =>
    intro f v b _ hf h1 h2 h3
    obtain ⟨f, rfl⟩ : ∃ g, f = g + 1 := ⟨f - 1, by omega⟩
    have h0 : v = 0 := BitVec.eq_of_getLsbD_eq (fun i _ => by rw [h1 i (Nat.zero_le _)]; simp)
    subst h0
    refine ⟨b, ?_, by rw [nb_x0] at h2; exact h2, h3⟩
    show X_M_halfOf_9 _ _ _ _ _ _ = _
    unfold X_M_halfOf_9
    rw [if_pos ((no_cmpz (bn 0)).mpr rfl), nb_m2 h3]
  | succ n ih =>
    intro f v b hn hf h1 h2 h3
    obtain ⟨f, rfl⟩ : ∃ g, f = g + 1 := ⟨f - 1, by omega⟩
    by_cases h0 : v = 0
    · subst h0
      refine ⟨b, ?_, by rw [nb_x0] at h2; exact h2, h3⟩
      show X_M_halfOf_9 _ _ _ _ _ _ = _
      unfold X_M_halfOf_9
      rw [if_pos ((no_cmpz (bn 0)).mpr rfl), nb_m2 h3]
    · obtain ⟨h, hl, hh⟩ := nb_hib_ex v (n + 1) h1 h0
      have hv := nh_v_hib (k := h + 1) (by omega) (by omega)
      rw [Nat.add_sub_cancel] at hv
      have ec : m.2 120 h = bn (nh_v (h + 1)) := by rw [(hm h (by omega)).1, if_pos (by omega)]
      have ef : m.2 121 h = bn (nb_e (h + 1)) := (hm h (by omega)).2 (by omega)
      obtain ⟨z, z1, z2, z3⟩ := ih f (v ^^^ nh_v (h + 1)) (b ^^^ nb_e (h + 1)) (by omega) (by omega) (fun j hj => by
          rw [BitVec.getLsbD_xor]
          by_cases q : j = h
          · rw [q, hh.2.1, hv.2.1]; rfl
          · rw [hh.2.2 j (by omega), hv.2.2 j (by omega)]; rfl) (by
          rw [nb_try1, ← h2]
          unfold nh_v
          generalize nb_sq b ^^^ b = p
          generalize nb_sq (nb_e (h + 1)) ^^^ nb_e (h + 1) = q
          ext i hi
          simp only [BitVec.getElem_xor]
          cases p[i] <;> cases q[i] <;> cases v[i] <;> rfl) (by
          rw [BitVec.getLsbD_xor, h3, BitVec.getLsbD_eq_getElem (by omega), nb_e_bit _ _ (by omega)]
          simp)
      refine ⟨z, ?_, z2, z3⟩
      show X_M_halfOf_9 _ _ _ _ _ _ = _
      unfold X_M_halfOf_9
      rw [if_neg (fun q => h0 ((no_cmpz (bn v)).mp q)), mt_highest hh]
      dsimp only [qe_rI]
      rw [qm_in_nI (by omega) (by omega), nI_clamp (by omega), ec, ef]
      dsimp only [qe_b, cond_true]
      have nz : ¬ lg_cmp (bn (nh_v (h + 1))) 0 = 0 := fun q => nb_hib_nz hv ((no_cmpz _).mp q)
      rw [if_neg nz]
      exact z1
theorem nw_half_z {a z : nb_F} (h : a.getLsbD 63 = false) (h1 : nb_sq z ^^^ z = a) (h2 : z.getLsbD 0 = false) : nw_half a = z := by
  unfold nw_half
  rw [if_neg (by rw [h]; decide)]
  obtain ⟨-, g2, g3⟩ := nb_hv_ok 6 (by omega) a (nb_in6 a) h
  exact nb_half_un (g2.trans h1.symm) g3 h2
theorem mt_halfOf {m : qm_M} (hm : nt_ok 64 m) (x : Int64) : ∃ m1, F_M_halfOf x m = some (some (.long (bn (nw_half (nb x)))), m1) ∧ fr no_S nh_T m m1 := by
  unfold F_M_halfOf X_M_halfOf_e
  obtain ⟨m1, g1, g2, g3⟩ := mt_laysHalves hm
  rw [g1]
  dsimp only [qe_rV]
  refine ⟨m1, ?_, g3⟩
  by_cases h : (nb x).getLsbD 63 = true
  · show X_M_halfOf_9 _ _ (L_M_halfOf_9 999999) _ _ _ = _
    have hh : nb_hib (nb x) 63 := ⟨by omega, h, fun j hj => BitVec.getLsbD_of_ge _ _ (by omega)⟩
    have e : x = bn (nb x) := rfl
    unfold X_M_halfOf_9
    rw [if_neg (fun q => nb_hib_nz hh ((no_cmpz x).mp q)), e, mt_highest hh]
    dsimp only [qe_rI]
    rw [qm_in_nI (by omega) (by omega), nI_clamp (by omega), (g2 63 (by omega)).1]
    dsimp only [qe_b, cond_true]
    rw [if_neg (show ¬ 63 + 1 < 64 by omega), if_pos ((no_cmpz 0).mpr rfl)]
    unfold nw_half
    rw [nb_bn, if_pos h]
    rfl
  · have h' : (nb x).getLsbD 63 = false := by simpa using h
    obtain ⟨z, z1, z2, z3⟩ := mt_half_loop g2 (a := nb x) 63 1000000 (nb x) 0 (by omega) (by omega) (fun j hj => by
      by_cases q : j = 63
      · rw [q]; exact h'
      · exact BitVec.getLsbD_of_ge _ _ (by omega)) (by rw [show nb_sq 0 ^^^ (0 : nb_F) = 0 by decide +kernel, nb_0x]) (by decide)
    rw [nw_half_z h' z2 z3]
    exact z1
theorem mw_half {m : qm_M} (hm : nt_ok 64 m) (x : Int64) : ∃ m1, F_M_half x m = some (some (.long (bn (nw_half (nb x)))), m1) ∧ fr no_S nh_T m m1 := by
  obtain ⟨m1, g1, g2⟩ := mt_halfOf hm x
  refine ⟨m1, ?_, g2⟩
  unfold F_M_half X_M_half_e
  rw [g1]
  rfl
