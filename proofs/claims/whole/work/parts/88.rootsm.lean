/-! the model's roots; roots as both answer -/
theorem le_M_isRoot_11  (n : Nat) (v3 : Int64) (v5 : Int32) (m : qm_M) : L_M_isRoot_11 (n + 1) v3 v5 m = X_M_isRoot_11 F_M_laysBy F_M_by F_M_placeOf (L_M_isRoot_11 n) v3 v5 m := rfl
theorem le_M_roots_24  (n : Nat) (v1 : Int32) (v2 : Int32) (v3 : Int32) (v4 : Int64) (m : qm_M) : L_M_roots_24 (n + 1) v1 v2 v3 v4 m = X_M_roots_24 F_M_isIn F_M_isRoot (L_M_roots_24 n) v1 v2 v3 v4 m := rfl
theorem lN_s (n : Nat) : lN n + 1 = lN (n + 1) := (Int64.ofNat_add n 1).symm
theorem mt_isRoot {m : qm_M} {P : sP} (hm : nt_ok 64 m) (h : ms_now m P) {x : nb_F} (hx : nb_in 4 x) : ∃ m1, F_M_isRoot (bn x) m = some (some (.int (if pf_e 8 (pP P) x = 0 then 1 else 0)), m1) ∧ fr no_S nv_T m m1 := by
  obtain ⟨m1, a1, a2, a3⟩ := mt_laysBy hm hx
  have h1 : ms_now m1 P := fun i hi => by rw [a3.2 113 (by decide)]; exact h i hi
  obtain ⟨v', hv, e⟩ := lpD (fun f k (v : nb_F) => L_M_isRoot_11 f (bn v) (dv k) m1) 8 (fun k v => v = pf_e (8 - k) (fun j => pP P (k + j)) x) (fun v => some (some (.int (if v = 0 then 1 else 0)), m1)) (fun f k v hk hv => ⟨nb_mul v x ^^^ pP P k, by
      rw [hv, show 8 - k = (8 - (k + 1)) + 1 by omega, pf_e_s, Nat.add_zero, BitVec.xor_comm, nb_comm]
      refine nb_xc rfl (nb_mc x ?_)
      exact pf_e_c (fun i _ => by rw [show k + 1 + i = k + (i + 1) by omega]) _, by
      show L_M_isRoot_11 (f + 1) (bn v) (dv (k + 1)) m1 = _
      rw [le_M_isRoot_11]
      unfold X_M_isRoot_11
      rw [dv_s, if_neg (nI_pos (by omega)), mt_by a2, qe_rL_e, mt_placeOf h1 hk, qe_rL_e, dv_d]
      rfl⟩) (fun f v _ => by
      show L_M_isRoot_11 (f + 1) (bn v) (dv 0) m1 = _
      rw [le_M_isRoot_11]
      unfold X_M_isRoot_11
      rw [if_pos dv_0]
      by_cases q : v = 0
      · rw [if_pos ((no_zB v).mpr q), if_pos q]
      · rw [if_neg (fun z => q ((no_zB v).mp z)), if_neg q]) 8 1000000 0 (Nat.le_refl _) (by omega) rfl
  refine ⟨m1, ?_, a3⟩
  unfold F_M_isRoot X_M_isRoot_e
  rw [a1, qe_rV_e]
  refine Eq.trans e ?_
  rw [hv, Nat.sub_zero, pf_e_c (n := 8) (c := fun j => pP P (0 + j)) (d := pP P) (fun i _ => by rw [Nat.zero_add]) _]
theorem inc_ge {n : Nat} {a : Nat → Nat} (h : inc n a) : ∀ u, u < n → u ≤ a u
  | 0, _ => Nat.zero_le _
  | u + 1, hu => by
    have h1 := inc_ge h u (by omega)
    have h2 := h u (u + 1) (by omega) hu
    omega
def rv (t : Nat) (a : Nat → Nat) (v : Int32) : Int32 := if v = -1 then nI t else if v.toNatClampNeg < t then nI (a v.toNatClampNeg) else -2
theorem nI_m1 {j : Nat} (h : j < 2 ^ 31) : ¬ nI j = -1 := fun z => nI_pos h (z ▸ (by decide : (-1 : Int32) < 0))
theorem rtS.le {k : Nat} (hk : k ≤ 4) {P : Nat → nb_F} {t : Nat} {a : Nat → Nat} (h : rtS k P t a) : t ≤ 65536 := by
  obtain ⟨h1, h2⟩ := h
  have hq := q_le hk
  by_cases q : t = 0
  · omega
  · have e1 := inc_ge h1 (t - 1) (by omega)
    have e2 := ((h2 (a (t - 1))).mp ⟨t - 1, by omega, rfl⟩).1
    omega
theorem mt_roots {m : qm_M} {P : sP} (hm : nt_ok 64 m) (h : ms_now m P) {k : Nat} (hk : k ≤ 4) {t : Nat} {a : Nat → Nat} (hS : rtS k (pP P) t a) {v : Int32} (hv : v = -1 ∨ ∃ j, j < 2 ^ 31 ∧ v = nI j) :
    ∃ m1, L_M_roots_24 1000000 (nI k) v 0 0 m = some (some (.int (rv t a v)), m1) ∧ fr no_S nv_T m m1 := by
  have ht := hS.le hk
  obtain ⟨hq1, hq2, hq3, hq4⟩ := q_le hk
  obtain ⟨s1, s2⟩ := hS
  have hsh : qo_lshl (1 : Int64) (qo_ishl (1 : Int32) (nI k)) = lN (2 ^ (2 ^ k)) := by
    have c : ∀ k, k < 5 → qo_lshl (1 : Int64) (qo_ishl (1 : Int32) (nI k)) = lN (2 ^ (2 ^ k)) := nb_k5 (by decide) (by decide) (by decide) (by decide) (by decide)
    exact c k (by omega)
  refine lpE (fun f x (w : Nat × qm_M) => L_M_roots_24 f (nI k) v (nI w.1) (lN x) w.2) (2 ^ (2 ^ k)) (fun x w => w.1 ≤ t ∧ (∀ u, u < w.1 → a u < x) ∧ (∀ u, w.1 ≤ u → u < t → x ≤ a u) ∧ (∀ u, u < w.1 → v ≠ nI u) ∧ fr no_S nv_T m w.2) (fun r => ∃ m1, r = some (some (.int (rv t a v)), m1) ∧ fr no_S nv_T m m1) (fun f x w hx hI => ?_) (fun f w hI => ?_) 1000000 0 (0, m) (Nat.zero_le _) (by omega) ⟨Nat.zero_le _, fun u hu => absurd hu (Nat.not_lt_zero _), fun u _ _ => Nat.zero_le _, fun u hu => absurd hu (Nat.not_lt_zero _), fr.rf m⟩
  · obtain ⟨t', m2⟩ := w
    obtain ⟨i1, i2, i3, i4, i5⟩ := hI
    dsimp only at i1 i2 i3 i4 i5
    have hm2 : nt_ok 64 m2 := fun a b ha hb => by rw [i5.2 117 (by decide)]; exact hm a b ha hb
    have h2 : ms_now m2 P := fun i hi => by rw [i5.2 113 (by decide)]; exact h i hi
    have hin : nb_in 4 (bN x) := (nb_in_bN (by omega) (by omega)).mpr (by have e : (2 : Nat) ^ (2 ^ 4) = 65536 := by decide
                                                                          omega)
    obtain ⟨m3, e1, e2⟩ := mt_isRoot hm2 h2 hin
    have lx : lg_cmp (lN x) (lN (2 ^ (2 ^ k))) < 0 := (lN_cmpL (by omega) (by omega)).mpr hx
    show (∃ s', _ ∧ L_M_roots_24 (f + 1) (nI k) v (nI t') (lN x) m2 = _) ∨ ∃ m1, L_M_roots_24 (f + 1) (nI k) v (nI t') (lN x) m2 = _ ∧ _
    rw [le_M_roots_24]
    unfold X_M_roots_24
    rw [hsh, if_pos lx, lN_bN, e1, qe_rI_e]
    by_cases q : pf_e 8 (pP P) (bN x) = 0
    · rw [tp_T q]
      obtain ⟨u, hu, hau⟩ := (s2 x).mpr ⟨hx, q⟩
      have hut : t' ≤ u := by
        by_cases z : u < t'
        · have := i2 u z
          omega
        · omega
      have hat : a t' = x := by
        have e3 := i3 t' (Nat.le_refl _) (by omega)
        by_cases z : t' = u
        · rw [z]
          exact hau
        · have := s1 t' u (by omega) hu
          omega
      by_cases y : nI t' = v
      · rw [if_pos y]
        refine Or.inr ⟨m3, ?_, i5.tr e2⟩
        unfold rv
        rw [if_neg (by rw [← y]; exact nI_m1 (by omega)), ← y, nI_clamp (by omega), if_pos (by omega), hat, bn_i32, bN_toNat (by omega)]
      · rw [if_neg y, ← lN_bN, lN_s, nI_1]
        refine Or.inl ⟨(t' + 1, m3), ⟨by show t' + 1 ≤ t; omega, fun u hu => ?_, fun u h1 h2 => ?_, fun u hu => ?_, i5.tr e2⟩, rfl⟩
        · have hu' : u < t' + 1 := hu
          by_cases z : u = t'
          · rw [z]
            omega
          · have := i2 u (by omega)
            omega
        · have h1' : t' + 1 ≤ u := h1
          have := s1 t' u (by omega) h2
          omega
        · have hu' : u < t' + 1 := hu
          by_cases z : u = t'
          · rw [z]
            exact fun c => y c.symm
          · exact i4 u (by omega)
    · rw [tp_F q, ← lN_bN, lN_s]
      refine Or.inl ⟨(t', m3), ⟨i1, fun u hu => by have := i2 u hu; omega, fun u h1 h2 => ?_, i4, i5.tr e2⟩, rfl⟩
      have e3 := i3 u h1 h2
      by_cases z : a u = x
      · exact absurd ((s2 x).mp ⟨u, h2, z⟩).2 q
      · omega
  · obtain ⟨t', m2⟩ := w
    obtain ⟨i1, i2, i3, i4, i5⟩ := hI
    dsimp only at i1 i2 i3 i4 i5
    have et : t' = t := by
      by_cases z : t' < t
      · have e3 := i3 t' (Nat.le_refl _) z
        have e4 := ((s2 (a t')).mp ⟨t', z, rfl⟩).1
        omega
      · omega
    have lx : ¬ lg_cmp (lN (2 ^ (2 ^ k))) (lN (2 ^ (2 ^ k))) < 0 := fun z => Nat.lt_irrefl _ ((lN_cmpL (by omega) (by omega)).mp z)
    show ∃ m1, L_M_roots_24 (f + 1) (nI k) v (nI t') (lN (2 ^ (2 ^ k))) m2 = _ ∧ _
    rw [le_M_roots_24]
    unfold X_M_roots_24
    rw [hsh, if_neg lx]
    unfold rv
    by_cases y : v = -1
    · rw [if_pos y, if_pos y, et]
      exact ⟨m2, rfl, i5⟩
    · rw [if_neg y, if_neg y]
      obtain ⟨j, hj, rfl⟩ := hv.resolve_left y
      rw [nI_clamp hj, if_neg (fun z => i4 j (by omega) rfl)]
      exact ⟨m2, rfl, i5⟩
def rdP (FT FM : qm_M → Option qm_R) : Prop := ∀ mc mm s, cs mc s → cvPo mc → ms mm s → gd s → ∃ r mc1 mm1, FT mc = some (some r, mc1) ∧ FM mm = some (some r, mm1) ∧ cvPo mc1 ∧ ou 70 106 mc mc1 ∧ ms mm1 s ∧ lo_fr mm mm1
theorem ary_2 : ary 2 8 := ⟨by decide, rfl, rfl, rfl, rfl, rfl⟩
theorem w_roots (v w : Int32) : rdP (F_T_roots v w) (F_M_roots v w) := by
  intro mc mm s hc hv hm g
  unfold F_T_roots X_T_roots_e F_M_roots X_M_roots_e
  rcases nw_lt v (N := 5) (by omega) (by omega) with ⟨k, hk, rfl⟩ | ⟨h1, h2⟩
  · have e4 : ¬ (4 : Int32) < nI k := nI_nlt (a := 4) (b := k) (by omega) (by omega)
    rw [if_neg (nI_pos (by omega)), if_neg e4, mt_in1 (j := k) (a := 0) (b := 4) (n := 0) (k := 4) rfl rfl rfl (by omega) (by omega) (by omega), qe_rI_e, if_neg n10]
    by_cases q : w < -1
    · rw [if_pos q, if_pos q]
      exact ⟨_, _, _, rfl, rfl, hv, ou.rf _ _ mc, hm, lo_fr.rf mm⟩
    · rw [if_neg q, if_neg q]
      have hw : w = -1 ∨ ∃ j, j < 2 ^ 31 ∧ w = nI j := by
        by_cases z : w = -1
        · exact Or.inl z
        · exact Or.inr (nw_ex w (fun c => by
            rw [Int32.lt_iff_toInt_lt] at q c
            have e1 : (-1 : Int32).toInt = -1 := by decide
            have e0 : (0 : Int32).toInt = 0 := by decide
            rw [e1] at q
            rw [e0] at c
            exact z (Int32.toInt_inj.mp (by rw [e1]; omega))))
      have fin : ∀ {t : Nat} {a : Nat → Nat}, rtS k (pP s.1) t a → ∃ mm1, L_M_roots_24 1000000 (nI k) w 0 0 mm = some (some (.int (rv t a w)), mm1) ∧ ms mm1 s ∧ lo_fr mm mm1 := fun {t a} hS => by
        obtain ⟨mm1, b1, b2⟩ := mt_roots hm.1.1 hm.2.1 (by omega) hS hw
        exact ⟨mm1, b1, hm.fr (by rw [b2.1 112 (by intro z; exact z)]) (by rw [b2.1 112 (by intro z; exact z)]) (b2.1 116 (by intro z; exact z)) (b2.1 129 (by intro z; exact z)) (fun a x y => b2.2 a (by intro z; have z2 : a = 122 := z; omega)), b2.lo (fun a z => z.elim) (fun a z => by have z2 : a = 122 := z; omega)⟩
      have pc : pa mc 2 8 (fun i => if i < 8 then pP s.1 i else 0) := ⟨fun i hi => by
        rw [cs_p hc hi]
        show _ = bn (if i < 8 then pP s.1 i else 0)
        rw [if_pos hi]
        rfl, fun i hi => if_neg (by omega)⟩
      obtain ⟨L, l1, l2, l3⟩ := nu_degree ary_2 (by omega) pc
      rw [l3, qe_rI_e]
      by_cases y : L = 0
      · rw [if_pos ((dv_z (by omega)).mpr y), (ishl_q (by omega)).1, (ishl_q (by omega)).2]
        obtain ⟨hq1, hq2, hq3, hq4⟩ := q_le (show k ≤ 4 by omega)
        have hz : ∀ i, i < 8 → pP s.1 i = 0 := fun i hi => (if_pos hi).symm.trans (l2.1 i (by omega))
        obtain ⟨mm1, b1, b2, b3⟩ := fin (t := 2 ^ (2 ^ k)) (a := fun u => u) ⟨fun u v huv _ => huv, fun i => ⟨fun ⟨u, hu, e⟩ => ⟨by rw [← e]; exact hu, pf_e_z hz _⟩, fun hi => ⟨i, hi.1, rfl⟩⟩⟩
        rw [b1]
        unfold rv
        rcases hw with rfl | ⟨j, hj, rfl⟩
        · rw [if_pos rfl, if_pos rfl]
          exact ⟨_, _, _, rfl, rfl, hv, ou.rf _ _ mc, b2, b3⟩
        · rw [if_neg (nI_m1 hj), if_neg (nI_m1 hj), nI_clamp hj]
          by_cases z : j < 2 ^ (2 ^ k)
          · rw [if_pos (nI_lt z (by omega)), if_pos z]
            exact ⟨_, _, _, rfl, rfl, hv, ou.rf _ _ mc, b2, b3⟩
          · rw [if_neg (nI_nlt (by omega) hj), if_neg z]
            exact ⟨_, _, _, rfl, rfl, hv, ou.rf _ _ mc, b2, b3⟩
      · have hnz : ¬ ∀ i, i < 8 → pP s.1 i = 0 := fun hz => l2.2.elim y (fun c => c (by
          show (if L - 1 < 8 then pP s.1 (L - 1) else 0) = 0
          rw [if_pos (by omega)]
          exact hz (L - 1) (by omega)))
        rw [if_neg (fun z => y ((dv_z (by omega)).mp z))]
        obtain ⟨mc1, a1, ⟨t, a, c1, c2, c3, c4⟩, a3, a4⟩ := nu_findRoots hc hv (show k ≤ 4 by omega) hnz
        obtain ⟨mm1, b1, b2, b3⟩ := fin c4
        rw [a1, qe_rV_e, b1]
        unfold rv
        rcases hw with rfl | ⟨j, hj, rfl⟩
        · rw [if_pos rfl, if_pos rfl, c2]
          exact ⟨_, _, _, rfl, rfl, a3, a4, b2, b3⟩
        · rw [if_neg (nI_m1 hj), if_neg (nI_m1 hj), nI_clamp hj]
          unfold F_Po_rootAt X_Po_rootAt_e
          rw [if_neg (nI_pos hj), c2]
          by_cases z : j < t
          · rw [if_pos (nI_lt z (by omega)), if_pos z, qm_in_nI (show j < 7 by omega) (by omega), qe_b_e, nI_clamp hj, c3 j z, qe_rI_e]
            exact ⟨_, _, _, rfl, rfl, a3, a4, b2, b3⟩
          · rw [if_neg (nI_nlt (by omega) hj), if_neg z, qe_rI_e]
            exact ⟨_, _, _, rfl, rfl, a3, a4, b2, b3⟩
  · rw [mt_in0 (a := 0) (b := 4) (n := 0) (k := 4) rfl rfl (by omega) (by omega) h2, qe_rI_e, if_pos rfl]
    by_cases q : v < 0
    · rw [if_pos q]
      exact ⟨_, _, _, rfl, rfl, hv, ou.rf _ _ mc, hm, lo_fr.rf mm⟩
    · have h3 : (4 : Int32) < v := h2.resolve_left q
      rw [if_neg q, if_pos h3]
      exact ⟨_, _, _, rfl, rfl, hv, ou.rf _ _ mc, hm, lo_fr.rf mm⟩
