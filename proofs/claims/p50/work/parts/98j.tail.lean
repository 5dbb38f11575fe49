/-! the law, behind an act; printed by wip/p50/w/gen_tail.py -/
theorem nI_ushr {n k : Nat} (hn : n < 2 ^ 31) (hk : k < 32) : qo_iushr (nI n) (nI k) = nI (n / 2 ^ k) := by
  have c : (List.range 32).all (fun k => decide (((nI k).toUInt32 &&& Int32.toUInt32 31).toBitVec % 32 = BitVec.ofNat 32 k)) = true := by decide +kernel
  have c1 := of_decide_eq_true (List.all_eq_true.mp c k (List.mem_range.mpr hk))
  refine Int32.toBitVec_inj.1 ?_
  show ((nI n).toUInt32 >>> ((nI k).toUInt32 &&& Int32.toUInt32 31)).toBitVec = BitVec.ofNat 32 (n / 2 ^ k)
  rw [UInt32.toBitVec_shiftRight]
  show (BitVec.ofNat 32 n) >>> (((nI k).toUInt32 &&& Int32.toUInt32 31).toBitVec % 32) = BitVec.ofNat 32 (n / 2 ^ k)
  rw [c1]
  apply BitVec.eq_of_toNat_eq
  rw [BitVec.ushiftRight_eq', BitVec.toNat_ushiftRight, BitVec.toNat_ofNat, BitVec.toNat_ofNat, BitVec.toNat_ofNat, Nat.mod_eq_of_lt (show n < 2 ^ 32 by omega), Nat.mod_eq_of_lt (show k < 2 ^ 32 by omega), Nat.shiftRight_eq_div_pow, Nat.mod_eq_of_lt (Nat.lt_of_le_of_lt (Nat.div_le_self _ _) (by omega))]
/-- the names of the kinds, apart from the board -/
def kd (A : Nat → Nat) (Kd : Nat) (H : pm_H) : Prop := (∃ kf : Nat → Option Nat, H[Kd]? = some (.inl (7, (4, .inr (.inr (.inr (.inr kf)))))) ∧ ∀ j, j < 4 → kf j = some (1000010 + j)) ∧ ∀ k, k < 123 → A k ≠ Kd
theorem kd.fr {A : Nat → Nat} {Kd : Nat} {H H1 : pm_H} (h : kd A Kd H) (g : xfr A H H1) : kd A Kd H1 := by
  obtain ⟨⟨kf, h1, h2⟩, h3⟩ := h
  exact ⟨⟨kf, by rw [g Kd (ap_lt h1) h3]; exact h1, h2⟩, h3⟩
/-- between acts -/
def lst (A : Nat → Nat) (Kd : Nat) (m : qm_M) (s : sT) (H : pm_H) : Prop := hbd' A m H ∧ CI m s ∧ bd m s ∧ s.2.2.2.1 = 0 ∧ kd A Kd H
/-- another board, kept -/
def kept (A B : Nat → Nat) (Kd : Nat) (mB : qm_M) (s0 : sT) (H : pm_H) : Prop := bH B mB H ∧ bd mB s0 ∧ rn_ad B (fun k => k < 123) ∧ (∀ k, k < 112 → B k = k) ∧ (∀ k, k < 123 → B k ≠ Kd) ∧ ∀ k j, 112 ≤ k → k < 123 → j < 123 → A j ≠ B k
theorem bH.fr {A B : Nat → Nat} {mB : qm_M} {H H1 : pm_H} (h : bH B mB H) (g : xfr A H H1) (hd : ∀ k j, 112 ≤ k → k < 123 → j < 123 → A j ≠ B k) : bH B mB H1 := by
  have e : ∀ k c, 112 ≤ k → k < 123 → H[B k]? = some c → H1[B k]? = some c := fun k c h1 h2 hc => by
    rw [g (B k) (ap_lt hc) (fun j hj => hd k j h1 h2 hj)]; exact hc
  have h5 := h.2.2.2.2.1
  refine ⟨e 112 _ (by omega) (by omega) h.1, e 113 _ (by omega) (by omega) h.2.1, e 114 _ (by omega) (by omega) h.2.2.1, e 115 _ (by omega) (by omega) h.2.2.2.1, ?_, fun r hr => e (117 + r) _ (by omega) (by omega) (h.2.2.2.2.2 r hr)⟩
  exact Exists.elim h5 (fun f hf => ⟨f, e 116 _ (by omega) (by omega) hf.1, hf.2⟩)
theorem kept.fr {A B : Nat → Nat} {Kd : Nat} {mB : qm_M} {s0 : sT} {H H1 : pm_H} (h : kept A B Kd mB s0 H) (g : xfr A H H1) : kept A B Kd mB s0 H1 := ⟨h.1.fr g h.2.2.2.2.2, h.2⟩
theorem bd.eq {m : qm_M} {s s0 : sT} (h : bd m s0) (e : s.1 = s0.1) : bd m s := by
  unfold bd at h ⊢
  rw [e]; exact h
set_option maxRecDepth 100000 in
theorem lw_tail {kp : pm_K} {d : Nat} {Q : Option Value → pm_H → Prop} {i N Kd L S : Nat} {does : Int32} {A B : Nat → Nat} {m mB : qm_M} {s s0 : sT} {H : pm_H} (hl : lst A Kd m s H) (hk : kept A B Kd mB s0 H) (hdo : does = 0 ∨ does = 1 ∧ (st_undo s).1 = s0.1 ∧ 1 ≤ s.2.1.1)
    (hL : H.length ≤ L) (hS : pm_sl H ≤ S) (hL2 : L ≤ 1900) (hS2 : S ≤ 39000)
    (cont : ∀ A m s H, lst A Kd m s H → H.length ≤ L + 1 → pm_sl H ≤ S + 36 → pm_W kp md_L_law (pm_X kp (d + 40)) 2000 40000 Q 190 [(5, .int (nI (i + 1))), (3, .int 1), (2, .ref (A 112)), (4, .ref Kd), (1, .ref 0), (0, .ref 1000000)] [] H) :
    pm_W kp md_L_law (pm_X kp (d + 40)) 2000 40000 Q 853 [(3, .int 1), (8, .int does), (7, .ref (B 112)), (2, .ref (A 112)), (6, .int (nI N)), (5, .int (nI i)), (4, .ref Kd), (1, .ref 0), (0, .ref 1000000)] [] H := by
  obtain ⟨hB, h, hb, h0, hK⟩ := hl
  obtain ⟨m1, e1, g1⟩ := nu_same h hb
  obtain ⟨H1, x1⟩ := lx_same hB (fg_L_same (kp := kp) (d + 4)) e1
  have f1 := xfr.of x1.2.1
  have l1 : H1.length = H.length := x1.2.1.2.1
  have s1 : pm_sl H1 = pm_sl H := x1.2.1.2.2
  obtain ⟨m2, H2, y1, y2, y3, y4, y5, y6, y7, -⟩ := hb_moves (b := false) (kp := kp) x1.1 g1.1 g1.2.1 (by omega) (d + 4) (fun z => by cases z)
  have f2 : xfr A H H2 := f1.tr y4 (by omega)
  have hK2 := hK.fr f2
  have hk2 := hk.fr f2
  obtain ⟨fs, hfs⟩ := hb_o0 y3
  refine pq_ld 0 rfl rfl rfl ?_
  refine pq_ifc rfl (fun z => absurd z (@of_decide_eq_false _ (jb_dec _ _ _) rfl)) (fun _ => ?_)
  refine pq_ld 7 rfl rfl rfl ?_
  refine pq_ld 3 rfl rfl rfl ?_
  refine pq_cls rfl rfl rfl rfl (Nat.le_of_ble_eq_true rfl) (Or.inl x1.2.2.2) x1.2.2.1 ?_
  refine pq_ifc rfl (fun z => absurd z (@of_decide_eq_false _ (jb_dec _ _ _) rfl)) (fun _ => ?_)
  refine pq_ld 7 rfl rfl rfl ?_
  refine pq_ld 3 rfl rfl rfl ?_
  refine pq_cls rfl rfl rfl rfl (Nat.le_of_ble_eq_true rfl) (Or.inr ⟨rfl, by omega, by omega⟩) y7 ?_
  refine pq_ifc rfl (fun z => absurd z (@of_decide_eq_false _ (jb_dec _ _ _) rfl)) (fun _ => ?_)
  refine pq_cst rfl rfl ?_
  refine pq_goto rfl ?_
  refine pq_sto rfl rfl rfl ?_
  refine pq_ld 1 rfl rfl rfl ?_
  rcases hdo with hdo | ⟨hdo, hd⟩
  · subst hdo
    refine pq_ifc rfl (fun _ => ?_) (fun z => absurd (rfl) z)
    refine pq_inc 5 rfl rfl rfl ?_
    rw [show nI i + Int32.ofInt 1 = nI (i + 1) from nI_1 i]
    refine pq_goto rfl ?_
    refine pq_sub (nx := 0) (a := 0) (b := 0) [0, 1, 4, 6, 7, 8] rfl ?_
    exact cont _ _ _ _ ⟨y3, y1, y2, h0, hK2⟩ (by omega) (by omega)
  · subst hdo
    refine pq_ifc rfl (fun z => absurd z (n10)) (fun _ => ?_)
    refine pq_ld 0 rfl rfl rfl ?_
    refine pq_ifc rfl (fun z => absurd z (@of_decide_eq_false _ (jb_dec _ _ _) rfl)) (fun _ => ?_)
    refine pq_ld 4 rfl rfl rfl ?_
    refine pq_cst rfl rfl ?_
    refine pq_bop rfl rfl ?_
    refine pq_cst rfl rfl ?_
    refine pq_bop rfl rfl ?_
    by_cases q : pm_cnd .ne ((qo_iushr (nI N) (Int8.ofInt 26).toInt32) &&& Int32.ofInt 3) 0
    · 
      refine pq_ifc rfl (fun _ => ?_) (fun q2 => absurd q q2)
      refine pq_inc 5 rfl rfl rfl ?_
      rw [show nI i + Int32.ofInt 1 = nI (i + 1) from nI_1 i]
      refine pq_goto rfl ?_
      refine pq_sub (nx := 0) (a := 0) (b := 0) [0, 1, 4, 6, 7, 8] rfl ?_
      exact cont _ _ _ _ ⟨y3, y1, y2, h0, hK2⟩ (by omega) (by omega)
    · obtain ⟨-, -, c7, -⟩ := tc_count y1
      obtain ⟨H3, u1⟩ := lx_ci y3 (fg_T_count (kp := kp) (d + 37)) c7
      obtain ⟨m4, v2, v3, v4⟩ := tc_undo y1
      have hne : ¬ s.2.1.1 = 0 := by omega
      rw [if_neg hne] at v2
      rw [if_neg hne] at v3
      obtain ⟨H4, v1⟩ := lx_c u1.1 (fg_T_undo (kp := kp) (d + 36)) v2
      have f4 : xfr A H2 H4 := (xfr.of u1.2.1).tr (xfr.of v1.2.1) (Nat.le_of_eq u1.2.1.2.1.symm)
      have hk4 := hk2.fr f4
      have hB4 := hbd_sw v1.1 hk4.1 hk4.2.2.1 hk4.2.2.2.1
      have hC4 : CI (mix m4 mB) (st_undo s) := mix_CI v3
      have hb4 : bd (mix m4 mB) (st_undo s) := mix_bd (hk4.2.1.eq hd.1)
      obtain ⟨m5, e5, g5⟩ := nu_same hC4 hb4
      obtain ⟨H5, z1⟩ := lx_same hB4 (fg_L_same (kp := kp) (d + 4)) e5
      have hK4 : kd B Kd H4 := ⟨(hK2.fr f4).1, hk4.2.2.2.2.1⟩
      have l5 : H5.length = H2.length := by rw [z1.2.1.2.1, v1.2.1.2.1, u1.2.1.2.1]
      have s5 : pm_sl H5 = pm_sl H2 := by rw [z1.2.1.2.2, v1.2.1.2.2, u1.2.1.2.2]
      obtain ⟨fs2, hfs2⟩ := hb_o0 u1.1
      refine pq_ifc rfl (fun q2 => absurd q2 q) (fun _ => ?_)
      refine pq_ld 7 rfl rfl rfl ?_
      refine pq_cst rfl rfl ?_
      refine pq_clv rfl (Or.inl ⟨rfl, rfl⟩) rfl (Nat.le_of_ble_eq_true rfl) hfs (by decide +kernel) (Or.inl u1.2.2.2) u1.2.2.1 ?_
      refine pq_sto rfl rfl rfl ?_
      refine pq_ld 8 rfl rfl rfl ?_
      refine pq_clv rfl (Or.inl ⟨rfl, rfl⟩) rfl (Nat.le_of_ble_eq_true rfl) hfs2 (by decide +kernel) (Or.inl v1.2.2.2) v1.2.2.1 ?_
      refine pq_ld 0 rfl rfl rfl ?_
      refine pq_cst rfl rfl ?_
      refine pq_bop rfl rfl ?_
      rw [show nI (s.2.1.1) - Int32.ofInt 1 = nI (s.2.1.1 - 1) from nI_sub (a := s.2.1.1) (b := 1) hd.2]
      refine pq_icm rfl (fun z => absurd z (fun z => z rfl)) (fun _ => ?_)
      refine pq_cst rfl rfl ?_
      refine pq_goto rfl ?_
      refine pq_sto rfl rfl rfl ?_
      refine pq_ld 3 rfl rfl rfl ?_
      refine pq_sto rfl rfl rfl ?_
      refine pq_ld 1 rfl rfl rfl ?_
      refine pq_ifc rfl (fun z => absurd z (@of_decide_eq_false _ (jb_dec _ _ _) rfl)) (fun _ => ?_)
      refine pq_ld 8 rfl rfl rfl ?_
      refine pq_ld 0 rfl rfl rfl ?_
      refine pq_cls rfl rfl rfl rfl (Nat.le_of_ble_eq_true rfl) (Or.inl z1.2.2.2) z1.2.2.1 ?_
      refine pq_ifc rfl (fun z => absurd z (@of_decide_eq_false _ (jb_dec _ _ _) rfl)) (fun _ => ?_)
      refine pq_cst rfl rfl ?_
      refine pq_goto rfl ?_
      refine pq_sto rfl rfl rfl ?_
      refine pq_inc 6 rfl rfl rfl ?_
      rw [show nI i + Int32.ofInt 1 = nI (i + 1) from nI_1 i]
      refine pq_goto rfl ?_
      refine pq_sub (nx := 0) (a := 0) (b := 0) [0, 1, 2, 7, 8, 9] rfl ?_
      exact cont _ _ _ _ ⟨z1.1, g5.1, g5.2.1, h0, hK4.fr (xfr.of z1.2.1)⟩ (by omega) (by omega)
