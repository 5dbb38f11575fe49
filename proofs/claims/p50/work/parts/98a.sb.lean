/-! THE TEXT'S BUILDER over a heap of its own two cells: what its methods make; printed by wip/p50/w/gen_sb.py -/
def jb_dec : ∀ (c : Jvm.ClassFile.Cond) (x y : Int32), Decidable (pm_cnd c x y)
  | .eq, x, y => inferInstanceAs (Decidable (x = y))
  | .ne, x, y => inferInstanceAs (Decidable (¬ x = y))
  | .lt, x, y => inferInstanceAs (Decidable (x < y))
  | .ge, x, y => inferInstanceAs (Decidable (y ≤ x))
  | .gt, x, y => inferInstanceAs (Decidable (y < x))
  | .le, x, y => inferInstanceAs (Decidable (x ≤ y))
def jbH (c : Int32) (f : Nat → Int32) : pm_H := [.inr (12, [.ref 1, .int 0, .int 0, .int c]), .inl (2, (120, .inl f))]
theorem jb_cap : (List.range 121).all (fun k => decide (nI k - (Int32.ofNat 120 >>> ((0 : Int32) &&& 31)) ≤ 0)) = true := by decide +kernel
theorem jb_cap' {k : Nat} (h : k ≤ 120) : nI k - (Int32.ofNat 120 >>> ((0 : Int32) &&& 31)) ≤ 0 := of_decide_eq_true (List.all_eq_true.mp jb_cap k (List.mem_range.mpr (by omega)))
theorem jb_vin {k n : Nat} (h : k < n) (hn : n < 2 ^ 31) : vp_in (nI k) n := qm_in_ok (qm_in_nI h hn)
theorem jb_dig : (List.range 10).all (fun v => decide ((0 : Int32) ≤ nI v ∧ ¬ nI v < 0 ∧ ¬ -nI v ≤ (Int8.ofInt (-10)).toInt32 ∧ (Int8.ofInt (-100)).toInt32 < -nI v ∧ (Int8.ofInt (-9)).toInt32 ≤ -nI v ∧ pm_ones.getD (-(-nI v)).toNatClampNeg 0 = nI (48 + v) ∧ vp_nar .byte (nI (48 + v)) = nI (48 + v) ∧ -(-nI v) = nI v)) = true := by decide +kernel
theorem jb_d {v : Nat} (h : v < 10) : (0 : Int32) ≤ nI v ∧ ¬ nI v < 0 ∧ ¬ -nI v ≤ (Int8.ofInt (-10)).toInt32 ∧ (Int8.ofInt (-100)).toInt32 < -nI v ∧ (Int8.ofInt (-9)).toInt32 ≤ -nI v ∧ pm_ones.getD (-(-nI v)).toNatClampNeg 0 = nI (48 + v) ∧ vp_nar .byte (nI (48 + v)) = nI (48 + v) ∧ -(-nI v) = nI v := of_decide_eq_true (List.all_eq_true.mp jb_dig v (List.mem_range.mpr h))
set_option maxRecDepth 100000 in
theorem jb_isLatin1 {kp : pm_K} (d : Nat) (c : Int32) (f : Nat → Int32) : pm_X kp (d + 1) 99 [.ref 0] (jbH c f) (some (.int 1)) (jbH c f) := by
  refine pm_Xi md_JB_isLatin1 [(0, .ref 0)] rfl (Nat.le_of_ble_eq_true rfl) rfl ?_
  refine pq_gst rfl rfl ?_
  refine pq_ifc rfl (fun z => absurd z (@of_decide_eq_false _ (jb_dec _ _ _) rfl)) (fun _ => ?_)
  refine pq_ld 0 rfl rfl rfl ?_
  refine pq_get rfl rfl rfl ?_
  refine pq_ifc rfl (fun z => absurd z (@of_decide_eq_false _ (jb_dec _ _ _) rfl)) (fun _ => ?_)
  refine pq_cst rfl rfl ?_
  refine pq_goto rfl ?_
  exact pq_irt rfl rfl rfl ⟨rfl, rfl⟩
set_option maxRecDepth 100000 in
theorem jb_ensure {kp : pm_K} (d : Nat) (c : Int32) (f : Nat → Int32) {k : Nat} (hk : k ≤ 120) : pm_X kp (d + 1) 94 [.ref 0, .int (nI k)] (jbH c f) none (jbH c f) := by
  refine pm_Xi md_JB_ensureCapacityInternal [(0, .ref 0), (1, .int (nI k))] rfl (Nat.le_of_ble_eq_true rfl) rfl ?_
  refine pq_ld 0 rfl rfl rfl ?_
  refine pq_get rfl rfl rfl ?_
  refine pq_len rfl rfl (by decide) ?_
  refine pq_ld 0 rfl rfl rfl ?_
  refine pq_get rfl rfl rfl ?_
  refine pq_bop rfl rfl ?_
  refine pq_sto rfl rfl rfl ?_
  refine pq_ld 2 rfl rfl rfl ?_
  refine pq_ld 0 rfl rfl rfl ?_
  refine pq_bop rfl rfl ?_
  refine pq_ifc rfl (fun _ => ?_) (fun z => absurd (jb_cap' hk) z)
  exact pq_vrt rfl rfl ⟨rfl, rfl⟩
set_option maxRecDepth 100000 in
theorem jb_size {kp : pm_K} (d : Nat) (h : pm_H) {v : Nat} (hv : v < 10) : pm_X kp (d + 1) 103 [.int (nI v)] h (some (.int 1)) h := by
  refine pm_Xi md_JI_stringSize [(0, .int (nI v))] rfl (Nat.le_of_ble_eq_true rfl) rfl ?_
  refine pq_cst rfl rfl ?_
  refine pq_sto rfl rfl rfl ?_
  refine pq_ld 1 rfl rfl rfl ?_
  refine pq_ifc rfl (fun z => absurd z ((jb_d hv).2.1)) (fun _ => ?_)
  refine pq_cst rfl rfl ?_
  refine pq_sto rfl rfl rfl ?_
  refine pq_ld 1 rfl rfl rfl ?_
  refine pq_uop rfl rfl ?_
  refine pq_sto rfl rfl rfl ?_
  refine pq_cst rfl rfl ?_
  refine pq_sto rfl rfl rfl ?_
  refine pq_cst rfl rfl ?_
  refine pq_sto rfl rfl rfl ?_
  refine pq_ld 0 rfl rfl rfl ?_
  refine pq_cst rfl rfl ?_
  refine pq_icm rfl (fun z => absurd z (@of_decide_eq_false _ (jb_dec _ _ _) rfl)) (fun _ => ?_)
  refine pq_ld 2 rfl rfl rfl ?_
  refine pq_ld 1 rfl rfl rfl ?_
  refine pq_icm rfl (fun z => absurd z ((jb_d hv).2.2.1)) (fun _ => ?_)
  refine pq_ld 0 rfl rfl rfl ?_
  refine pq_ld 3 rfl rfl rfl ?_
  refine pq_bop rfl rfl ?_
  exact pq_irt rfl rfl rfl ⟨rfl, rfl⟩
set_option maxRecDepth 100000 in
theorem jb_getChars {kp : pm_K} (d : Nat) (c : Int32) (f : Nat → Int32) {v n : Nat} (hv : v < 10) (hn : n < 120) : pm_X kp (d + 1) 102 [.int (nI v), .int (nI (n + 1)), .ref 1] (jbH c f) (some (.int (nI n))) (jbH c (upd f n (nI (48 + v)))) := by
  obtain ⟨v1, v2, v3, v4, v5, v6, v7, v8⟩ := jb_d hv
  have e1 : nI (n + 1) + Int32.ofInt (-1) = nI n := by
    have h := nI_sub1 n
    rw [Int32.sub_eq_add_neg] at h
    exact h
  refine pm_Xi md_JI_getChars [(0, .int (nI v)), (1, .int (nI (n + 1))), (2, .ref 1)] rfl (Nat.le_of_ble_eq_true rfl) rfl ?_
  refine pq_ld 1 rfl rfl rfl ?_
  refine pq_sto rfl rfl rfl ?_
  refine pq_ld 1 rfl rfl rfl ?_
  refine pq_ifc rfl (fun _ => ?_) (fun z => absurd (v1) z)
  refine pq_cst rfl rfl ?_
  refine pq_sto rfl rfl rfl ?_
  refine pq_ld 0 rfl rfl rfl ?_
  refine pq_ifc rfl (fun z => absurd z (@of_decide_eq_false _ (jb_dec _ _ _) rfl)) (fun _ => ?_)
  refine pq_ld 2 rfl rfl rfl ?_
  refine pq_uop rfl rfl ?_
  refine pq_sto rfl rfl rfl ?_
  refine pq_ld 0 rfl rfl rfl ?_
  refine pq_cst rfl rfl ?_
  refine pq_icm rfl (fun _ => ?_) (fun z => absurd (v4) z)
  refine pq_ld 4 rfl rfl rfl ?_
  refine pq_inc 2 rfl rfl rfl ?_
  rw [e1]
  refine pq_ld 0 rfl rfl rfl ?_
  refine pq_gst rfl rfl ?_
  refine pq_ld 1 rfl rfl rfl ?_
  refine pq_uop rfl rfl ?_
  refine pq_kbl rfl rfl (by rw [v8]; exact jb_vin (by omega) (by omega)) ?_
  rw [v6]
  refine pq_bas rfl rfl (jb_vin hn (by omega)) ?_
  rw [v7, nI_clamp (by omega)]
  refine pq_ld 1 rfl rfl rfl ?_
  refine pq_cst rfl rfl ?_
  refine pq_icm rfl (fun _ => ?_) (fun z => absurd (v5) z)
  refine pq_ld 2 rfl rfl rfl ?_
  refine pq_ifc rfl (fun _ => ?_) (fun z => absurd (rfl) z)
  refine pq_ld 0 rfl rfl rfl ?_
  exact pq_irt rfl rfl rfl ⟨rfl, rfl⟩
set_option maxRecDepth 100000 in
theorem jb_int1 {kp : pm_K} (d : Nat) (f : Nat → Int32) {v n : Nat} (hv : v < 10) (hn : n < 120) : pm_X kp (d + 2) 98 [.ref 0, .int (nI v)] (jbH (nI n) f) (some (.ref 0)) (jbH (nI (n + 1)) (upd f n (nI (48 + v)))) := by
  refine pm_Xi md_JB_append_IAbstr [(0, .ref 0), (1, .int (nI v))] rfl (Nat.le_of_ble_eq_true rfl) rfl ?_
  refine pq_ld 0 rfl rfl rfl ?_
  refine pq_get rfl rfl rfl ?_
  refine pq_sto rfl rfl rfl ?_
  refine pq_ld 0 rfl rfl rfl ?_
  refine pq_ld 2 rfl rfl rfl ?_
  refine pq_cls rfl rfl rfl rfl (Nat.le_of_ble_eq_true rfl) (Or.inl rfl) (jb_size _ _ hv) ?_
  refine pq_bop rfl rfl ?_
  rw [nI_1]
  refine pq_sto rfl rfl rfl ?_
  refine pq_ld 2 rfl rfl rfl ?_
  refine pq_ld 0 rfl rfl rfl ?_
  refine pq_clu rfl rfl rfl (Nat.le_of_ble_eq_true rfl) rfl (Or.inl rfl) (jb_ensure _ _ _ (by omega)) ?_
  refine pq_ld 2 rfl rfl rfl ?_
  refine pq_clu rfl rfl rfl (Nat.le_of_ble_eq_true rfl) rfl (Or.inl rfl) (jb_isLatin1 _ _ _) ?_
  refine pq_ifc rfl (fun z => absurd z (@of_decide_eq_false _ (jb_dec _ _ _) rfl)) (fun _ => ?_)
  refine pq_ld 3 rfl rfl rfl ?_
  refine pq_ld 0 rfl rfl rfl ?_
  refine pq_ld 2 rfl rfl rfl ?_
  refine pq_get rfl rfl rfl ?_
  refine pq_cls rfl rfl rfl rfl (Nat.le_of_ble_eq_true rfl) (Or.inl rfl) (jb_getChars _ _ _ hv hn) ?_
  refine pq_sop rfl rfl ?_
  refine pq_goto rfl ?_
  refine pq_ld 2 rfl rfl rfl ?_
  refine pq_ld 0 rfl rfl rfl ?_
  refine pq_put rfl rfl rfl ⟨rfl, rfl⟩ rfl ?_
  refine pq_ld 2 rfl rfl rfl ?_
  exact pq_art rfl rfl ⟨rfl, rfl⟩
set_option maxRecDepth 100000 in
theorem jb_int {kp : pm_K} (d : Nat) (f : Nat → Int32) {v n : Nat} (hv : v < 10) (hn : n < 120) : pm_X kp (d + 3) 117 [.ref 0, .int (nI v)] (jbH (nI n) f) (some (.ref 0)) (jbH (nI (n + 1)) (upd f n (nI (48 + v)))) := by
  refine pm_Xi md_JR_append_IStrin [(0, .ref 0), (1, .int (nI v))] rfl (Nat.le_of_ble_eq_true rfl) rfl ?_
  refine pq_ld 0 rfl rfl rfl ?_
  refine pq_ld 1 rfl rfl rfl ?_
  refine pq_csu rfl (Or.inl ⟨rfl, rfl⟩) rfl (Nat.le_of_ble_eq_true rfl) rfl (Or.inl rfl) (jb_int1 _ _ hv hn) ?_
  refine pq_sop rfl rfl ?_
  refine pq_ld 0 rfl rfl rfl ?_
  exact pq_art rfl rfl ⟨rfl, rfl⟩
set_option maxRecDepth 100000 in
theorem jb_canEncode {kp : pm_K} (d : Nat) (h : pm_H) : pm_X kp (d + 1) 121 [.int 32] h (some (.int 1)) h := by
  refine pm_Xi md_JA_canEncode [(0, .int 32)] rfl (Nat.le_of_ble_eq_true rfl) rfl ?_
  refine pq_ld 0 rfl rfl rfl ?_
  refine pq_cst rfl rfl ?_
  refine pq_icm rfl (fun z => absurd z (@of_decide_eq_false _ (jb_dec _ _ _) rfl)) (fun _ => ?_)
  refine pq_cst rfl rfl ?_
  refine pq_goto rfl ?_
  exact pq_irt rfl rfl rfl ⟨rfl, rfl⟩
set_option maxRecDepth 100000 in
theorem jb_chr1 {kp : pm_K} (d : Nat) (f : Nat → Int32) {n : Nat} (hn : n < 120) : pm_X kp (d + 2) 97 [.ref 0, .int 32] (jbH (nI n) f) (some (.ref 0)) (jbH (nI (n + 1)) (upd f n 32)) := by
  refine pm_Xi md_JB_append_CAbstr [(0, .ref 0), (1, .int 32)] rfl (Nat.le_of_ble_eq_true rfl) rfl ?_
  refine pq_ld 0 rfl rfl rfl ?_
  refine pq_ld 0 rfl rfl rfl ?_
  refine pq_get rfl rfl rfl ?_
  refine pq_cst rfl rfl ?_
  refine pq_bop rfl rfl ?_
  rw [show nI n + Int32.ofInt 1 = nI (n + 1) from nI_1 n]
  refine pq_clu rfl rfl rfl (Nat.le_of_ble_eq_true rfl) rfl (Or.inl rfl) (jb_ensure _ _ _ (by omega)) ?_
  refine pq_ld 0 rfl rfl rfl ?_
  refine pq_clu rfl rfl rfl (Nat.le_of_ble_eq_true rfl) rfl (Or.inl rfl) (jb_isLatin1 _ _ _) ?_
  refine pq_ifc rfl (fun z => absurd z (@of_decide_eq_false _ (jb_dec _ _ _) rfl)) (fun _ => ?_)
  refine pq_ld 1 rfl rfl rfl ?_
  refine pq_cls rfl rfl rfl rfl (Nat.le_of_ble_eq_true rfl) (Or.inl rfl) (jb_canEncode _ _) ?_
  refine pq_ifc rfl (fun z => absurd z (@of_decide_eq_false _ (jb_dec _ _ _) rfl)) (fun _ => ?_)
  refine pq_ld 0 rfl rfl rfl ?_
  refine pq_get rfl rfl rfl ?_
  refine pq_ld 0 rfl rfl rfl ?_
  refine pq_sop rfl rfl ?_
  refine pq_get rfl rfl rfl ?_
  refine pq_sop rfl rfl ?_
  refine pq_cst rfl rfl ?_
  refine pq_bop rfl rfl ?_
  rw [show nI n + Int32.ofInt 1 = nI (n + 1) from nI_1 n]
  refine pq_put rfl rfl rfl ⟨rfl, rfl⟩ rfl ?_
  refine pq_ld 1 rfl rfl rfl ?_
  refine pq_uop rfl rfl ?_
  refine pq_bas rfl rfl (jb_vin hn (by omega)) ?_
  rw [nI_clamp (by omega)]
  refine pq_goto rfl ?_
  refine pq_ld 0 rfl rfl rfl ?_
  exact pq_art rfl rfl ⟨rfl, rfl⟩
set_option maxRecDepth 100000 in
theorem jb_chr {kp : pm_K} (d : Nat) (f : Nat → Int32) {n : Nat} (hn : n < 120) : pm_X kp (d + 3) 116 [.ref 0, .int 32] (jbH (nI n) f) (some (.ref 0)) (jbH (nI (n + 1)) (upd f n 32)) := by
  refine pm_Xi md_JR_append_CStrin [(0, .ref 0), (1, .int 32)] rfl (Nat.le_of_ble_eq_true rfl) rfl ?_
  refine pq_ld 0 rfl rfl rfl ?_
  refine pq_ld 1 rfl rfl rfl ?_
  refine pq_csu rfl (Or.inl ⟨rfl, rfl⟩) rfl (Nat.le_of_ble_eq_true rfl) rfl (Or.inl rfl) (jb_chr1 _ _ hn) ?_
  refine pq_sop rfl rfl ?_
  refine pq_ld 0 rfl rfl rfl ?_
  exact pq_art rfl rfl ⟨rfl, rfl⟩
/-- a given word: its bytes -/
def wd (kp : pm_K) (o N : Nat) (g : Nat → Int32) : Prop := 1000010 ≤ o ∧ o ≤ 1000018 ∧ pm_kfl o 0 = some (.ref (o + 20)) ∧ pm_kfl o 1 = some (.int 0) ∧ pm_kar kp (o + 20) = some (2, (N, .inl g)) ∧ N ≤ 6
set_option maxRecDepth 100000 in
theorem jb_coder {kp : pm_K} (d : Nat) (h : pm_H) {o N : Nat} {g : Nat → Int32} (hw : wd kp o N g) : pm_X kp (d + 1) 111 [.ref o] h (some (.int 0)) h := by
  obtain ⟨ho1, ho2, hk0, hk1, hka, hN⟩ := hw
  refine pm_Xi md_JS_coder [(0, .ref o)] rfl (Nat.le_of_ble_eq_true rfl) rfl ?_
  refine pq_gst rfl rfl ?_
  refine pq_ifc rfl (fun z => absurd z (@of_decide_eq_false _ (jb_dec _ _ _) rfl)) (fun _ => ?_)
  refine pq_ld 0 rfl rfl rfl ?_
  refine pq_gek rfl rfl (hk1) ?_
  refine pq_goto rfl ?_
  exact pq_irt rfl rfl rfl ⟨rfl, rfl⟩
set_option maxRecDepth 100000 in
theorem jb_slen {kp : pm_K} (d : Nat) (h : pm_H) {o N : Nat} {g : Nat → Int32} (hw : wd kp o N g) : pm_X kp (d + 2) 108 [.ref o] h (some (.int (nI N))) h := by
  have hw0 := hw
  obtain ⟨ho1, ho2, hk0, hk1, hka, hN⟩ := hw
  refine pm_Xi md_JS_length [(0, .ref o)] rfl (Nat.le_of_ble_eq_true rfl) rfl ?_
  refine pq_ld 0 rfl rfl rfl ?_
  refine pq_gek rfl rfl (hk0) ?_
  refine pq_kle rfl hka ?_
  refine pq_ld 0 rfl rfl rfl ?_
  refine pq_clk rfl rfl rfl rfl (Nat.le_of_ble_eq_true rfl) ho1 ho2 rfl (jb_coder _ _ hw0) ?_
  refine pq_bop rfl rfl ?_
  rw [show Int32.ofNat N >>> ((0 : Int32) &&& 31) = nI N from (nI_shr (n := N) (k := 0) (by omega) (by omega)).trans (by rw [Nat.pow_zero, Nat.div_one])]
  exact pq_irt rfl rfl rfl ⟨rfl, rfl⟩
set_option maxRecDepth 100000 in
theorem jb_inflate {kp : pm_K} (d : Nat) (c : Int32) (f : Nat → Int32) {o N : Nat} {g : Nat → Int32} (hw : wd kp o N g) : pm_X kp (d + 2) 100 [.ref 0, .ref o] (jbH c f) none (jbH c f) := by
  have hw0 := hw
  obtain ⟨ho1, ho2, hk0, hk1, hka, hN⟩ := hw
  refine pm_Xi md_JB_inflateIfNeededFor [(0, .ref 0), (1, .ref o)] rfl (Nat.le_of_ble_eq_true rfl) rfl ?_
  refine pq_gst rfl rfl ?_
  refine pq_ifc rfl (fun z => absurd z (@of_decide_eq_false _ (jb_dec _ _ _) rfl)) (fun _ => ?_)
  refine pq_ld 0 rfl rfl rfl ?_
  refine pq_get rfl rfl rfl ?_
  refine pq_ld 1 rfl rfl rfl ?_
  refine pq_clk rfl rfl rfl rfl (Nat.le_of_ble_eq_true rfl) ho1 ho2 rfl (jb_coder _ _ hw0) ?_
  refine pq_icm rfl (fun _ => ?_) (fun z => absurd (rfl) z)
  exact pq_vrt rfl rfl ⟨rfl, rfl⟩
set_option maxRecDepth 100000 in
theorem jb_getBytes {kp : pm_K} (d : Nat) (c : Int32) (f : Nat → Int32) {o N n : Nat} {g : Nat → Int32} (hw : wd kp o N g) (hn : n + N ≤ 120) : pm_X kp (d + 2) 110 [.ref o, .ref 1, .int (nI n), .int 0] (jbH c f) none (jbH c (va_cpy g f 0 n N)) := by
  have hw0 := hw
  obtain ⟨ho1, ho2, hk0, hk1, hka, hN⟩ := hw
  refine pm_Xi md_JS_getBytes [(0, .ref o), (1, .ref 1), (2, .int (nI n)), (3, .int 0)] rfl (Nat.le_of_ble_eq_true rfl) rfl ?_
  refine pq_ld 0 rfl rfl rfl ?_
  refine pq_clk rfl rfl rfl rfl (Nat.le_of_ble_eq_true rfl) ho1 ho2 rfl (jb_coder _ _ hw0) ?_
  refine pq_ld 3 rfl rfl rfl ?_
  refine pq_icm rfl (fun z => absurd z (@of_decide_eq_false _ (jb_dec _ _ _) rfl)) (fun _ => ?_)
  refine pq_ld 0 rfl rfl rfl ?_
  refine pq_gek rfl rfl (hk0) ?_
  refine pq_cst rfl rfl ?_
  refine pq_ld 1 rfl rfl rfl ?_
  refine pq_ld 2 rfl rfl rfl ?_
  refine pq_ld 3 rfl rfl rfl ?_
  refine pq_bop rfl rfl ?_
  rw [show nI n <<< ((0 : Int32) &&& 31) = nI n from (nI_shl (n := n) (k := 0) (by omega)).trans (by rw [Nat.pow_zero, Nat.mul_one])]
  refine pq_ld 0 rfl rfl rfl ?_
  refine pq_gek rfl rfl (hk0) ?_
  refine pq_kle rfl hka ?_
  rw [show Int32.ofNat N = nI N from rfl]
  refine pq_acp rfl rfl hka rfl (by decide) (nI_pos (by omega)) (nI_pos (show N < 2 ^ 31 by omega)) (by rw [nI_clamp (show N < 2 ^ 31 by omega)]; show 0 + N ≤ N; omega) (by rw [nI_clamp (show N < 2 ^ 31 by omega), nI_clamp (show n < 2 ^ 31 by omega)]; exact hn) (Nat.le_of_ble_eq_true rfl) ?_
  rw [nI_clamp (show N < 2 ^ 31 by omega), nI_clamp (show n < 2 ^ 31 by omega)]
  refine pq_goto rfl ?_
  exact pq_vrt rfl rfl ⟨rfl, rfl⟩
set_option maxRecDepth 100000 in
theorem jb_put {kp : pm_K} (d : Nat) (c : Int32) (f : Nat → Int32) {o N n : Nat} {g : Nat → Int32} (hw : wd kp o N g) (hn : n + N ≤ 120) : pm_X kp (d + 3) 101 [.ref 0, .int (nI n), .ref o] (jbH c f) none (jbH c (va_cpy g f 0 n N)) := by
  have hw0 := hw
  obtain ⟨ho1, ho2, hk0, hk1, hka, hN⟩ := hw
  refine pm_Xi md_JB_putStringAt [(0, .ref 0), (1, .int (nI n)), (2, .ref o)] rfl (Nat.le_of_ble_eq_true rfl) rfl ?_
  refine pq_ld 0 rfl rfl rfl ?_
  refine pq_ld 2 rfl rfl rfl ?_
  refine pq_clu rfl rfl rfl (Nat.le_of_ble_eq_true rfl) rfl (Or.inl rfl) (jb_inflate _ _ _ hw0) ?_
  refine pq_ld 2 rfl rfl rfl ?_
  refine pq_ld 0 rfl rfl rfl ?_
  refine pq_get rfl rfl rfl ?_
  refine pq_ld 1 rfl rfl rfl ?_
  refine pq_ld 0 rfl rfl rfl ?_
  refine pq_get rfl rfl rfl ?_
  refine pq_clk rfl rfl rfl rfl (Nat.le_of_ble_eq_true rfl) ho1 ho2 rfl (jb_getBytes _ _ _ hw0 hn) ?_
  exact pq_vrt rfl rfl ⟨rfl, rfl⟩
set_option maxRecDepth 100000 in
theorem jb_str1 {kp : pm_K} (d : Nat) (f : Nat → Int32) {o N n : Nat} {g : Nat → Int32} (hw : wd kp o N g) (hn : n + N ≤ 120) : pm_X kp (d + 4) 96 [.ref 0, .ref o] (jbH (nI n) f) (some (.ref 0)) (jbH (nI (n + N)) (va_cpy g f 0 n N)) := by
  have hw0 := hw
  obtain ⟨ho1, ho2, hk0, hk1, hka, hN⟩ := hw
  refine pm_Xi md_JB_append_String [(0, .ref 0), (1, .ref o)] rfl (Nat.le_of_ble_eq_true rfl) rfl ?_
  refine pq_ld 1 rfl rfl rfl ?_
  refine pq_inn rfl ?_
  refine pq_ld 1 rfl rfl rfl ?_
  refine pq_clk rfl rfl rfl rfl (Nat.le_of_ble_eq_true rfl) ho1 ho2 rfl (jb_slen _ _ hw0) ?_
  refine pq_sto rfl rfl rfl ?_
  refine pq_ld 1 rfl rfl rfl ?_
  refine pq_ld 1 rfl rfl rfl ?_
  refine pq_get rfl rfl rfl ?_
  refine pq_ld 0 rfl rfl rfl ?_
  refine pq_bop rfl rfl ?_
  rw [nI_add]
  refine pq_clu rfl rfl rfl (Nat.le_of_ble_eq_true rfl) rfl (Or.inl rfl) (jb_ensure _ _ _ hn) ?_
  refine pq_ld 1 rfl rfl rfl ?_
  refine pq_ld 1 rfl rfl rfl ?_
  refine pq_get rfl rfl rfl ?_
  refine pq_ld 2 rfl rfl rfl ?_
  refine pq_clu rfl rfl rfl (Nat.le_of_ble_eq_true rfl) rfl (Or.inl rfl) (jb_put _ _ _ hw0 hn) ?_
  refine pq_ld 1 rfl rfl rfl ?_
  refine pq_sop rfl rfl ?_
  refine pq_get rfl rfl rfl ?_
  refine pq_ld 0 rfl rfl rfl ?_
  refine pq_bop rfl rfl ?_
  rw [nI_add]
  refine pq_put rfl rfl rfl ⟨rfl, rfl⟩ rfl ?_
  refine pq_ld 1 rfl rfl rfl ?_
  exact pq_art rfl rfl ⟨rfl, rfl⟩
set_option maxRecDepth 100000 in
theorem jb_str {kp : pm_K} (d : Nat) (f : Nat → Int32) {o N n : Nat} {g : Nat → Int32} (hw : wd kp o N g) (hn : n + N ≤ 120) : pm_X kp (d + 5) 115 [.ref 0, .ref o] (jbH (nI n) f) (some (.ref 0)) (jbH (nI (n + N)) (va_cpy g f 0 n N)) := by
  refine pm_Xi md_JR_append_String [(0, .ref 0), (1, .ref o)] rfl (Nat.le_of_ble_eq_true rfl) rfl ?_
  refine pq_ld 0 rfl rfl rfl ?_
  refine pq_ld 1 rfl rfl rfl ?_
  refine pq_csu rfl (Or.inl ⟨rfl, rfl⟩) rfl (Nat.le_of_ble_eq_true rfl) rfl (Or.inl rfl) (jb_str1 _ _ hw hn) ?_
  refine pq_sop rfl rfl ?_
  refine pq_ld 0 rfl rfl rfl ?_
  exact pq_art rfl rfl ⟨rfl, rfl⟩
set_option maxRecDepth 100000 in
theorem jb_len1 {kp : pm_K} (d : Nat) (c : Int32) (f : Nat → Int32) : pm_X kp (d + 1) 93 [.ref 0] (jbH c f) (some (.int c)) (jbH c f) := by
  refine pm_Xi md_JB_length [(0, .ref 0)] rfl (Nat.le_of_ble_eq_true rfl) rfl ?_
  refine pq_ld 0 rfl rfl rfl ?_
  refine pq_get rfl rfl rfl ?_
  exact pq_irt rfl rfl rfl ⟨rfl, rfl⟩
set_option maxRecDepth 100000 in
theorem jb_len {kp : pm_K} (d : Nat) (c : Int32) (f : Nat → Int32) : pm_X kp (d + 2) 119 [.ref 0] (jbH c f) (some (.int c)) (jbH c f) := by
  refine pm_Xi md_JR_length [(0, .ref 0)] rfl (Nat.le_of_ble_eq_true rfl) rfl ?_
  refine pq_ld 0 rfl rfl rfl ?_
  refine pq_csu rfl (Or.inl ⟨rfl, rfl⟩) rfl (Nat.le_of_ble_eq_true rfl) rfl (Or.inl rfl) (jb_len1 _ _ _) ?_
  exact pq_irt rfl rfl rfl ⟨rfl, rfl⟩
set_option maxRecDepth 100000 in
theorem jb_check1 {kp : pm_K} (d : Nat) (h : pm_H) {i n : Nat} (hi : i < n) (hn : n ≤ 120) : pm_X kp (d + 1) 122 [.int (nI i), .int (nI n), .retAddr 0] h (some (.int (nI i))) h := by
  refine pm_Xi md_JP_checkIndex [(0, .int (nI i)), (1, .int (nI n)), (2, .retAddr 0)] rfl (Nat.le_of_ble_eq_true rfl) rfl ?_
  refine pq_ld 0 rfl rfl rfl ?_
  refine pq_ifc rfl (fun z => absurd z (nI_pos (by omega))) (fun _ => ?_)
  refine pq_ld 0 rfl rfl rfl ?_
  refine pq_ld 1 rfl rfl rfl ?_
  refine pq_icm rfl (fun _ => ?_) (fun z => absurd (nI_lt hi (by omega)) z)
  refine pq_ld 0 rfl rfl rfl ?_
  exact pq_irt rfl rfl rfl ⟨rfl, rfl⟩
set_option maxRecDepth 100000 in
theorem jb_check {kp : pm_K} (d : Nat) (h : pm_H) {i n : Nat} (hi : i < n) (hn : n ≤ 120) : pm_X kp (d + 2) 113 [.int (nI i), .int (nI n)] h none h := by
  refine pm_Xi md_JS_checkIndex [(0, .int (nI i)), (1, .int (nI n))] rfl (Nat.le_of_ble_eq_true rfl) rfl ?_
  refine pq_ld 0 rfl rfl rfl ?_
  refine pq_ld 1 rfl rfl rfl ?_
  refine pq_gst rfl rfl ?_
  refine pq_cls rfl rfl rfl rfl (Nat.le_of_ble_eq_true rfl) (Or.inl rfl) (jb_check1 _ _ hi hn) ?_
  refine pq_sop rfl rfl ?_
  exact pq_vrt rfl rfl ⟨rfl, rfl⟩
theorem jb_i2c (x : Int32) : narrow .char (.int (qo_i2c x)) = .int (qo_i2c x) := by
  show Value.int _ = Value.int _
  have e : x.toUInt32 % 65536 % 65536 = x.toUInt32 % 65536 := UInt32.toNat_inj.mp (by rw [UInt32.toNat_mod, UInt32.toNat_mod]; exact Nat.mod_mod _ _)
  unfold qo_i2c
  simp [e]
set_option maxRecDepth 100000 in
theorem jb_charAt1 {kp : pm_K} (d : Nat) (f : Nat → Int32) {i n : Nat} (hi : i < n) (hn : n ≤ 120) : pm_X kp (d + 3) 95 [.ref 0, .int (nI i)] (jbH (nI n) f) (some (.int (qo_i2c (f i &&& (Int16.ofInt 255).toInt32)))) (jbH (nI n) f) := by
  refine pm_Xi md_JB_charAt [(0, .ref 0), (1, .int (nI i))] rfl (Nat.le_of_ble_eq_true rfl) rfl ?_
  refine pq_ld 0 rfl rfl rfl ?_
  refine pq_get rfl rfl rfl ?_
  refine pq_sto rfl rfl rfl ?_
  refine pq_ld 1 rfl rfl rfl ?_
  refine pq_get rfl rfl rfl ?_
  refine pq_sto rfl rfl rfl ?_
  refine pq_ld 2 rfl rfl rfl ?_
  refine pq_get rfl rfl rfl ?_
  refine pq_ld 0 rfl rfl rfl ?_
  refine pq_len rfl rfl (by decide) ?_
  refine pq_ld 1 rfl rfl rfl ?_
  refine pq_bop rfl rfl ?_
  refine pq_mmn rfl rfl (Nat.le_of_ble_eq_true rfl) ?_
  rw [show (if Int32.ofNat 120 >>> ((0 : Int32) &&& 31) < nI n then Int32.ofNat 120 >>> ((0 : Int32) &&& 31) else nI n) = nI n from if_neg (show ¬ nI 120 < nI n from nI_nlt hn (by omega))]
  refine pq_sto rfl rfl rfl ?_
  refine pq_ld 4 rfl rfl rfl ?_
  refine pq_ld 0 rfl rfl rfl ?_
  refine pq_cls rfl rfl rfl rfl (Nat.le_of_ble_eq_true rfl) (Or.inl rfl) (jb_check _ _ hi hn) ?_
  refine pq_ld 2 rfl rfl rfl ?_
  refine pq_ifc rfl (fun z => absurd z (@of_decide_eq_false _ (jb_dec _ _ _) rfl)) (fun _ => ?_)
  refine pq_ld 1 rfl rfl rfl ?_
  refine pq_ld 4 rfl rfl rfl ?_
  refine pq_bal rfl rfl (jb_vin (by omega) (by omega)) ?_
  rw [nI_clamp (by omega)]
  refine pq_cst rfl rfl ?_
  refine pq_bop rfl rfl ?_
  refine pq_uop rfl rfl ?_
  exact pq_irt rfl rfl (jb_i2c _) ⟨rfl, rfl⟩
set_option maxRecDepth 100000 in
theorem jb_charAt {kp : pm_K} (d : Nat) (f : Nat → Int32) {i n : Nat} (hi : i < n) (hn : n ≤ 120) : pm_X kp (d + 4) 118 [.ref 0, .int (nI i)] (jbH (nI n) f) (some (.int (qo_i2c (f i &&& (Int16.ofInt 255).toInt32)))) (jbH (nI n) f) := by
  refine pm_Xi md_JR_charAt [(0, .ref 0), (1, .int (nI i))] rfl (Nat.le_of_ble_eq_true rfl) rfl ?_
  refine pq_ld 0 rfl rfl rfl ?_
  refine pq_ld 1 rfl rfl rfl ?_
  refine pq_csu rfl (Or.inl ⟨rfl, rfl⟩) rfl (Nat.le_of_ble_eq_true rfl) rfl (Or.inl rfl) (jb_charAt1 _ _ hi hn) ?_
  exact pq_irt rfl rfl (jb_i2c _) ⟨rfl, rfl⟩
