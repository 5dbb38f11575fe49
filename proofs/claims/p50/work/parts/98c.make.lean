/-! what the law makes: boards, the builder; printed by wip/p50/w/gen_al.py -/
section QX
variable {kp : pm_K} {md : pm_M} {C : pm_C} {hb sb : Nat} {Q : Option Value → pm_H → Prop}
theorem qx_nwa {pc nx a b : Nat} {lv : pm_L} {st : List Value} {H X : pm_H} {ty : ArrayType} {n : Int32} {N L : Nat} (g0 : pm_at (pm_cd md) pc = some (.newarray ty, nx, a, b)) (g1 : pm_al md = true) (g2 : ¬ n < 0) (g3 : n.toNatClampNeg = N) (g4 : N ≤ 1000000) (hL : X.length = L) (g5 : L + 1 ≤ hb) (g6 : pm_sl X + N ≤ sb) (g7 : H.length + L < 100000)
    (g8 : pm_W kp md C (H.length + hb) (pm_sl H + sb) Q nx lv (.ref (H.length + L) :: st) (H ++ (X ++ [.inl (a, (N, pm_zer a))]))) : pm_W kp md C (H.length + hb) (pm_sl H + sb) Q pc lv (.int n :: st) (H ++ X) :=
  pq_nwa g0 g1 g2 g3 g4 (by rw [List.length_append]; omega) (by rw [sl_app]; omega) (by rw [List.length_append]; omega) (by rw [List.length_append, hL, List.append_assoc]; exact g8)
theorem qx_nwm {pc nx a b : Nat} {lv : pm_L} {st : List Value} {H X : pm_H} {i : Nat} {n m : Int32} {N M L : Nat} (g0 : pm_at (pm_cd md) pc = some (.multianewarray i 2, nx, a, b)) (g1 : (a = 5 ∨ a = 6)) (g2 : pm_al md = true) (g3 : ¬ n < 0) (g4 : ¬ m < 0) (g5 : n.toNatClampNeg = N) (g6 : m.toNatClampNeg = M) (g7 : N ≤ 100) (g8 : M ≤ 100) (hL : X.length = L) (g9 : L + (1 + N) ≤ hb) (g10 : pm_sl X + (N + N * M) ≤ sb) (g11 : H.length + L + N < 100000)
    (g12 : pm_W kp md C (H.length + hb) (pm_sl H + sb) Q nx lv (.ref (H.length + L) :: st) (H ++ (X ++ ([.inl (a, (N, .inr (.inr (.inr (.inr fun j => if j < N then some (H.length + L + 1 + j) else none)))))] ++ List.replicate N (pm_row a M))))) : pm_W kp md C (H.length + hb) (pm_sl H + sb) Q pc lv (.int m :: .int n :: st) (H ++ X) :=
  pq_nwm g0 g1 g2 g3 g4 g5 g6 g7 g8 (by rw [List.length_append]; omega) (by rw [sl_app]; omega) (by rw [List.length_append]; omega) (by rw [List.length_append, hL, List.append_assoc]; exact g12)
theorem qx_get {pc nx a b : Nat} {lv : pm_L} {st : List Value} {H X : pm_H} {n : Nat} {fs : List Value} {v : Value} (i : Nat) (g0 : pm_at (pm_cd md) pc = some (.getfield n, nx, a, b)) (g1 : X[i]? = some (.inr (a, fs))) (g2 : fs[b]? = some v) (g3 : pm_W kp md C hb sb Q nx lv (v :: st) (H ++ X)) : pm_W kp md C hb sb Q pc lv (.ref (H.length + i) :: st) (H ++ X) :=
  pq_get g0 (by rw [ap_g]; exact g1) g2 g3
theorem qx_put {pc nx a b : Nat} {lv : pm_L} {st : List Value} {H X : pm_H} {n : Nat} {fs fs1 : List Value} {v : Value} {ty : FieldType} (i : Nat) (g0 : pm_at (pm_cd md) pc = some (.putfield n, nx, a, b)) (g1 : X[i]? = some (.inr (a, fs))) (g2 : pm_fty a b = some (ty, false)) (g3 : pm_fit ty v) (g4 : pm_set fs b v = some fs1) (g5 : pm_W kp md C hb sb Q nx lv st (H ++ X.set i (.inr (a, fs1)))) : pm_W kp md C hb sb Q pc lv (v :: .ref (H.length + i) :: st) (H ++ X) :=
  pq_put g0 (by rw [ap_g]; exact g1) g2 g3 g4 (by rw [ap_s]; exact g5)
theorem qx_ias {pc nx a b : Nat} {lv : pm_L} {st : List Value} {H X : pm_H} {n : Nat} {f : Nat → Int32} {j x : Int32} (i : Nat) (g0 : pm_at (pm_cd md) pc = some (.iastore, nx, a, b)) (g1 : X[i]? = some (.inl (0, (n, .inl f)))) (g2 : vp_in j n) (g3 : pm_W kp md C hb sb Q nx lv st (H ++ X.set i (.inl (0, (n, .inl (upd f j.toNatClampNeg x)))))) : pm_W kp md C hb sb Q pc lv (.int x :: .int j :: .ref (H.length + i) :: st) (H ++ X) :=
  pq_ias g0 (by rw [ap_g]; exact g1) g2 (by rw [ap_s]; exact g3)
theorem qx_clo {pc nx a b : Nat} {lv : pm_L} {st : List Value} {H X : pm_H} {n o N L : Nat} {f : Nat → Int32} (g0 : pm_at (pm_cd md) pc = some (.invokevirtual n, nx, a, b)) (g1 : a = 1003) (g2 : (b = 0 ∨ b = 3 ∧ ∀ i, i < N → f i = 0 ∨ f i = 1)) (g3 : pm_al md = true) (g4 : H[o]? = some (.inl (b, (N, .inl f)))) (g5 : pm_cat st ≤ 8) (hL : X.length = L) (g6 : L + 1 ≤ hb) (g7 : pm_sl X + N ≤ sb) (g8 : H.length + L < 100000)
    (g9 : pm_W kp md C (H.length + hb) (pm_sl H + sb) Q nx lv (.ref (H.length + L) :: st) (H ++ (X ++ [.inl (b, (N, .inl f))]))) : pm_W kp md C (H.length + hb) (pm_sl H + sb) Q pc lv (.ref o :: st) (H ++ X) :=
  pq_clo g0 g1 g2 g3 (ap_k X g4) g5 (by rw [List.length_append]; omega) (by rw [sl_app]; omega) (by rw [List.length_append]; omega) (by rw [List.length_append, hL, List.append_assoc]; exact g9)
theorem qx_cca {pc nx a b : Nat} {lv : pm_L} {st : List Value} {H X : pm_H} {n : Nat} {x : vp_A} (i : Nat) (g0 : pm_at (pm_cd md) pc = some (.checkcast n, nx, a, b)) (g1 : (a = 0 ∨ a = 3)) (g2 : X[i]? = some (.inl (a, x))) (g3 : pm_W kp md C hb sb Q nx lv (.ref (H.length + i) :: st) (H ++ X)) : pm_W kp md C hb sb Q pc lv (.ref (H.length + i) :: st) (H ++ X) :=
  pq_cca g0 g1 (by rw [ap_g]; exact g2) g3
theorem qx_aam {pc nx a b : Nat} {lv : pm_L} {st : List Value} {H X : pm_H} {n : Nat} {f : Nat → Option Nat} {j : Int32} {x : vp_A} (i k : Nat) (g0 : pm_at (pm_cd md) pc = some (.aastore, nx, a, b)) (g1 : X[i]? = some (.inl (6, (n, .inr (.inr (.inr (.inr f))))))) (g2 : vp_in j n) (g3 : X[k]? = some (.inl (3, x))) (g4 : pm_W kp md C hb sb Q nx lv st (H ++ X.set i (.inl (6, (n, .inr (.inr (.inr (.inr (va_up f j.toNatClampNeg (some (H.length + k)))))))))))
    : pm_W kp md C hb sb Q pc lv (.ref (H.length + k) :: .int j :: .ref (H.length + i) :: st) (H ++ X) :=
  pq_aam g0 (by rw [ap_g]; exact g1) g2 (by rw [ap_g]; exact g3) (by rw [ap_s]; exact g4)
end QX
theorem pm_XA {kp : pm_K} {d k : Nat} {as : List Value} {h H X : pm_H} {r : Option Value} (md : pm_M) (lv : pm_L) (hb sb : Nat) (g : pt_M[k]? = some md) (ga : pm_asz as ≤ md.2.2.1) (e : lv_args 0 as = lv) (e1 : X.length = hb) (e2 : pm_sl X = sb)
    (w : pm_W kp md (pm_X kp d) (H.length + hb) (pm_sl H + sb) (fun r2 h2 => r2 = r ∧ h2 = H ++ X) 0 lv [] h) : pm_X kp (d + 1) k as h r (H ++ X) := pm_Xi md lv g ga e (by rw [List.length_append, sl_app, e1, e2]; exact w)
/-- a new board at n -/
def bI (n : Nat) : pm_H := [.inr (11, [.ref (n + 1), .ref (n + 2), .ref (n + 3), .ref (n + 4)]), .inl (0, (2, .inl (upd (upd (fun _ => 0) 0 3) 1 3))), .inl (0, (2, .inl (fun _ => 0))), .inl (0, (2, .inl (upd (upd (fun _ => 0) 0 2) 1 2))),
  .inl (6, (6, .inr (.inr (.inr (.inr fun j => if j < 6 then some (n + 4 + 1 + j) else none))))), .inl (3, (6, .inl fun _ => 0)), .inl (3, (6, .inl fun _ => 0)), .inl (3, (6, .inl fun _ => 0)), .inl (3, (6, .inl fun _ => 0)), .inl (3, (6, .inl fun _ => 0)), .inl (3, (6, .inl fun _ => 0))]
set_option maxRecDepth 100000 in
theorem al_board {kp : pm_K} (d : Nat) (H : pm_H) (hH : H.length ≤ 90000) : pm_X kp (d + 1) 85 [.ref H.length] (H ++ [.inr (11, [.null, .null, .null, .null])]) none (H ++ bI H.length) := by
  refine pm_XA md_B_init [(0, .ref H.length)] 11 52 rfl (Nat.le_of_ble_eq_true rfl) rfl rfl (by unfold bI; simp only [pm_sl, pm_sz, List.length_cons, List.length_nil]) ?_
  refine pq_ld 0 rfl rfl rfl ?_
  refine pq_obj rfl rfl (by decide) ?_
  refine pq_ld 0 rfl rfl rfl ?_
  refine pq_cst rfl rfl ?_
  refine qx_nwa (L := 1) rfl rfl (by decide) rfl (by decide) rfl (Nat.le_of_ble_eq_true rfl) (Nat.le_of_ble_eq_true rfl) (by omega) ?_
  refine pq_sop rfl rfl ?_
  refine pq_cst rfl rfl ?_
  refine pq_cst rfl rfl ?_
  refine qx_ias 1 rfl rfl (qm_in_ok rfl) ?_
  refine pq_sop rfl rfl ?_
  refine pq_cst rfl rfl ?_
  refine pq_cst rfl rfl ?_
  refine qx_ias 1 rfl rfl (qm_in_ok rfl) ?_
  refine qx_put 0 rfl rfl rfl ⟨rfl, rfl⟩ rfl ?_
  refine pq_ld 0 rfl rfl rfl ?_
  refine pq_cst rfl rfl ?_
  refine qx_nwa (L := 2) rfl rfl (by decide) rfl (by decide) rfl (Nat.le_of_ble_eq_true rfl) (Nat.le_of_ble_eq_true rfl) (by omega) ?_
  refine qx_put 0 rfl rfl rfl ⟨rfl, rfl⟩ rfl ?_
  refine pq_ld 0 rfl rfl rfl ?_
  refine pq_cst rfl rfl ?_
  refine qx_nwa (L := 3) rfl rfl (by decide) rfl (by decide) rfl (Nat.le_of_ble_eq_true rfl) (Nat.le_of_ble_eq_true rfl) (by omega) ?_
  refine pq_sop rfl rfl ?_
  refine pq_cst rfl rfl ?_
  refine pq_cst rfl rfl ?_
  refine qx_ias 3 rfl rfl (qm_in_ok rfl) ?_
  refine pq_sop rfl rfl ?_
  refine pq_cst rfl rfl ?_
  refine pq_cst rfl rfl ?_
  refine qx_ias 3 rfl rfl (qm_in_ok rfl) ?_
  refine qx_put 0 rfl rfl rfl ⟨rfl, rfl⟩ rfl ?_
  refine pq_ld 0 rfl rfl rfl ?_
  refine pq_cst rfl rfl ?_
  refine pq_cst rfl rfl ?_
  refine qx_nwm (N := 6) (M := 6) (L := 4) rfl (Or.inr rfl) rfl (by decide) (by decide) rfl rfl (by decide) (by decide) rfl (Nat.le_of_ble_eq_true rfl) (Nat.le_of_ble_eq_true rfl) (by omega) ?_
  refine qx_put 0 rfl rfl rfl ⟨rfl, rfl⟩ rfl ?_
  exact pq_vrt rfl rfl ⟨rfl, rfl⟩
def sI (n : Nat) : pm_H := [.inr (12, [.ref (n + 1), .int 0, .int 0, .int 0]), .inl (2, (120, .inl fun _ => 0))]
set_option maxRecDepth 100000 in
theorem al_sb1 {kp : pm_K} (d : Nat) (H : pm_H) (hH : H.length ≤ 90000) : pm_X kp (d + 1) 92 [.ref H.length, .int 120] (H ++ [.inr (12, [.null, .int 0, .int 0, .int 0])]) none (H ++ sI H.length) := by
  refine pm_XA md_JB_init [(0, .ref H.length), (1, .int 120)] 2 124 rfl (Nat.le_of_ble_eq_true rfl) rfl rfl rfl ?_
  refine pq_ld 0 rfl rfl rfl ?_
  refine pq_obj rfl rfl (by decide) ?_
  refine pq_gst rfl rfl ?_
  refine pq_ifc rfl (fun z => absurd z (@of_decide_eq_false _ (jb_dec _ _ _) rfl)) (fun _ => ?_)
  refine pq_ld 0 rfl rfl rfl ?_
  refine pq_ld 1 rfl rfl rfl ?_
  refine qx_nwa (L := 1) rfl rfl (by decide) rfl (by decide) rfl (Nat.le_of_ble_eq_true rfl) (Nat.le_of_ble_eq_true rfl) (by omega) ?_
  refine qx_put 0 rfl rfl rfl ⟨rfl, rfl⟩ rfl ?_
  refine pq_ld 0 rfl rfl rfl ?_
  refine pq_cst rfl rfl ?_
  refine qx_put 0 rfl rfl rfl ⟨rfl, rfl⟩ rfl ?_
  refine pq_goto rfl ?_
  exact pq_vrt rfl rfl ⟨rfl, rfl⟩
set_option maxRecDepth 100000 in
theorem al_sb {kp : pm_K} (d : Nat) (H : pm_H) (hH : H.length ≤ 90000) : pm_X kp (d + 2) 114 [.ref H.length, .int 120] (H ++ [.inr (12, [.null, .int 0, .int 0, .int 0])]) none (H ++ sI H.length) := by
  refine pm_XA md_JR_init [(0, .ref H.length), (1, .int 120)] 2 124 rfl (Nat.le_of_ble_eq_true rfl) rfl rfl rfl ?_
  refine pq_ld 0 rfl rfl rfl ?_
  refine pq_ld 1 rfl rfl rfl ?_
  refine pq_csu rfl (Or.inr rfl) rfl (Nat.le_of_ble_eq_true rfl) (ap_g H _ 0) (Or.inr ⟨rfl, by rw [List.length_append]; exact Nat.le_refl _, by rw [sl_app]; exact Nat.le_refl _⟩) (al_sb1 _ H hH) ?_
  exact pq_vrt rfl rfl ⟨rfl, rfl⟩
/-- a board's cells on a heap -/
def bH (A : Nat → Nat) (m : qm_M) (H : pm_H) : Prop := H[A 112]? = some (.inr (11, [.ref (A 113), .ref (A 114), .ref (A 115), .ref (A 116)])) ∧ H[A 113]? = some (.inl (0, (2, .inl (m.1 113)))) ∧ H[A 114]? = some (.inl (0, (2, .inl (m.1 114)))) ∧ H[A 115]? = some (.inl (0, (2, .inl (m.1 115)))) ∧
  (∃ f : Nat → Option Nat, H[A 116]? = some (.inl (6, (6, .inr (.inr (.inr (.inr f)))))) ∧ (∀ r, r < 6 → f r = some (A (117 + r))) ∧ ∀ r, 6 ≤ r → f r = none) ∧ ∀ r, r < 6 → H[A (117 + r)]? = some (.inl (3, (6, .inl (m.1 (117 + r)))))
theorem al_nx {kp : pm_K} {md : pm_M} {C : pm_C} {hb sb : Nat} {Q : Option Value → pm_H → Prop} {pc : Nat} {lv : pm_L} {st : List Value} {H X : pm_H} (X2 : pm_H) (e : X = X2) (w : pm_W kp md C hb sb Q pc lv st (H ++ X2)) : pm_W kp md C hb sb Q pc lv st (H ++ X) := e ▸ w
/-- a copy made at n -/
def bC' (n : Nat) (m : qm_M) : pm_H := [.inr (11, [.ref (n + 11), .ref (n + 12), .ref (n + 13), .ref (n + 4)]), .inl (0, (2, .inl (upd (upd (fun _ => 0) 0 3) 1 3))), .inl (0, (2, .inl (fun _ => 0))), .inl (0, (2, .inl (upd (upd (fun _ => 0) 0 2) 1 2))),
  .inl (6, (6, .inr (.inr (.inr (.inr (va_up (va_up (va_up (va_up (va_up (va_up (fun j => if j < 6 then some (n + 4 + 1 + j) else none) 0 (some (n + 14))) 1 (some (n + 15))) 2 (some (n + 16))) 3 (some (n + 17))) 4 (some (n + 18))) 5 (some (n + 19)))))))), .inl (3, (6, .inl fun _ => 0)), .inl (3, (6, .inl fun _ => 0)), .inl (3, (6, .inl fun _ => 0)), .inl (3, (6, .inl fun _ => 0)), .inl (3, (6, .inl fun _ => 0)), .inl (3, (6, .inl fun _ => 0)),
  .inl (0, (2, .inl (m.1 113))), .inl (0, (2, .inl (m.1 114))), .inl (0, (2, .inl (m.1 115))), .inl (3, (6, .inl (m.1 117))), .inl (3, (6, .inl (m.1 118))), .inl (3, (6, .inl (m.1 119))), .inl (3, (6, .inl (m.1 120))), .inl (3, (6, .inl (m.1 121))), .inl (3, (6, .inl (m.1 122)))]
