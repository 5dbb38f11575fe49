/-! says: the law feeds a text; printed by wip/p50/w/gen_says.py -/
theorem sb_pure {kp : pm_K} {Wa V : Nat} {c : Int32} {f : Nat → Int32} {H : pm_H} (hB : sbd Wa V c f H) {d k : Nat} {as : List Value} {r : Option Value} (hx : pm_X kp d k as (jbH c f) r (jbH c f)) (hm : pm_mal k = false) (has : ∀ v ∈ as, rn_ok (fun k => k < 2) v) :
    pm_X kp d k (as.map (rn_v (sba Wa V))) H (r.map (rn_v (sba Wa V))) H := by
  obtain ⟨H1, s1, o4, w⟩ := sb_call hB hx hm has
  have e : H1 = H := by
    apply List.ext_getElem?
    intro a
    by_cases q : a = Wa
    · rw [q, s1.1, hB.1]
    · by_cases q2 : a = V
      · rw [q2, s1.2.1, hB.2.1]
      · refine o4.1 a (fun k hk z => ?_)
        have hk : k < 2 := hk
        rcases (by omega : k = 0 ∨ k = 1) with rfl | rfl
        · exact q z.symm
        · exact q2 z.symm
  rw [e] at w
  exact w
/-- the builder holds n characters -/
def tx (T : Nat → Nat) (n : Nat) (f : Nat → Int32) : Prop := n ≤ 100 ∧ ∀ k, k < n → f k = nI (T k) ∧ T k < 128
def txt (T : Nat → Nat) (n b i : Nat) : Nat := if b + i < n then T (b + i) else 0
theorem txt_lt {T : Nat → Nat} {n : Nat} {f : Nat → Int32} (h : tx T n f) (b i : Nat) : txt T n b i < 128 := by
  unfold txt
  by_cases q : b + i < n
  · rw [if_pos q]; exact (h.2 _ q).2
  · rw [if_neg q]; omega
theorem ls_len {kp : pm_K} (d : Nat) {Wa V : Nat} {c : Int32} {f : Nat → Int32} {H : pm_H} (hB : sbd Wa V c f H) : pm_X kp (d + 2) 119 [.ref Wa] H (some (.int c)) H := sb_pure hB (jb_len d c f) rfl (fun v hv => by
  simp only [List.mem_cons, List.not_mem_nil, or_false] at hv
  subst hv
  exact lx_ok (by omega))
theorem ls_chr {kp : pm_K} (d : Nat) {Wa V n i : Nat} {f : Nat → Int32} {T : Nat → Nat} {H : pm_H} (hB : sbd Wa V (nI n) f H) (hT : tx T n f) (hi : i < n) : pm_X kp (d + 4) 118 [.ref Wa, .int (nI i)] H (some (.int (nI (T i)))) H := by
  have h := sb_pure hB (jb_charAt (kp := kp) d f hi (by have := hT.1; omega)) rfl (fun v hv => by
    simp only [List.mem_cons, List.not_mem_nil, or_false] at hv
    rcases hv with rfl | rfl
    · exact lx_ok (by omega)
    · exact rn_num (fun a q => by cases q))
  rw [(hT.2 i hi).1, by_c (hT.2 i hi).2] at h
  exact h
theorem ge_n {a b : Nat} (h : a < b) (hb : b < 2 ^ 31) : ¬ pm_cnd .ge (nI a) (nI b) := Int32.not_le.mpr (nI_lt h hb)
theorem ge_p {a b : Nat} (h : b ≤ a) (ha : a < 2 ^ 31) : pm_cnd .ge (nI a) (nI b) := Int32.not_lt.mp (nI_nlt h ha)
theorem lt_n {a b : Nat} (h : b ≤ a) (ha : a < 2 ^ 31) : ¬ pm_cnd .lt (nI a) (nI b) := nI_nlt h ha
theorem hbd_app {A : Nat → Nat} {m : qm_M} {H : pm_H} (X : pm_H) (h : hbd' A m H) : hbd' A m (H ++ X) := ⟨h.1, fun k c hk gk => ap_k X (h.2.1 k c hk gk), h.2.2⟩
theorem hb_o0 {A : Nat → Nat} {m : qm_M} {H : pm_H} (h : hbd' A m H) : ∃ fs, H[0]? = some (.inr (10, fs)) := by
  have e : (qm_hp m)[0]? = some (qm_cell m 0 (110, 0)) := by rw [qm_hp_at]; rfl
  have g := h.2.1 0 _ (show 0 < 123 by omega) e
  rw [h.2.2 0 (by omega)] at g
  exact ⟨_, g⟩
theorem hb_o112 {A : Nat → Nat} {m : qm_M} {H : pm_H} (h : hbd' A m H) : ∃ fs, H[A 112]? = some (.inr (11, fs)) := ⟨_, (bH_of h).1⟩
theorem bd.hi {m m1 : qm_M} {s : sT} (h : bd m s) (g : hi_fr m m1) : bd m1 s := ⟨⟨by rw [g.1 113 (by omega)]; exact h.1.1, by rw [g.1 113 (by omega)]; exact h.1.2⟩, fun j hj => ⟨by rw [g.1 114 (by omega)]; exact (h.2.1 j hj).1, by rw [g.1 115 (by omega)]; exact (h.2.1 j hj).2⟩, fun r c hr hc => by rw [g.1 (117 + r) (by omega)]; exact h.2.2 r c hr hc⟩
set_option maxRecDepth 100000 in
theorem sy_in {kp : pm_K} {d n b Wa V hb sb : Nat} {f : Nat → Int32} {T : Nat → Nat} {H : pm_H} {Q : Option Value → pm_H → Prop} {got : Int32} (hS : sbd Wa V (nI n) f H) (hT : tx T n f) (hb0 : b ≤ 100)
    (w : pm_W kp md_L_says (pm_X kp (d + 36)) hb sb Q 80 [(5, .int (nI 20)), (4, .ref H.length), (3, .int (nI b)), (2, .int got), (0, .ref 0), (1, .ref Wa)] [] (H ++ [.inl (0, (5, .inl (by_g (txt T n b) 20)))])) : ∀ (j i : Nat), i + j = 20 → pm_W kp md_L_says (pm_X kp (d + 36)) hb sb Q 22 [(5, .int (nI i)), (4, .ref H.length), (3, .int (nI b)), (2, .int got), (0, .ref 0), (1, .ref Wa)] [] (H ++ [.inl (0, (5, .inl (by_g (txt T n b) i)))])
  | 0, i, h => by
    have h : i = 20 := by omega
    subst h
    refine pq_ld 0 rfl rfl rfl ?_
    refine pq_cst rfl rfl ?_
    refine pq_icm rfl (fun _ => ?_) (fun z => absurd (ge_p (a := 20) (b := 20) (Nat.le_refl _) (by omega)) z)
    exact w
  | j + 1, i, h => by
    have hi : i < 20 := by omega
    have ih := sy_in hS hT hb0 w j (i + 1) (by omega)
    have hSx : sbd Wa V (nI n) f (H ++ [.inl (0, (5, .inl (by_g (txt T n b) i)))]) := ⟨ap_k _ hS.1, ap_k _ hS.2.1, hS.2.2⟩
    refine pq_ld 0 rfl rfl rfl ?_
    refine pq_cst rfl rfl ?_
    refine pq_icm rfl (fun z => absurd z (ge_n hi (by omega))) (fun _ => ?_)
    refine pq_ld 1 rfl rfl rfl ?_
    refine pq_ld 0 rfl rfl rfl ?_
    refine pq_cst rfl rfl ?_
    refine pq_dop rfl rfl (by decide) ?_
    rw [by_4 hi]
    refine pq_ld 1 rfl rfl rfl ?_
    refine pq_ld 0 rfl rfl rfl ?_
    refine pq_cst rfl rfl ?_
    refine pq_dop rfl rfl (by decide) ?_
    rw [by_4 hi]
    refine pq_ial rfl (ap_g H _ 0) (jb_vin (show i / 4 < 5 by omega) (by omega)) ?_
    rw [nI_clamp (show i / 4 < 2 ^ 31 by omega)]
    refine pq_cst rfl rfl ?_
    refine pq_bop rfl rfl ?_
    refine pq_ld 2 rfl rfl rfl ?_
    refine pq_ld 0 rfl rfl rfl ?_
    refine pq_bop rfl rfl ?_
    rw [nI_add]
    refine pq_ld 5 rfl rfl rfl ?_
    refine pq_clf rfl rfl rfl (Nat.le_of_ble_eq_true rfl) (hSx.1) (Or.inl rfl) (ls_len _ hSx) ?_
    by_cases q : b + i < n
    · have et : txt T n b i = T (b + i) := if_pos q
      refine pq_icm rfl (fun z => absurd z (ge_n q (by have := hT.1; omega))) (fun _ => ?_)
      refine pq_ld 5 rfl rfl rfl ?_
      refine pq_ld 2 rfl rfl rfl ?_
      refine pq_ld 0 rfl rfl rfl ?_
      refine pq_bop rfl rfl ?_
      rw [nI_add]
      refine pq_clf rfl rfl rfl (Nat.le_of_ble_eq_true rfl) (hSx.1) (Or.inl rfl) (ls_chr _ hSx hT q) ?_
      refine pq_goto rfl ?_
      refine pq_bop rfl rfl ?_
      refine qx_ias 0 rfl rfl (jb_vin (show i / 4 < 5 by omega) (by omega)) ?_
      refine al_nx [.inl (0, (5, .inl (by_g (txt T n b) (i + 1))))] (by rw [nI_clamp (show i / 4 < 2 ^ 31 by omega)]; show (_ : pm_H) = [.inl (0, (5, .inl (upd (by_g (txt T n b) i) (i / 4) (qo_ishl (by_g (txt T n b) i (i / 4)) 8 ||| nI (txt T n b i)))))]; rw [et]; rfl) ?_
      refine pq_inc 0 rfl rfl rfl ?_
      rw [show nI i + Int32.ofInt 1 = nI (i + 1) from nI_1 i]
      refine pq_goto rfl ?_
      exact ih
    · have et : txt T n b i = 0 := if_neg q
      refine pq_icm rfl (fun _ => ?_) (fun z => absurd (ge_p (by omega) (by omega)) z)
      refine pq_cst rfl rfl ?_
      refine pq_bop rfl rfl ?_
      refine qx_ias 0 rfl rfl (jb_vin (show i / 4 < 5 by omega) (by omega)) ?_
      refine al_nx [.inl (0, (5, .inl (by_g (txt T n b) (i + 1))))] (by rw [nI_clamp (show i / 4 < 2 ^ 31 by omega)]; show (_ : pm_H) = [.inl (0, (5, .inl (upd (by_g (txt T n b) i) (i / 4) (qo_ishl (by_g (txt T n b) i (i / 4)) 8 ||| nI (txt T n b i)))))]; rw [et]; rfl) ?_
      refine pq_inc 0 rfl rfl rfl ?_
      rw [show nI i + Int32.ofInt 1 = nI (i + 1) from nI_1 i]
      refine pq_goto rfl ?_
      exact ih
/-- with a tape of n bytes -/
def st_tp (s : sT) (n : Nat) (τ : Nat → Int32) : sT := (s.1, s.2.1, s.2.2.1, (n, τ))
/-- what stands outside class and board -/
def xfr (A : Nat → Nat) (H H1 : pm_H) : Prop := ∀ a, a < H.length → (∀ k, k < 123 → A k ≠ a) → H1[a]? = H[a]?
theorem xfr.tr {A : Nat → Nat} {H H1 H2 : pm_H} (h : xfr A H H1) (g : xfr A H1 H2) (hl : H.length ≤ H1.length) : xfr A H H2 := fun a ha hk => (g a (by omega) hk).trans (h a ha hk)
theorem xfr.of {A : Nat → Nat} {H H1 : pm_H} (h : rn_T A (fun k => k < 123) H H1) : xfr A H H1 := fun a _ hk => h.1 a hk
theorem xfr.sbd {A : Nat → Nat} {H H1 : pm_H} (h : xfr A H H1) {Wa V : Nat} {c : Int32} {f : Nat → Int32} (g : sbd Wa V c f H) (n1 : ∀ k, k < 123 → A k ≠ Wa) (n2 : ∀ k, k < 123 → A k ≠ V) : sbd Wa V c f H1 := ⟨by rw [h Wa (ap_lt g.1) n1]; exact g.1, by rw [h V (ap_lt g.2.1) n2]; exact g.2.1, g.2.2⟩
set_option maxRecDepth 100000 in
theorem sy_end {kp : pm_K} {d n Wa V : Nat} {A : Nat → Nat} {f : Nat → Int32} {T : Nat → Nat} {s sb : sT} (hT : tx T n f) (n1 : ∀ k, k < 123 → A k ≠ Wa) (n2 : ∀ k, k < 123 → A k ≠ V) (r t : Nat) (m : qm_M) (H : pm_H) (τ : Nat → Int32) (q : n ≤ 20 * t) (ht5 : t ≤ 5) (hB : hbd' A m H) (h : CI m (st_tp s (20 * t) τ)) (hb : bd m sb) (hS : sbd Wa V (nI n) f H) (hτ : ∀ k, k < n → k < 20 * t → τ k = sx (T k)) :
    ∃ m1 H1 τ1, CI m1 (st_tp s n τ1) ∧ (∀ k, k < n → τ1 k = sx (T k)) ∧ bd m1 sb ∧ hbd' A m1 H1 ∧ xfr A H H1 ∧ H.length ≤ H1.length ∧ H1.length ≤ H.length + r ∧ pm_sl H ≤ pm_sl H1 ∧ pm_sl H1 ≤ pm_sl H + 5 * r ∧
      ∀ (hb sb : Nat) (Q : Option Value → pm_H → Prop), H1.length ≤ hb → pm_sl H1 ≤ sb → Q (some (.int 1)) H1 → pm_W kp md_L_says (pm_X kp (d + 36)) hb sb Q 4 [(3, .int (nI (20 * t))), (2, .int (nI (20 * t))), (0, .ref 0), (1, .ref Wa)] [] H := by
    obtain ⟨m2, a1, a2, a3⟩ := tc_end h (n := n) q
    obtain ⟨H2, x1, x2, x3, x4⟩ := lx_ci hB (fg_T_end (kp := kp) (d + 35)) a1
    have hS2 := (xfr.of x2).sbd hS n1 n2
    obtain ⟨fs, hfs⟩ := hb_o0 hB
    refine ⟨m2, H2, τ, a2, fun k hk => hτ k hk (by omega), hb.hi a3, x1, xfr.of x2, Nat.le_of_eq x2.2.1.symm, by rw [x2.2.1]; omega, Nat.le_of_eq x2.2.2.symm, by rw [x2.2.2]; omega, fun hb' sb' Q g1 g2 hQ => ?_⟩
    have hn := hT.1
    refine pq_ld 0 rfl rfl rfl ?_
    refine pq_ld 3 rfl rfl rfl ?_
    refine pq_clf rfl rfl rfl (Nat.le_of_ble_eq_true rfl) (hS.1) (Or.inl rfl) (ls_len _ hS) ?_
    refine pq_icm rfl (fun _ => ?_) (fun z => absurd (ge_p q (by omega)) z)
    refine pq_ld 1 rfl rfl rfl ?_
    refine pq_ld 3 rfl rfl rfl ?_
    refine pq_clf rfl rfl rfl (Nat.le_of_ble_eq_true rfl) (hS.1) (Or.inl rfl) (ls_len _ hS) ?_
    refine pq_icm rfl (fun z => absurd z (lt_n q (by omega))) (fun _ => ?_)
    refine pq_ld 2 rfl rfl rfl ?_
    refine pq_ld 3 rfl rfl rfl ?_
    refine pq_clf rfl rfl rfl (Nat.le_of_ble_eq_true rfl) (hS.1) (Or.inl rfl) (ls_len _ hS) ?_
    refine pq_clv rfl (Or.inl ⟨rfl, rfl⟩) rfl (Nat.le_of_ble_eq_true rfl) hfs (by decide +kernel) (Or.inl x4) x3 ?_
    refine pq_ld 3 rfl rfl rfl ?_
    refine pq_clf rfl rfl rfl (Nat.le_of_ble_eq_true rfl) (hS2.1) (Or.inl rfl) (ls_len _ hS2) ?_
    refine pq_icm rfl (fun z => absurd z (fun z => z rfl)) (fun _ => ?_)
    refine pq_cst rfl rfl ?_
    refine pq_goto rfl ?_
    exact pq_irt rfl rfl rfl hQ
set_option maxRecDepth 100000 in
theorem sy_out {kp : pm_K} {d n Wa V : Nat} {A : Nat → Nat} {f : Nat → Int32} {T : Nat → Nat} {s sb : sT} (hT : tx T n f) (n1 : ∀ k, k < 123 → A k ≠ Wa) (n2 : ∀ k, k < 123 → A k ≠ V) :
    ∀ (r t : Nat) (m : qm_M) (H : pm_H) (τ : Nat → Int32), n ≤ 20 * t + 20 * r → t ≤ 5 → 20 * t < n + 20 → hbd' A m H → CI m (st_tp s (20 * t) τ) → bd m sb → sbd Wa V (nI n) f H → (∀ k, k < n → k < 20 * t → τ k = sx (T k)) → H.length + r ≤ 90000 →
    ∃ m1 H1 τ1, CI m1 (st_tp s n τ1) ∧ (∀ k, k < n → τ1 k = sx (T k)) ∧ bd m1 sb ∧ hbd' A m1 H1 ∧ xfr A H H1 ∧ H.length ≤ H1.length ∧ H1.length ≤ H.length + r ∧ pm_sl H ≤ pm_sl H1 ∧ pm_sl H1 ≤ pm_sl H + 5 * r ∧
      ∀ (hb sb : Nat) (Q : Option Value → pm_H → Prop), H1.length ≤ hb → pm_sl H1 ≤ sb → Q (some (.int 1)) H1 → pm_W kp md_L_says (pm_X kp (d + 36)) hb sb Q 4 [(3, .int (nI (20 * t))), (2, .int (nI (20 * t))), (0, .ref 0), (1, .ref Wa)] [] H := by
  intro r
  induction r with
  | zero =>
    intro t m H τ h1 ht5 ht hB h hb hS hτ hl
    exact sy_end hT n1 n2 0 t m H τ (by omega) ht5 hB h hb hS hτ
  | succ r ih =>
    intro t m H τ h1 ht5 ht hB h hb hS hτ hl
    by_cases q : n ≤ 20 * t
    · exact sy_end hT n1 n2 (r + 1) t m H τ q ht5 hB h hb hS hτ
    · have hbx := hbd_app [.inl (0, (5, .inl (by_g (txt T n (20 * t)) 20)))] hB
      obtain ⟨m2, a1, a2, a3⟩ := tc_feed h (show 20 * t ≤ 100 by omega) (by_g (txt T n (20 * t)) 20 0) (by_g (txt T n (20 * t)) 20 1) (by_g (txt T n (20 * t)) 20 2) (by_g (txt T n (20 * t)) 20 3) (by_g (txt T n (20 * t)) 20 4)
      obtain ⟨H2, x1, x2, x3, x4⟩ := lx_feed hbx (fg_T_feed (kp := kp) (d + 34)) a1
      have xf : xfr A H H2 := fun a ha hk => by rw [xfr.of x2 a (by rw [List.length_append]; omega) hk, ap_l H _ ha]
      have eL : H2.length = H.length + 1 := by rw [x2.2.1, List.length_append]; rfl
      have eS : pm_sl H2 = pm_sl H + 5 := by rw [x2.2.2, sl_app]; rfl
      have htx := txt_lt hT (20 * t)
      have a2' : CI m2 (st_tp s (20 * (t + 1)) (st_feed (st_tp s (20 * t) τ) (by_g (txt T n (20 * t)) 20 0) (by_g (txt T n (20 * t)) 20 1) (by_g (txt T n (20 * t)) 20 2) (by_g (txt T n (20 * t)) 20 3) (by_g (txt T n (20 * t)) 20 4)).2.2.2.2) := a2
      obtain ⟨m1, H1, τ1, b1, b2, b3, b4, b5, b6, b7, b8, b9, b10⟩ := ih (t + 1) m2 H2 _ (by omega) (by have := hT.1; omega) (by omega) x1 a2' (hb.hi a3) (xf.sbd hS n1 n2) (fun k hk hk2 => by
        by_cases z : k < 20 * t
        · rw [← hτ k hk z]
          exact if_neg (show ¬ 20 * t ≤ k by omega)
        · have hf := by_feed htx (s := st_tp s (20 * t) τ) (k := k - 20 * t) (by omega)
          have e : (st_tp s (20 * t) τ).2.2.2.1 + (k - 20 * t) = k := by show 20 * t + (k - 20 * t) = k; omega
          rw [e] at hf
          rw [hf]
          unfold txt
          rw [if_pos (show 20 * t + (k - 20 * t) < n by omega), show 20 * t + (k - 20 * t) = k by omega]) (by omega)
      refine ⟨m1, H1, τ1, b1, b2, b3, b4, xf.tr b5 (by omega), by omega, by omega, by omega, by omega, fun hb' sb' Q g1 g2 g3 => ?_⟩
      have hfin := b10 hb' sb' Q g1 g2 g3
      obtain ⟨fs, hfs⟩ := hb_o0 hbx
      refine pq_ld 0 rfl rfl rfl ?_
      refine pq_ld 3 rfl rfl rfl ?_
      refine pq_clf rfl rfl rfl (Nat.le_of_ble_eq_true rfl) (hS.1) (Or.inl rfl) (ls_len _ hS) ?_
      refine pq_icm rfl (fun z => absurd z (ge_n (by omega) (by have := hT.1; omega))) (fun _ => ?_)
      refine pq_cst rfl rfl ?_
      refine pq_nwa rfl rfl (by decide) (N := 5) rfl (by decide) (by omega) (by omega) (by omega) ?_
      refine pq_sto rfl rfl rfl ?_
      refine pq_cst rfl rfl ?_
      refine pq_sto rfl rfl rfl ?_
      refine sy_in hS hT (by omega) ?_ 20 0 rfl
      refine pq_ld 4 rfl rfl rfl ?_
      refine pq_ld 1 rfl rfl rfl ?_
      refine pq_cst rfl rfl ?_
      refine pq_ial rfl (ap_g H _ 0) (qm_in_ok rfl) ?_
      refine pq_ld 1 rfl rfl rfl ?_
      refine pq_cst rfl rfl ?_
      refine pq_ial rfl (ap_g H _ 0) (qm_in_ok rfl) ?_
      refine pq_ld 1 rfl rfl rfl ?_
      refine pq_cst rfl rfl ?_
      refine pq_ial rfl (ap_g H _ 0) (qm_in_ok rfl) ?_
      refine pq_ld 1 rfl rfl rfl ?_
      refine pq_cst rfl rfl ?_
      refine pq_ial rfl (ap_g H _ 0) (qm_in_ok rfl) ?_
      refine pq_ld 1 rfl rfl rfl ?_
      refine pq_cst rfl rfl ?_
      refine pq_ial rfl (ap_g H _ 0) (qm_in_ok rfl) ?_
      refine pq_clv rfl (Or.inl ⟨rfl, rfl⟩) rfl (Nat.le_of_ble_eq_true rfl) hfs (by decide +kernel) (Or.inl x4) x3 ?_
      refine pq_sto rfl rfl rfl ?_
      refine pq_inc 3 rfl rfl rfl ?_
      rw [show nI (20 * t) + Int32.ofInt 20 = nI (20 * (t + 1)) from nI_add (20 * t) 20]
      refine pq_sub (nx := 0) (a := 0) (b := 0) [0, 1, 4, 5] rfl ?_
      refine pq_goto rfl ?_
      exact hfin
theorem hb_says {kp : pm_K} {n Wa V : Nat} {A : Nat → Nat} {f : Nat → Int32} {T : Nat → Nat} {s sb : sT} (d : Nat) (hT : tx T n f) (n0 : 0 < n) (n1 : ∀ k, k < 123 → A k ≠ Wa) (n2 : ∀ k, k < 123 → A k ≠ V) {m : qm_M} {H : pm_H} (hB : hbd' A m H) (h : CI m s) (h0 : s.2.2.2.1 = 0) (hb : bd m sb) (hS : sbd Wa V (nI n) f H) (hl : H.length ≤ 80000) :
    ∃ m1 H1 τ1, CI m1 (st_tp s n τ1) ∧ (∀ k, k < n → τ1 k = sx (T k)) ∧ bd m1 sb ∧ hbd' A m1 H1 ∧ xfr A H H1 ∧ H.length ≤ H1.length ∧ H1.length ≤ H.length + 5 ∧ pm_sl H ≤ pm_sl H1 ∧ pm_sl H1 ≤ pm_sl H + 25 ∧ pm_X kp (d + 37) 124 [.ref 0, .ref Wa] H (some (.int 1)) H1 := by
  have h' : CI m (st_tp s (20 * 0) s.2.2.2.2) := by
    have e : st_tp s (20 * 0) s.2.2.2.2 = s := by
      obtain ⟨s1, s2, s3, s4, s5⟩ := s
      have h0 : s4 = 0 := h0
      subst h0
      rfl
    rw [e]; exact h
  obtain ⟨m1, H1, τ1, b1, b2, b3, b4, b5, b6, b7, b8, b9, b10⟩ := sy_out (kp := kp) (d := d) hT n1 n2 5 0 m H s.2.2.2.2 (by have := hT.1; omega) (by omega) (by omega) hB h' hb hS (fun k _ hk => by omega) (by omega)
  refine ⟨m1, H1, τ1, b1, b2, b3, b4, b5, b6, b7, b8, b9, ?_⟩
  refine pm_Xi md_L_says [(0, .ref 0), (1, .ref Wa)] rfl (Nat.le_of_ble_eq_true rfl) rfl ?_
  refine pq_cst rfl rfl ?_
  refine pq_sto rfl rfl rfl ?_
  refine pq_cst rfl rfl ?_
  refine pq_sto rfl rfl rfl ?_
  exact b10 _ _ _ (Nat.le_refl _) (Nat.le_refl _) ⟨rfl, rfl⟩
