/-! the law's own calls on a heap; printed by wip/p50/w/gen_mv.py -/
theorem mv_md {kp : pm_K} {C : pm_C} {hb sb pc : Nat} {Q : Option Value → pm_H → Prop} {lv : pm_L} {st : List Value} {h : pm_H} (w : pm_W kp md_L_moves0 C hb sb Q pc lv st h) : pm_W kp md_L_moves C hb sb Q pc lv st h := fun P R => w P ⟨R.1, R.2.1, R.2.2.1, R.2.2.2.1, R.2.2.2.2.1, R.2.2.2.2.2.1, R.2.2.2.2.2.2.1, R.2.2.2.2.2.2.2.1, R.2.2.2.2.2.2.2.2.1, R.2.2.2.2.2.2.2.2.2.1, R.2.2.2.2.2.2.2.2.2.2.1, R.2.2.2.2.2.2.2.2.2.2.2.1, R.2.2.2.2.2.2.2.2.2.2.2.2.1, R.2.2.2.2.2.2.2.2.2.2.2.2.2.1, R.2.2.2.2.2.2.2.2.2.2.2.2.2.2.1, R.2.2.2.2.2.2.2.2.2.2.2.2.2.2.2.1, R.2.2.2.2.2.2.2.2.2.2.2.2.2.2.2.2.1, R.2.2.2.2.2.2.2.2.2.2.2.2.2.2.2.2.2.1, R.2.2.2.2.2.2.2.2.2.2.2.2.2.2.2.2.2.2.1, R.2.2.2.2.2.2.2.2.2.2.2.2.2.2.2.2.2.2.2.1, R.2.2.2.2.2.2.2.2.2.2.2.2.2.2.2.2.2.2.2.2.1, R.2.2.2.2.2.2.2.2.2.2.2.2.2.2.2.2.2.2.2.2.2.1, R.2.2.2.2.2.2.2.2.2.2.2.2.2.2.2.2.2.2.2.2.2.2.1, R.2.2.2.2.2.2.2.2.2.2.2.2.2.2.2.2.2.2.2.2.2.2.2.1, R.2.2.2.2.2.2.2.2.2.2.2.2.2.2.2.2.2.2.2.2.2.2.2.2.1, R.2.2.2.2.2.2.2.2.2.2.2.2.2.2.2.2.2.2.2.2.2.2.2.2.2.1, R.2.2.2.2.2.2.2.2.2.2.2.2.2.2.2.2.2.2.2.2.2.2.2.2.2.2.1, R.2.2.2.2.2.2.2.2.2.2.2.2.2.2.2.2.2.2.2.2.2.2.2.2.2.2.2.1, R.2.2.2.2.2.2.2.2.2.2.2.2.2.2.2.2.2.2.2.2.2.2.2.2.2.2.2.2.1, R.2.2.2.2.2.2.2.2.2.2.2.2.2.2.2.2.2.2.2.2.2.2.2.2.2.2.2.2.2.1, R.2.2.2.2.2.2.2.2.2.2.2.2.2.2.2.2.2.2.2.2.2.2.2.2.2.2.2.2.2.2.1, R.2.2.2.2.2.2.2.2.2.2.2.2.2.2.2.2.2.2.2.2.2.2.2.2.2.2.2.2.2.2.2.1, R.2.2.2.2.2.2.2.2.2.2.2.2.2.2.2.2.2.2.2.2.2.2.2.2.2.2.2.2.2.2.2.2.1, R.2.2.2.2.2.2.2.2.2.2.2.2.2.2.2.2.2.2.2.2.2.2.2.2.2.2.2.2.2.2.2.2.2.1, fun pc nx a b lv st h n fs g0 g1 g2 g3 g4 g5 g6 => R.2.2.2.2.2.2.2.2.2.2.2.2.2.2.2.2.2.2.2.2.2.2.2.2.2.2.2.2.2.2.2.2.2.2.1 pc nx a b lv st h n fs g0 rfl g2 g3 g4 g5 g6, fun pc nx a b lv st h ty n N g0 g1 g2 g3 g4 g5 g6 g7 g8 => R.2.2.2.2.2.2.2.2.2.2.2.2.2.2.2.2.2.2.2.2.2.2.2.2.2.2.2.2.2.2.2.2.2.2.2.1 pc nx a b lv st h ty n N g0 rfl g2 g3 g4 g5 g6 g7 g8, fun pc nx a b lv st h i n N g0 g1 g2 g3 g4 g5 g6 g7 g8 g9 => R.2.2.2.2.2.2.2.2.2.2.2.2.2.2.2.2.2.2.2.2.2.2.2.2.2.2.2.2.2.2.2.2.2.2.2.2.1 pc nx a b lv st h i n N g0 g1 rfl g3 g4 g5 g6 g7 g8 g9, fun pc nx a b lv st h i n m N M g0 g1 g2 g3 g4 g5 g6 g7 g8 g9 g10 g11 g12 => R.2.2.2.2.2.2.2.2.2.2.2.2.2.2.2.2.2.2.2.2.2.2.2.2.2.2.2.2.2.2.2.2.2.2.2.2.2.1 pc nx a b lv st h i n m N M g0 g1 rfl g3 g4 g5 g6 g7 g8 g9 g10 g11 g12, fun pc nx a b lv st h i n as rest r h1 g0 g1 g2 g3 g4 g5 g6 g7 => R.2.2.2.2.2.2.2.2.2.2.2.2.2.2.2.2.2.2.2.2.2.2.2.2.2.2.2.2.2.2.2.2.2.2.2.2.2.2.1 pc nx a b lv st h i n as rest r h1 g0 g1 g2 g3 g4 (g5.imp id (fun z => ⟨rfl, z.2⟩)) g6 g7, fun pc nx a b lv st h i n o ci as rest fs r h1 g0 g1 g2 g3 g4 g5 g6 g7 g8 => R.2.2.2.2.2.2.2.2.2.2.2.2.2.2.2.2.2.2.2.2.2.2.2.2.2.2.2.2.2.2.2.2.2.2.2.2.2.2.2.1 pc nx a b lv st h i n o ci as rest fs r h1 g0 g1 g2 g3 g4 g5 (g6.imp id (fun z => ⟨rfl, z.2⟩)) g7 g8, R.2.2.2.2.2.2.2.2.2.2.2.2.2.2.2.2.2.2.2.2.2.2.2.2.2.2.2.2.2.2.2.2.2.2.2.2.2.2.2.2.1, fun pc nx a b lv st h n o N f g0 g1 g2 g3 g4 g5 g6 g7 g8 g9 => R.2.2.2.2.2.2.2.2.2.2.2.2.2.2.2.2.2.2.2.2.2.2.2.2.2.2.2.2.2.2.2.2.2.2.2.2.2.2.2.2.2.1 pc nx a b lv st h n o N f g0 g1 g2 rfl g4 g5 g6 g7 g8 g9, R.2.2.2.2.2.2.2.2.2.2.2.2.2.2.2.2.2.2.2.2.2.2.2.2.2.2.2.2.2.2.2.2.2.2.2.2.2.2.2.2.2.2.1, R.2.2.2.2.2.2.2.2.2.2.2.2.2.2.2.2.2.2.2.2.2.2.2.2.2.2.2.2.2.2.2.2.2.2.2.2.2.2.2.2.2.2.2.1, R.2.2.2.2.2.2.2.2.2.2.2.2.2.2.2.2.2.2.2.2.2.2.2.2.2.2.2.2.2.2.2.2.2.2.2.2.2.2.2.2.2.2.2.2.1, R.2.2.2.2.2.2.2.2.2.2.2.2.2.2.2.2.2.2.2.2.2.2.2.2.2.2.2.2.2.2.2.2.2.2.2.2.2.2.2.2.2.2.2.2.2.1, fun pc nx a b lv st h n o as rest fs r h1 g0 g1 g2 g3 g4 g5 g6 g7 => R.2.2.2.2.2.2.2.2.2.2.2.2.2.2.2.2.2.2.2.2.2.2.2.2.2.2.2.2.2.2.2.2.2.2.2.2.2.2.2.2.2.2.2.2.2.2.1 pc nx a b lv st h n o as rest fs r h1 g0 g1 g2 g3 g4 (g5.imp id (fun z => ⟨rfl, z.2⟩)) g6 g7, fun pc nx a b lv st h n o as rest fs r h1 g0 g1 g2 g3 g4 g5 g6 g7 => R.2.2.2.2.2.2.2.2.2.2.2.2.2.2.2.2.2.2.2.2.2.2.2.2.2.2.2.2.2.2.2.2.2.2.2.2.2.2.2.2.2.2.2.2.2.2.2.1 pc nx a b lv st h n o as rest fs r h1 g0 g1 g2 g3 g4 (g5.imp id (fun z => ⟨rfl, z.2⟩)) g6 g7, fun pc nx a b lv st h n c o as rest fs r h1 g0 g1 g2 g3 g4 g5 g6 g7 => R.2.2.2.2.2.2.2.2.2.2.2.2.2.2.2.2.2.2.2.2.2.2.2.2.2.2.2.2.2.2.2.2.2.2.2.2.2.2.2.2.2.2.2.2.2.2.2.2.1 pc nx a b lv st h n c o as rest fs r h1 g0 g1 g2 g3 g4 (g5.imp id (fun z => ⟨rfl, z.2⟩)) g6 g7, R.2.2.2.2.2.2.2.2.2.2.2.2.2.2.2.2.2.2.2.2.2.2.2.2.2.2.2.2.2.2.2.2.2.2.2.2.2.2.2.2.2.2.2.2.2.2.2.2.2.1, R.2.2.2.2.2.2.2.2.2.2.2.2.2.2.2.2.2.2.2.2.2.2.2.2.2.2.2.2.2.2.2.2.2.2.2.2.2.2.2.2.2.2.2.2.2.2.2.2.2.2.1, R.2.2.2.2.2.2.2.2.2.2.2.2.2.2.2.2.2.2.2.2.2.2.2.2.2.2.2.2.2.2.2.2.2.2.2.2.2.2.2.2.2.2.2.2.2.2.2.2.2.2.2.1, R.2.2.2.2.2.2.2.2.2.2.2.2.2.2.2.2.2.2.2.2.2.2.2.2.2.2.2.2.2.2.2.2.2.2.2.2.2.2.2.2.2.2.2.2.2.2.2.2.2.2.2.2.1, R.2.2.2.2.2.2.2.2.2.2.2.2.2.2.2.2.2.2.2.2.2.2.2.2.2.2.2.2.2.2.2.2.2.2.2.2.2.2.2.2.2.2.2.2.2.2.2.2.2.2.2.2.2.1, R.2.2.2.2.2.2.2.2.2.2.2.2.2.2.2.2.2.2.2.2.2.2.2.2.2.2.2.2.2.2.2.2.2.2.2.2.2.2.2.2.2.2.2.2.2.2.2.2.2.2.2.2.2.2.1, R.2.2.2.2.2.2.2.2.2.2.2.2.2.2.2.2.2.2.2.2.2.2.2.2.2.2.2.2.2.2.2.2.2.2.2.2.2.2.2.2.2.2.2.2.2.2.2.2.2.2.2.2.2.2.2.1, R.2.2.2.2.2.2.2.2.2.2.2.2.2.2.2.2.2.2.2.2.2.2.2.2.2.2.2.2.2.2.2.2.2.2.2.2.2.2.2.2.2.2.2.2.2.2.2.2.2.2.2.2.2.2.2.2.1, R.2.2.2.2.2.2.2.2.2.2.2.2.2.2.2.2.2.2.2.2.2.2.2.2.2.2.2.2.2.2.2.2.2.2.2.2.2.2.2.2.2.2.2.2.2.2.2.2.2.2.2.2.2.2.2.2.2.1, R.2.2.2.2.2.2.2.2.2.2.2.2.2.2.2.2.2.2.2.2.2.2.2.2.2.2.2.2.2.2.2.2.2.2.2.2.2.2.2.2.2.2.2.2.2.2.2.2.2.2.2.2.2.2.2.2.2.2⟩
theorem hb_lt {A : Nat → Nat} {m : qm_M} {H : pm_H} (hB : hbd' A m H) {k : Nat} (hk : k < 123) : A k < H.length := by
  have h1 : k < (qm_hp m).length := by rw [qm_hp_len]; omega
  exact ap_lt (hB.2.1 k _ hk (List.getElem?_eq_getElem h1))
def a123 (A : Nat → Nat) (n k : Nat) : Nat := if k = 123 then n else A k
theorem a123_n {A : Nat → Nat} {n k : Nat} (h : k ≠ 123) : a123 A n k = A k := if_neg h
theorem a123_e (A : Nat → Nat) (n : Nat) : a123 A n 123 = n := if_pos rfl
def m123 (m : qm_M) : qm_M := (fun o => if o = 123 then fun _ => 0 else m.1 o, m.2)
theorem m123_ou {m : qm_M} {s : sT} (h : CI m s) (hb : bd m s) : CI (m123 m) s ∧ bd (m123 m) s := by
  have e : ∀ a, a ≠ 123 → (m123 m).1 a = m.1 a := fun a ha => if_neg ha
  refine ⟨⟨h.1.fr (fun a ha => e a (by omega)) (fun a _ => rfl), h.2.1.hi (fun a h1 h2 => e a (by omega)), h.2.2⟩, ⟨by rw [e 113 (by omega)]; exact hb.1, fun j hj => ?_, fun r c hr hc => ?_⟩⟩
  · rw [e 114 (by omega), e 115 (by omega)]; exact hb.2.1 j hj
  · rw [e (117 + r) (by omega)]; exact hb.2.2 r c hr hc
theorem m123_at (m : qm_M) {k : Nat} (hk : k < 123) : (qm_hp (m123 m))[k]? = (qm_hp m)[k]? := by
  rw [qm_hp_at, qm_hp_at]
  congr 1
  funext e
  exact qm_cell_eq (if_neg (by omega)) rfl
set_option maxRecDepth 100000 in
theorem hb_moves {b : Bool} {kp : pm_K} {A : Nat → Nat} {m : qm_M} {s : sT} {H : pm_H} (hB : hbd' A m H) (h : CI m s) (hb : bd m s) (hH : H.length ≤ 90000) (d : Nat) (hz : b = true → cvLe m) :
    ∃ m1 H1, CI m1 s ∧ bd m1 s ∧ hbd' A m1 H1 ∧ (∀ a, a < H.length → (∀ k, k < 123 → A k ≠ a) → H1[a]? = H[a]?) ∧ H1.length = H.length + 1 ∧ pm_sl H1 = pm_sl H + 36 ∧ pm_X kp (d + 36) 126 [.ref 0, .ref (A 112)] H (some (.int 1)) H1 ∧ (b = true → cvLe m1) := by
  obtain ⟨h0, b0⟩ := m123_ou h hb
  obtain ⟨m1, e1, c1, d1, z1⟩ := nu_moves (b := b) h0 b0 (fun z => (hz z).c rfl rfl)
  have hJ := fs_L_moves (kp := kp) d (m123 m) (some (.int 1), m1) e1
  have hA : rn_ad (a123 A H.length) (fun k => k < 124) := by
    refine ⟨fun k hk => ?_, fun j k hj hk e => ?_⟩
    · rw [a123_n (by omega)]; exact hB.1.1 k hk
    · have hj : j < 124 := hj
      have hk : k < 124 := hk
      by_cases q1 : j = 123
      · by_cases q2 : k = 123
        · omega
        · subst q1; rw [a123_e, a123_n q2] at e
          have := hb_lt hB (k := k) (by omega)
          omega
      · by_cases q2 : k = 123
        · subst q2; rw [a123_e, a123_n q1] at e
          have := hb_lt hB (k := j) (by omega)
          omega
        · rw [a123_n q1, a123_n q2] at e
          exact hB.1.2 j k (by show j < 123; omega) (by show k < 123; omega) e
  have hre : ∀ k c, k < 123 → (qm_hp (m123 m))[k]? = some c → rn_e (a123 A H.length) c = rn_e A c := fun k c hk gk => rn_e_c (fun a ha => by
    by_cases q : a < 1000000
    · have : a < 123 := cl_hp (m123 m) (Nat.le_refl 123) k c hk gk a ha q
      exact a123_n (by omega)
    · exact a123_n (by omega))
  have hR : rn_R (a123 A H.length) (fun k => k < 124) (qm_hp (m123 m)) (H ++ [.inl (0, (36, pm_zer 0))]) := fun k c hk gk => by
    have hk : k < 124 := hk
    by_cases q : k = 123
    · subst q
      rw [a123_e]
      have e : (qm_hp (m123 m))[123]? = some (.inl (0, (36, .inl ((m123 m).1 123)))) := by rw [qm_hp_at]; rfl
      rw [e] at gk
      cases gk
      exact ap_g H _ 0
    · rw [hre k c (by omega) gk, a123_n q]
      rw [m123_at m (by omega)] at gk
      exact ap_k _ (hB.2.1 k c (by show k < 123; omega) gk)
  obtain ⟨H1, ⟨o1, o2, o3, ⟨o4, o5, o6⟩, o7⟩, w⟩ := rn_W (md := md_L_moves0) (d := d + 35) rfl hA hJ (by rw [qm_hp_len]; omega) (fun q hq => by
      simp only [List.mem_cons, List.not_mem_nil, or_false] at hq
      rcases hq with rfl | rfl | rfl
      · exact fun a e _ => by cases e; show (0 : Nat) < 124; omega
      · exact fun a e _ => by cases e; show (112 : Nat) < 124; omega
      · exact fun a e _ => by cases e; show (123 : Nat) < 124; omega) (fun v hv => by cases hv) (cl_hp (m123 m) (by omega)) (H ++ [.inl (0, (36, pm_zer 0))]) hR
  have oL : H1.length = H.length + 1 := by rw [o5, List.length_append]; rfl
  have oS : pm_sl H1 = pm_sl H + 36 := by rw [o6, sl_app]; rfl
  refine ⟨m1, H1, c1, d1, ⟨hB.1, fun k c hk gk => ?_, hB.2.2⟩, fun a ha hn => ?_, oL, oS, ?_, z1⟩
  · have hk : k < 123 := hk
    have h1 := o1 k c (by show k < 124; omega) gk
    rw [a123_n (by omega)] at h1
    rw [h1]
    congr 1
    exact rn_e_c (fun a ha => by
      by_cases q : a < 1000000
      · have : a < 123 := cl_hp m1 (Nat.le_refl 123) k c hk gk a ha q
        exact a123_n (by omega)
      · exact a123_n (by omega))
  · rw [o4 a (fun k hk => by
      have hk : k < 124 := hk
      by_cases q : k = 123
      · subst q; rw [a123_e]; omega
      · rw [a123_n q]; exact hn k (by omega)), ap_l H _ ha]
  · refine pm_Xi md_L_moves [(0, .ref 0), (1, .ref (A 112))] rfl (Nat.le_of_ble_eq_true rfl) rfl ?_
    refine pq_cst rfl rfl ?_
    refine pq_nwa rfl rfl (by decide) rfl (by decide) (by rw [oL]; omega) (by rw [oS]; exact Nat.le_refl _) (by omega) ?_
    refine pq_sto rfl rfl rfl ?_
    refine pq_sub (nx := 0) (a := 0) (b := 0) [1, 2, 0] rfl ?_
    have w2 := mv_md w
    have w3 : pm_W kp md_L_moves (pm_X kp (d + 35)) H1.length (pm_sl H1) (fun r2 h2 => r2 = some (.int 1) ∧ h2 = H1) 5 [(0, .ref (A 0)), (1, .ref (A 112)), (2, .ref H.length)] [] (H ++ [.inl (0, (36, pm_zer 0))]) := w2
    rw [hB.2.2 0 (by omega)] at w3
    exact w3
/-! calls of the class, of the board -/
def lx (kp : pm_K) (A : Nat → Nat) (H : pm_H) (m1 : qm_M) (H1 : pm_H) (d k : Nat) (as : List Value) (r : Option Value) : Prop := hbd' A m1 H1 ∧ rn_T A (fun k => k < 123) H H1 ∧ pm_X kp d k as H r H1 ∧ pm_mal k = false
theorem lx_ok {L : Nat} {a : Nat} (h : a < L) : rn_ok (fun k => k < L) (.ref a) := fun b e _ => by cases e; exact h
section LX
variable {kp : pm_K} {A : Nat → Nat} {m m1 : qm_M} {H : pm_H} {d k knd ci ret : Nat} {v : Int32}
theorem lx_c {f : qm_M → Option qm_R} (hB : hbd' A m H) (g : qe_GE kp d (k, knd, ci, ret, qw_c 0 f)) (h : f m = some (some (.int v), m1)) : ∃ H1, lx kp A H m1 H1 d k [.ref 0] (some (.int v)) := by
  have hx := ge_use g (as := [.ref 0]) (r := some (.int v)) (m1 := m1) (m := m) h
  obtain ⟨H1, a1, a2, a3⟩ := hb_call hB hx (fun v hv => by
    simp only [List.mem_cons, List.not_mem_nil, or_false] at hv
    subst hv
    exact lx_ok (by omega))
  have a3 : pm_X kp d k [.ref (A 0)] H (some (.int v)) H1 := a3
  rw [hB.2.2 0 (by omega)] at a3
  exact ⟨H1, a1, a2, a3, hx.2⟩
theorem lx_cl {f : qm_M → Option qm_R} {z : Int64} (hB : hbd' A m H) (g : qe_GE kp d (k, knd, ci, ret, qw_c 0 f)) (h : f m = some (some (.long z), m1)) : ∃ H1, lx kp A H m1 H1 d k [.ref 0] (some (.long z)) := by
  have hx := ge_use g (as := [.ref 0]) (r := some (.long z)) (m1 := m1) (m := m) h
  obtain ⟨H1, a1, a2, a3⟩ := hb_call hB hx (fun v hv => by
    simp only [List.mem_cons, List.not_mem_nil, or_false] at hv
    subst hv
    exact lx_ok (by omega))
  have a3 : pm_X kp d k [.ref (A 0)] H (some (.long z)) H1 := a3
  rw [hB.2.2 0 (by omega)] at a3
  exact ⟨H1, a1, a2, a3, hx.2⟩
theorem lx_ci {f : Int32 → qm_M → Option qm_R} {x : Int32} (hB : hbd' A m H) (g : qe_GE kp d (k, knd, ci, ret, qw_ci 0 f)) (h : f x m = some (some (.int v), m1)) : ∃ H1, lx kp A H m1 H1 d k [.ref 0, .int x] (some (.int v)) := by
  have hx := ge_use g (as := [.ref 0, .int x]) (r := some (.int v)) (m1 := m1) (m := m) h
  obtain ⟨H1, a1, a2, a3⟩ := hb_call hB hx (fun v hv => by
    simp only [List.mem_cons, List.not_mem_nil, or_false] at hv
    rcases hv with rfl | rfl
    · exact lx_ok (by omega)
    · exact rn_num (fun a q => by cases q))
  have a3 : pm_X kp d k [.ref (A 0), .int x] H (some (.int v)) H1 := a3
  rw [hB.2.2 0 (by omega)] at a3
  exact ⟨H1, a1, a2, a3, hx.2⟩
theorem lx_cii {f : Int32 → Int32 → qm_M → Option qm_R} {x y : Int32} (hB : hbd' A m H) (g : qe_GE kp d (k, knd, ci, ret, qw_cii 0 f)) (h : f x y m = some (some (.int v), m1)) : ∃ H1, lx kp A H m1 H1 d k [.ref 0, .int x, .int y] (some (.int v)) := by
  have hx := ge_use g (as := [.ref 0, .int x, .int y]) (r := some (.int v)) (m1 := m1) (m := m) h
  obtain ⟨H1, a1, a2, a3⟩ := hb_call hB hx (fun v hv => by
    simp only [List.mem_cons, List.not_mem_nil, or_false] at hv
    rcases hv with rfl | rfl | rfl
    · exact lx_ok (by omega)
    · exact rn_num (fun a q => by cases q)
    · exact rn_num (fun a q => by cases q))
  have a3 : pm_X kp d k [.ref (A 0), .int x, .int y] H (some (.int v)) H1 := a3
  rw [hB.2.2 0 (by omega)] at a3
  exact ⟨H1, a1, a2, a3, hx.2⟩
theorem lx_ciii {f : Int32 → Int32 → Int32 → qm_M → Option qm_R} {x y z : Int32} (hB : hbd' A m H) (g : qe_GE kp d (k, knd, ci, ret, qw_ciii 0 f)) (h : f x y z m = some (some (.int v), m1)) : ∃ H1, lx kp A H m1 H1 d k [.ref 0, .int x, .int y, .int z] (some (.int v)) := by
  have hx := ge_use g (as := [.ref 0, .int x, .int y, .int z]) (r := some (.int v)) (m1 := m1) (m := m) h
  obtain ⟨H1, a1, a2, a3⟩ := hb_call hB hx (fun v hv => by
    simp only [List.mem_cons, List.not_mem_nil, or_false] at hv
    rcases hv with rfl | rfl | rfl | rfl
    · exact lx_ok (by omega)
    · exact rn_num (fun a q => by cases q)
    · exact rn_num (fun a q => by cases q)
    · exact rn_num (fun a q => by cases q))
  have a3 : pm_X kp d k [.ref (A 0), .int x, .int y, .int z] H (some (.int v)) H1 := a3
  rw [hB.2.2 0 (by omega)] at a3
  exact ⟨H1, a1, a2, a3, hx.2⟩
theorem lx_feed {f : Int32 → Int32 → Int32 → Int32 → Int32 → qm_M → Option qm_R} {x y z p q : Int32} (hB : hbd' A m H) (g : qe_GE kp d (k, knd, ci, ret, qw_ciiiii 0 f)) (h : f x y z p q m = some (some (.int v), m1)) : ∃ H1, lx kp A H m1 H1 d k [.ref 0, .int x, .int y, .int z, .int p, .int q] (some (.int v)) := by
  have hx := ge_use g (as := [.ref 0, .int x, .int y, .int z, .int p, .int q]) (r := some (.int v)) (m1 := m1) (m := m) h
  obtain ⟨H1, a1, a2, a3⟩ := hb_call hB hx (fun v hv => by
    simp only [List.mem_cons, List.not_mem_nil, or_false] at hv
    rcases hv with rfl | rfl | rfl | rfl | rfl | rfl
    · exact lx_ok (by omega)
    · exact rn_num (fun a q => by cases q)
    · exact rn_num (fun a q => by cases q)
    · exact rn_num (fun a q => by cases q)
    · exact rn_num (fun a q => by cases q)
    · exact rn_num (fun a q => by cases q))
  have a3 : pm_X kp d k [.ref (A 0), .int x, .int y, .int z, .int p, .int q] H (some (.int v)) H1 := a3
  rw [hB.2.2 0 (by omega)] at a3
  exact ⟨H1, a1, a2, a3, hx.2⟩
theorem lx_b {f : qm_M → Option qm_R} (hB : hbd' A m H) (g : qe_GE kp d (k, knd, ci, ret, qw_c 112 f)) (h : f m = some (some (.int v), m1)) : ∃ H1, lx kp A H m1 H1 d k [.ref (A 112)] (some (.int v)) := by
  have hx := ge_use g (as := [.ref 112]) (r := some (.int v)) (m1 := m1) (m := m) h
  obtain ⟨H1, a1, a2, a3⟩ := hb_call hB hx (fun v hv => by
    simp only [List.mem_cons, List.not_mem_nil, or_false] at hv
    subst hv
    exact lx_ok (by omega))
  exact ⟨H1, a1, a2, a3, hx.2⟩
theorem lx_bii {f : Int32 → Int32 → qm_M → Option qm_R} {x y : Int32} (hB : hbd' A m H) (g : qe_GE kp d (k, knd, ci, ret, qw_cii 112 f)) (h : f x y m = some (some (.int v), m1)) : ∃ H1, lx kp A H m1 H1 d k [.ref (A 112), .int x, .int y] (some (.int v)) := by
  have hx := ge_use g (as := [.ref 112, .int x, .int y]) (r := some (.int v)) (m1 := m1) (m := m) h
  obtain ⟨H1, a1, a2, a3⟩ := hb_call hB hx (fun v hv => by
    simp only [List.mem_cons, List.not_mem_nil, or_false] at hv
    rcases hv with rfl | rfl | rfl
    · exact lx_ok (by omega)
    · exact rn_num (fun a q => by cases q)
    · exact rn_num (fun a q => by cases q))
  exact ⟨H1, a1, a2, a3, hx.2⟩
theorem lx_biiv {f : Int32 → Int32 → qm_M → Option qm_R} {x y : Int32} (hB : hbd' A m H) (g : qe_GE kp d (k, knd, ci, ret, qw_cii 112 f)) (h : f x y m = some (none, m1)) : ∃ H1, lx kp A H m1 H1 d k [.ref (A 112), .int x, .int y] none := by
  have hx := ge_use g (as := [.ref 112, .int x, .int y]) (r := none) (m1 := m1) (m := m) h
  obtain ⟨H1, a1, a2, a3⟩ := hb_call hB hx (fun v hv => by
    simp only [List.mem_cons, List.not_mem_nil, or_false] at hv
    rcases hv with rfl | rfl | rfl
    · exact lx_ok (by omega)
    · exact rn_num (fun a q => by cases q)
    · exact rn_num (fun a q => by cases q))
  exact ⟨H1, a1, a2, a3, hx.2⟩
theorem lx_same {f : qm_M → Option qm_R} (hB : hbd' A m H) (g : qe_GE kp d (k, knd, ci, ret, qw_cc 0 112 f)) (h : f m = some (some (.int v), m1)) : ∃ H1, lx kp A H m1 H1 d k [.ref 0, .ref (A 112)] (some (.int v)) := by
  have hx := ge_use g (as := [.ref 0, .ref 112]) (r := some (.int v)) (m1 := m1) (m := m) h
  obtain ⟨H1, a1, a2, a3⟩ := hb_call hB hx (fun v hv => by
    simp only [List.mem_cons, List.not_mem_nil, or_false] at hv
    rcases hv with rfl | rfl
    · exact lx_ok (by omega)
    · exact lx_ok (by omega))
  have a3 : pm_X kp d k [.ref (A 0), .ref (A 112)] H (some (.int v)) H1 := a3
  rw [hB.2.2 0 (by omega)] at a3
  exact ⟨H1, a1, a2, a3, hx.2⟩
end LX
