/-! the text that the law writes tells the board -/
def at_ (T : Nat → Nat) (p : Nat) (l : List Nat) : Prop := ∀ i, i < l.length → T (p + i) = l.getD i 0
theorem at_app {T : Nat → Nat} {p : Nat} {l k : List Nat} (h : at_ T p (l ++ k)) : at_ T p l ∧ at_ T (p + l.length) k := by
  refine ⟨fun i hi => ?_, fun i hi => ?_⟩
  · have h1 := h i (by rw [List.length_append]; omega)
    rw [h1, List.getD_eq_getElem?_getD, List.getD_eq_getElem?_getD, List.getElem?_append_left hi]
  · have h1 := h (l.length + i) (by rw [List.length_append]; omega)
    rw [Nat.add_assoc, h1, List.getD_eq_getElem?_getD, List.getD_eq_getElem?_getD, List.getElem?_append_right (by omega), Nat.add_sub_cancel_left]
theorem at_hd {T : Nat → Nat} {p a : Nat} {l : List Nat} (h : at_ T p (a :: l)) : T p = a ∧ at_ T (p + 1) l := by
  refine ⟨h 0 (by simp), fun i hi => ?_⟩
  have h1 := h (i + 1) (by simp; omega)
  rw [Nat.add_assoc, Nat.add_comm 1 i, h1]
  rfl
theorem te_run {f : Nat → Bool} {n : Nat} : ∀ (j p : Nat), (∀ i, i < j → f (p + i) = true) → p + j ≤ n → (p + j < n → ¬ f (p + j) = true) → te f n p = p + j
  | 0, p, _, h2, h3 => by
    rcases Nat.lt_or_ge p n with q | q
    · exact te_f (h3 q)
    · exact te_n q
  | j + 1, p, h1, h2, h3 => by
    have e : p + (j + 1) = p + 1 + j := by omega
    rw [te_t (p := p) (by omega) (show f p = true from h1 0 (by omega)), te_run j (p + 1) (fun i hi => by have := h1 (i + 1) (by omega); rw [show p + (i + 1) = p + 1 + i by omega] at this; exact this) (by omega) (by rw [← e]; exact h3), e]
theorem ch_tab : (List.range 128).all (fun u => decide ((cB u = true ↔ (u = 32 ∨ u = 59)) ∧ (cD u = true ↔ (48 ≤ u ∧ u ≤ 57)) ∧ (cL u = true ↔ (97 ≤ u ∧ u ≤ 122)))) = true := by decide +kernel
theorem ch_B (u : Nat) : cB u = true ↔ (u = 32 ∨ u = 59) := by unfold cB; rw [decide_eq_true_iff]
theorem ch_D (u : Nat) : cD u = true ↔ (48 ≤ u ∧ u ≤ 57) := by unfold cD; rw [decide_eq_true_iff]
theorem ch_L (u : Nat) : cL u = true ↔ (97 ≤ u ∧ u ≤ 122) := by unfold cL; rw [decide_eq_true_iff]
/-- blanks, one digit, no digit -/
theorem rN_1 {n p j v lo hi : Nat} {T : Nat → Nat} (hb : ∀ i, i < j → cB (T (p + i)) = true) (hv : v < 10) (hd : T (p + j) = 48 + v) (hx : ¬ cD (T (p + j + 1)) = true) (hn : p + j + 1 ≤ n) (h1 : lo ≤ v) (h2 : v ≤ hi) : rN n T lo hi p = .inr (v, p + j + 1) := by
  have hs : te (fun k => cB (T k)) n p = p + j := te_run j p hb (by omega) (fun _ => by rw [hd, ch_B]; omega)
  have he : te (fun k => cD (T k)) n (p + j) = p + j + 1 := te_run 1 (p + j) (fun i hi => by
    have : i = 0 := by omega
    subst this
    show cD (T (p + j)) = true
    rw [hd, ch_D]; omega) (by omega) (fun _ => hx)
  have hw : nv T n (p + j) 0 = v := by
    rw [nv_t (by omega) (by rw [hd, ch_D]; omega), nv_f hx, if_neg (by omega), hd]
    omega
  unfold rN
  dsimp only
  rw [hs, he, if_neg (by omega), hw, if_neg (by omega)]
/-- blanks, a word of the four -/
theorem rK_1 {n p j w : Nat} {T : Nat → Nat} (hw : w < 4) (hb : ∀ i, i < j → cB (T (p + i)) = true) (hc : ∀ i, i < wl w → T (p + j + i) = wc w i) (hx : ¬ cL (T (p + j + wl w)) = true) (hn : p + j + wl w ≤ n) : rK n T p = .inr (w, p + j + wl w) := by
  have hl := wl_le w
  have h0 := hc 0 (by omega)
  have l0 := (ch_L _).mp (wc_L (w := w) (i := 0) (by omega) (by omega)).2
  have hs : te (fun k => cB (T k)) n p = p + j := te_run j p hb (by omega) (fun _ => by
    rw [Nat.add_zero] at h0
    rw [h0, ch_B]; omega)
  have he : te (fun k => cL (T k)) n (p + j) = p + j + wl w := te_run (wl w) (p + j) (fun i hi => by
    show cL (T (p + j + i)) = true
    rw [hc i hi]; exact (wc_L (by omega) hi).2) hn (fun _ => hx)
  have yes : wq T (p + j) (p + j + wl w) w = true := decide_eq_true ⟨rfl, hc⟩
  have no : ∀ u, u < w → ¬ wq T (p + j) (p + j + wl w) u = true := fun u hu z => by
    obtain ⟨z1, z2⟩ := of_decide_eq_true z
    have tab : (List.range 4).all (fun w => (List.range 4).all (fun u => !(Nat.blt u w) || (!(Nat.beq (wl u) (wl w)) || !(Nat.beq (wc u 0) (wc w 0))))) = true := by decide +kernel
    have c := List.all_eq_true.mp (List.all_eq_true.mp tab w (List.mem_range.mpr hw)) u (List.mem_range.mpr (by omega))
    have e1 : wl u = wl w := by omega
    have z3 := z2 0 (by have := wl_le u; omega)
    rw [h0] at z3
    rw [e1, z3] at c
    have b1 : Nat.blt u w = true := Nat.ble_eq_true_of_le hu
    rw [b1, Nat.beq_refl, Nat.beq_refl] at c
    cases c
  unfold rK
  dsimp only
  rw [hs, he]
  rcases (by omega : w = 0 ∨ w = 1 ∨ w = 2 ∨ w = 3) with rfl | rfl | rfl | rfl
  · rw [if_pos yes]
  · rw [if_neg (no 0 (by omega)), if_pos yes]
  · rw [if_neg (no 0 (by omega)), if_neg (no 1 (by omega)), if_pos yes]
  · rw [if_neg (no 0 (by omega)), if_neg (no 1 (by omega)), if_neg (no 2 (by omega)), if_pos yes]
theorem wcs_len : ∀ w, w < 5 → (wcs w).length = wl w := nb_k5 rfl rfl rfl rfl rfl
/-- a rule as the law writes it -/
def rlt (r k l : Nat) (bl : List Nat) : List Nat := (48 + r) :: (bl ++ (wcs k ++ [32, 48 + l, 32, 59]))
theorem rlt_len {r k l : Nat} {bl : List Nat} (hk : k < 4) : (rlt r k l bl).length = bl.length + wl k + 5 := by
  unfold rlt
  simp only [List.length_cons, List.length_append, List.length_nil, wcs_len k (by omega)]
  omega
theorem rD_at {n p j r k l : Nat} {bl : List Nat} {T : Nat → Nat} (hb : ∀ i, i < j → cB (T (p + i)) = true) (hbl : bl = [32] ∨ bl = []) (hr : 1 ≤ r ∧ r ≤ 5) (hk : k < 4) (hl : 1 ≤ l ∧ l ≤ 4) (ha : at_ T (p + j) (rlt r k l bl)) (hn : p + j + (rlt r k l bl).length ≤ n) :
    rD n T p = .inr (r, k, l, p + j + (bl.length + wl k + 3)) ∧ T (p + j + (bl.length + wl k + 3)) = 32 ∧ T (p + j + (bl.length + wl k + 4)) = 59 := by
  rw [rlt_len hk] at hn
  obtain ⟨a1, a2⟩ := at_hd ha
  obtain ⟨a3, a4⟩ := at_app a2
  obtain ⟨a5, a6⟩ := at_app a4
  rw [wcs_len k (by omega)] at a6
  obtain ⟨a7, a8⟩ := at_hd a6
  obtain ⟨a9, a10⟩ := at_hd a8
  obtain ⟨a11, a12⟩ := at_hd a10
  obtain ⟨a13, -⟩ := at_hd a12
  have hwl := wl_le k
  have hw : ∀ i, i < wl k → T (p + j + 1 + bl.length + i) = wc k i := fun i hi => a5 i (by rw [wcs_len k (by omega)]; exact hi)
  have hx1 : ¬ cD (T (p + j + 1)) = true := by
    rcases hbl with rfl | rfl
    · rw [(at_hd a3).1, ch_D]; omega
    · have h0 := hw 0 (by omega)
      have l0 := (ch_L _).mp (wc_L (w := k) (i := 0) (by omega) (by omega)).2
      have h0 : T (p + j + 1) = wc k 0 := h0
      rw [h0, ch_D]; omega
  have n1 := rN_1 (n := n) (lo := 1) (hi := 6) hb (show r < 10 by omega) a1 hx1 (by omega) hr.1 (by omega)
  have k1 := rK_1 (n := n) (p := p + j + 1) (j := bl.length) hk (fun i hi => by
    rcases hbl with rfl | rfl
    · have : i = 0 := by simp at hi; omega
      subst this
      show cB (T (p + j + 1)) = true
      rw [(at_hd a3).1, ch_B]; omega
    · simp at hi) hw (by rw [a7, ch_L]; omega) (by omega)
  have n2 := rN_1 (n := n) (T := T) (p := p + j + 1 + bl.length + wl k) (j := 1) (v := l) (lo := 1) (hi := 8) (fun i hi => by
    have : i = 0 := by omega
    subst this
    show cB (T (p + j + 1 + bl.length + wl k)) = true
    rw [a7, ch_B]; omega) (by omega) a9 (by rw [a11, ch_D]; omega) (by omega) hl.1 (by omega)
  refine ⟨?_, ?_, ?_⟩
  · unfold rD
    rw [n1]
    dsimp only
    rw [k1]
    dsimp only
    rw [n2, show p + j + 1 + bl.length + wl k + 1 + 1 = p + j + (bl.length + wl k + 3) by omega]
  · rw [show p + j + (bl.length + wl k + 3) = p + j + 1 + bl.length + wl k + 1 + 1 by omega]; exact a11
  · rw [show p + j + (bl.length + wl k + 4) = p + j + 1 + bl.length + wl k + 1 + 1 + 1 by omega]; exact a13
/-- cells as the law writes them -/
def hdt (q : Nat × Nat) : List Nat := [104, 101, 97, 100, 115, 32, 48 + q.1, 32, 48 + q.2, 32]
def hds (H : nb_F) (l : List (Nat × Nat)) : nb_F := l.foldl (fun H q => H ||| nb_e (6 * q.1 + q.2)) H
theorem rH_at {n r c : Nat} {T : Nat → Nat} (hr : r ≤ 5) (hc : c ≤ 5) : ∀ (l : List (Nat × Nat)) (F p j : Nat) (H : nb_F), l.length < F → (∀ q ∈ l, q.1 < r ∧ q.2 < c) → (∀ i, i < j → cB (T (p + i)) = true) → at_ T (p + j) (l.flatMap hdt) → p + j + (l.flatMap hdt).length = n → rH n T r c F p H = .inr (hds H l)
  | [], 0, p, j, H, h0, _, _, _, _ => by simp at h0
  | [], F + 1, p, j, H, _, _, hb, _, hn => by
    have hn : p + j = n := hn
    have hs : te (fun k => cB (T k)) n p = p + j := te_run j p hb (by omega) (fun z => by omega)
    rw [rH_s, hs, if_pos (by omega)]
    rfl
  | q :: l, 0, p, j, H, h0, _, _, _, _ => by simp at h0
  | q :: l, F + 1, p, j, H, h0, hq, hb, ha, hn => by
    have hm := hq q List.mem_cons_self
    rw [List.flatMap_cons] at ha hn
    rw [List.length_append] at hn
    have hlen : (hdt q).length = 10 := rfl
    obtain ⟨a0, aR⟩ := at_app ha
    have g : ∀ i, i < 10 → T (p + j + i) = (hdt q).getD i 0 := fun i hi => a0 i hi
    have g0 : T (p + j + 0) = 104 := g 0 (by omega)
    have g1 : T (p + j + 1) = 101 := g 1 (by omega)
    have g2 : T (p + j + 2) = 97 := g 2 (by omega)
    have g3 : T (p + j + 3) = 100 := g 3 (by omega)
    have g4 : T (p + j + 4) = 115 := g 4 (by omega)
    have g5 : T (p + j + 5) = 32 := g 5 (by omega)
    have g6 : T (p + j + 5 + 1) = 48 + q.1 := g 6 (by omega)
    have g7 : T (p + j + 5 + 1 + 1) = 32 := g 7 (by omega)
    have g8 : T (p + j + 5 + 1 + 1 + 1) = 48 + q.2 := g 8 (by omega)
    have g9 : T (p + j + 5 + 1 + 1 + 1 + 1) = 32 := g 9 (by omega)
    have hs : te (fun k => cB (T k)) n p = p + j := te_run j p hb (by omega) (fun _ => by
      have : T (p + j) = 104 := g0
      rw [this, ch_B]; omega)
    have hw : ∀ i, i < wl 4 → T (p + j + i) = wc 4 i := fun i hi => by
      have hi : i < 5 := hi
      rcases (by omega : i = 0 ∨ i = 1 ∨ i = 2 ∨ i = 3 ∨ i = 4) with rfl | rfl | rfl | rfl | rfl
      · exact g0
      · exact g1
      · exact g2
      · exact g3
      · exact g4
    have he : te (fun k => cL (T k)) n (p + j) = p + j + 5 := te_run 5 (p + j) (fun i hi => by
      show cL (T (p + j + i)) = true
      rw [hw i hi]; exact (wc_L (by omega) hi).2) (by omega) (fun _ => by rw [g5, ch_L]; omega)
    have yes : wq T (p + j) (p + j + 5) 4 = true := decide_eq_true ⟨rfl, hw⟩
    have n1 := rN_1 (n := n) (T := T) (p := p + j + 5) (j := 1) (v := q.1) (lo := 0) (hi := r - 1) (fun i hi => by
      have : i = 0 := by omega
      subst this
      show cB (T (p + j + 5)) = true
      rw [g5, ch_B]; omega) (by omega) g6 (by rw [g7, ch_D]; omega) (by omega) (by omega) (by omega)
    have n2 := rN_1 (n := n) (T := T) (p := p + j + 5 + 1 + 1) (j := 1) (v := q.2) (lo := 0) (hi := c - 1) (fun i hi => by
      have : i = 0 := by omega
      subst this
      show cB (T (p + j + 5 + 1 + 1)) = true
      rw [g7, ch_B]; omega) (by omega) g8 (by rw [g9, ch_D]; omega) (by omega) (by omega) (by omega)
    have ih := rH_at (n := n) (T := T) hr hc l F (p + j + 5 + 1 + 1 + 1 + 1) 1 (H ||| nb_e (6 * q.1 + q.2)) (by simp at h0; omega) (fun q' hq' => hq q' (List.mem_cons_of_mem _ hq')) (fun i hi => by
      have : i = 0 := by omega
      subst this
      show cB (T (p + j + 5 + 1 + 1 + 1 + 1)) = true
      rw [g9, ch_B]; omega) (by rw [hlen] at aR; exact aR) (by omega)
    have e : rS n T r c (p + j) H = .inr (p + j + 5 + 1 + 1 + 1 + 1, H ||| nb_e (6 * q.1 + q.2)) := by
      unfold rS
      rw [he, if_pos yes, n1]
      dsimp only
      rw [n2]
    rw [rH_s, hs, if_neg (by omega), e]
    exact ih
/-- the whole text -/
def txl (r0 k0 l0 r1 k1 l1 : Nat) (l : List (Nat × Nat)) : List Nat := rlt r0 k0 l0 [32] ++ (rlt r1 k1 l1 [] ++ l.flatMap hdt)
theorem rT_at {r0 k0 l0 r1 k1 l1 : Nat} {l : List (Nat × Nat)} (h0 : 1 ≤ r0 ∧ r0 ≤ 5 ∧ k0 < 4 ∧ 1 ≤ l0 ∧ l0 ≤ 4) (h1 : 1 ≤ r1 ∧ r1 ≤ 5 ∧ k1 < 4 ∧ 1 ≤ l1 ∧ l1 ≤ 4) (hl : l.length ≤ 5) (hq : ∀ q ∈ l, q.1 < r0 ∧ q.2 < r1) {T : Nat → Nat} (ha : at_ T 0 (txl r0 k0 l0 r1 k1 l1 l)) :
    rT (txl r0 k0 l0 r1 k1 l1 l).length T = .inr ((r0, k0, l0), (r1, k1, l1), hds 0 l) := by
  have e0 := rlt_len (r := r0) (l := l0) (bl := [32]) h0.2.2.1
  have e1 := rlt_len (r := r1) (l := l1) (bl := []) h1.2.2.1
  have eL : (txl r0 k0 l0 r1 k1 l1 l).length = (rlt r0 k0 l0 [32]).length + ((rlt r1 k1 l1 []).length + (l.flatMap hdt).length) := by
    unfold txl
    rw [List.length_append, List.length_append]
  have s1 : ([32] : List Nat).length = 1 := rfl
  have s0 : ([] : List Nat).length = 0 := rfl
  rw [s1] at e0
  rw [s0] at e1
  generalize en : (txl r0 k0 l0 r1 k1 l1 l).length = n at *
  obtain ⟨a0, aR⟩ := at_app ha
  obtain ⟨a1, a2⟩ := at_app aR
  obtain ⟨d1, d2, d3⟩ := rD_at (n := n) (p := 0) (j := 0) (fun i hi => by omega) (Or.inl rfl) ⟨h0.1, h0.2.1⟩ h0.2.2.1 h0.2.2.2 a0 (by omega)
  rw [s1] at d1 d2 d3
  have bl2 : ∀ (p : Nat), T p = 32 → T (p + 1) = 59 → ∀ i, i < 2 → cB (T (p + i)) = true := fun p q1 q2 i hi => by
    rcases (by omega : i = 0 ∨ i = 1) with rfl | rfl
    · rw [ch_B]; exact Or.inl q1
    · rw [ch_B]; exact Or.inr q2
  have hp1 : 0 + 0 + (1 + wl k0 + 3) + 2 = 0 + (rlt r0 k0 l0 [32]).length := by omega
  obtain ⟨c1, c2, c3⟩ := rD_at (n := n) (p := 0 + 0 + (1 + wl k0 + 3)) (j := 2) (bl2 _ d2 (by rw [show 0 + 0 + (1 + wl k0 + 3) + 1 = 0 + 0 + (1 + wl k0 + 4) by omega]; exact d3)) (Or.inr rfl) ⟨h1.1, h1.2.1⟩ h1.2.2.1 h1.2.2.2 (by rw [hp1]; exact a1) (by omega)
  rw [s0] at c1 c2 c3
  have hp2 : 0 + 0 + (1 + wl k0 + 3) + 2 + (0 + wl k1 + 3) + 2 = 0 + (rlt r0 k0 l0 [32]).length + (rlt r1 k1 l1 []).length := by omega
  have hh := rH_at (n := n) (T := T) (r := r0) (c := r1) (by omega) (by omega) l 120 (0 + 0 + (1 + wl k0 + 3) + 2 + (0 + wl k1 + 3)) 2 0 (by omega) hq (bl2 _ c2 (by rw [show 0 + 0 + (1 + wl k0 + 3) + 2 + (0 + wl k1 + 3) + 1 = 0 + 0 + (1 + wl k0 + 3) + 2 + (0 + wl k1 + 4) by omega]; exact c3)) (by rw [hp2]; exact a2) (by omega)
  unfold rT
  rw [d1]
  dsimp only
  rw [c1]
  dsimp only
  rw [hh]
theorem hds_bit : ∀ (l : List (Nat × Nat)) (H : nb_F) (i : Nat), (hds H l).getLsbD i = (H.getLsbD i || l.any (fun q => (nb_e (6 * q.1 + q.2)).getLsbD i))
  | [], H, i => by simp [hds]
  | q :: l, H, i => by
    show (hds (H ||| nb_e (6 * q.1 + q.2)) l).getLsbD i = _
    rw [hds_bit l, BitVec.getLsbD_or, List.any_cons, Bool.or_assoc]
