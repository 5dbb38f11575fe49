/-! moves in their order; the class finds -/
theorem le_Pl_findAt_14 (K3 : Int32 → Int32 → Int32 → Int32 → Int32 → qm_M → Option qm_R) (n : Nat) (v1 : Int32) (v2 : Int32) (v3 : Int32) (v4 : Int32) (v5 : Int32) (v6 : Int32) (m : qm_M) : L_Pl_findAt_14 K3 (n + 1) v1 v2 v3 v4 v5 v6 m = X_Pl_findAt_14 F_Ru_allows F_Pl_effectOf K3 (L_Pl_findAt_56 K3 (L_Pl_findAt_14 K3 n)) v1 v2 v3 v4 v5 v6 m := rfl
theorem le_Pl_findAt_3  (n : Nat) (v1 : Int32) (v2 : Int32) (v3 : Int32) (v4 : Int32) (v5 : Int32) (m : qm_M) : L_Pl_findAt_3 (n + 1) v1 v2 v3 v4 v5 m = X_Pl_findAt_3 F_Ru_allows F_Pl_effectOf (L_Pl_findAt_14 (L_Pl_findAt_3 n) 1000000) v1 v2 v3 v4 v5 m := rfl
theorem le_Pl_find_27 (K15 : Int32 → Int32 → Int32 → Int32 → qm_M → Option qm_R) (n : Nat) (v2 : Int32) (v3 : Int32) (v4 : Int32) (v5 : Int32) (v6 : Int32) (m : qm_M) : L_Pl_find_27 K15 (n + 1) v2 v3 v4 v5 v6 m = X_Pl_find_27 F_Pl_boardWorth F_Ps_showsHeads F_Pl_findAt K15 (L_Pl_find_27 K15 n) (L_Pl_find_66 K15 (L_Pl_find_27 K15 n)) v2 v3 v4 v5 v6 m := rfl
theorem le_Pl_find_15  (n : Nat) (v2 : Int32) (v3 : Int32) (v4 : Int32) (v5 : Int32) (m : qm_M) : L_Pl_find_15 (n + 1) v2 v3 v4 v5 m = X_Pl_find_15 F_Pl_boardWorth F_Ps_showsHeads F_Pl_findAt (L_Pl_find_27 (L_Pl_find_15 n) 1000000) v2 v3 v4 v5 m := rfl
def wk {α : Type} (q : Nat → Bool) : List α → Nat → α ⊕ Nat
  | [], p => .inr p
  | a :: l, p => if q p = true then .inl a else wk q l (p + 1)
theorem wk_n {α : Type} (q : Nat → Bool) (p : Nat) : wk q ([] : List α) p = .inr p := rfl
theorem wk_c {α : Type} (q : Nat → Bool) (a : α) (l : List α) (p : Nat) : wk q (a :: l) p = if q p = true then .inl a else wk q l (p + 1) := rfl
theorem wk_r {α : Type} {q : Nat → Bool} {k : List α} {p' : Nat} : ∀ (l : List α) (p : Nat), wk q l p = .inr p' → wk q (l ++ k) p = wk q k p'
  | [], p, h => by
    rw [wk_n] at h
    cases h
    rfl
  | a :: l, p, h => by
    rw [wk_c] at h
    rw [List.cons_append, wk_c]
    by_cases z : q p = true
    · rw [if_pos z] at h
      cases h
    · rw [if_neg z] at h
      rw [if_neg z]
      exact wk_r l (p + 1) h
theorem wk_l {α : Type} {q : Nat → Bool} {k : List α} {a : α} : ∀ (l : List α) (p : Nat), wk q l p = .inl a → wk q (l ++ k) p = .inl a
  | [], p, h => by
    rw [wk_n] at h
    cases h
  | b :: l, p, h => by
    rw [wk_c] at h
    rw [List.cons_append, wk_c]
    by_cases z : q p = true
    · rw [if_pos z] at h
      rw [if_pos z]
      exact h
    · rw [if_neg z] at h
      rw [if_neg z]
      exact wk_l l (p + 1) h
theorem wk_all {α : Type} {q : Nat → Bool} : ∀ (l : List α) (p : Nat), (∀ i, p ≤ i → i < p + l.length → ¬ q i = true) → wk q l p = .inr (p + l.length)
  | [], p, _ => rfl
  | a :: l, p, h => by
    rw [List.length_cons] at h
    rw [wk_c, if_neg (h p (Nat.le_refl _) (by omega)), wk_all l (p + 1) (fun i h1 h2 => h i (by omega) (by omega)), List.length_cons, Nat.add_assoc, Nat.add_comm 1]
def rg {α : Type} (f : Nat → List α) (n : Nat) : List α := (List.range n).flatMap f
theorem rg_0 {α : Type} (f : Nat → List α) : rg f 0 = [] := rfl
theorem rg_s {α : Type} (f : Nat → List α) (n : Nat) : rg f (n + 1) = rg f n ++ f n := by
  unfold rg
  rw [List.range_succ, List.flatMap_append, List.flatMap_cons, List.flatMap_nil, List.append_nil]
theorem rg_pre {α : Type} (f : Nat → List α) (i : Nat) : ∀ d, ∃ l, rg f (i + d) = rg f i ++ l
  | 0 => ⟨[], (List.append_nil _).symm⟩
  | d + 1 => by
    obtain ⟨l, h⟩ := rg_pre f i d
    exact ⟨l ++ f (i + d), by rw [← Nat.add_assoc, rg_s, h, List.append_assoc]⟩
theorem rg_len {α : Type} {f : Nat → List α} {B : Nat} : ∀ n, (∀ i, i < n → (f i).length ≤ B) → (rg f n).length ≤ n * B
  | 0, _ => Nat.zero_le _
  | n + 1, h => by
    have ih := rg_len (f := f) (B := B) n (fun i hi => h i (by omega))
    have h1 := h n (by omega)
    rw [rg_s, List.length_append, Nat.succ_mul]
    omega
/-- loops that go through a list, chunk by chunk -/
theorem wkE {α : Type} (L : Nat → Nat → qm_M → Option qm_R) (n : Nat) (f : Nat → List α) (q : Nat → Bool) (p0 : Nat) (Inv : Nat → qm_M → Prop) (Found : α → Option qm_R → Prop) (cont : qm_M → Option qm_R)
    (hs : ∀ F i p m, i < n → Inv p m → (∃ p' m', wk q (f i) p = .inr p' ∧ Inv p' m' ∧ L (F + 1) i m = L F (i + 1) m') ∨ (∃ a, wk q (f i) p = .inl a ∧ Found a (L (F + 1) i m)))
    (he : ∀ F p m, Inv p m → L (F + 1) n m = cont m) (F : Nat) (m : qm_M) (hF : n < F) (h0 : Inv p0 m) :
    (∃ p' m', wk q (rg f n) p0 = .inr p' ∧ Inv p' m' ∧ L F 0 m = cont m') ∨ (∃ a, wk q (rg f n) p0 = .inl a ∧ Found a (L F 0 m)) := by
  refine lpE (fun F i (w : Nat × qm_M) => L F i w.2) n (fun i w => wk q (rg f i) p0 = .inr w.1 ∧ Inv w.1 w.2) (fun r => (∃ p' m', wk q (rg f n) p0 = .inr p' ∧ Inv p' m' ∧ r = cont m') ∨ (∃ a, wk q (rg f n) p0 = .inl a ∧ Found a r)) (fun F i w hi hI => ?_) (fun F w hI => ?_) F 0 (p0, m) (Nat.zero_le _) (by omega) ⟨wk_n q p0, h0⟩
  · obtain ⟨p, m1⟩ := w
    obtain ⟨h1, h2⟩ := hI
    rcases hs F i p m1 hi h2 with ⟨p', m', g1, g2, g3⟩ | ⟨a, g1, g2⟩
    · exact Or.inl ⟨(p', m'), ⟨by rw [rg_s, wk_r _ _ h1]; exact g1, g2⟩, g3⟩
    · refine Or.inr (Or.inr ⟨a, ?_, g2⟩)
      obtain ⟨l, e⟩ := rg_pre f (i + 1) (n - (i + 1))
      rw [show i + 1 + (n - (i + 1)) = n by omega] at e
      rw [e]
      exact wk_l _ _ (by rw [rg_s, wk_r _ _ h1]; exact g1)
  · exact Or.inl ⟨w.1, w.2, hI.1, hI.2, he F w.1 w.2 hI.2⟩
/-- moves of one greatest cell, of all cells that show heads -/
noncomputable def fit (K L : Nat → Nat) (e : Int32) (R C : Nat) : Bool := decide (e = -1 ∨ iB (ef K L R C) = e)
noncomputable def mvC (K L : Nat → Nat) (e : Int32) (R c : Nat) : Nat → List (Nat × Nat) := fun U => if (fit K L e R (2 ^ c + U) && al (K 1) (L 1) (2 ^ c + U)) = true then [(R, 2 ^ c + U)] else []
noncomputable def mvR (K L : Nat → Nat) (e : Int32) (r c : Nat) : Nat → List (Nat × Nat) := fun S => if al (K 0) (L 0) (2 ^ r + S) = true then rg (mvC K L e (2 ^ r + S) c) (2 ^ c) else []
noncomputable def mvc (K L : Nat → Nat) (e : Int32) (H : nb_F) (r : Nat) : Nat → List (Nat × Nat) := fun c => if H.getLsbD (6 * r + c) = true then rg (mvR K L e r c) (2 ^ r) else []
noncomputable def mvr (K L : Nat → Nat) (e : Int32) (H : nb_F) (C : Nat) : Nat → List (Nat × Nat) := fun r => rg (mvc K L e H r) C
def pfr (m m1 : qm_M) : Prop := (∀ a, a ≠ 48 → m1.1 a = m.1 a) ∧ m1.1 48 3 = m.1 48 3 ∧ m1.2 = m.2
theorem pfr.rf (m : qm_M) : pfr m m := ⟨fun _ _ => rfl, rfl, rfl⟩
theorem pfr.tr {m m1 m2 : qm_M} (h : pfr m m1) (g : pfr m1 m2) : pfr m m2 := ⟨fun a x => (g.1 a x).trans (h.1 a x), g.2.1.trans h.2.1, g.2.2.trans h.2.2⟩
theorem pfr.I (m : qm_M) {j : Nat} (hj : j ≠ 3) (x : Int32) : pfr m (qm_sI m 48 j x) := ⟨fun a h => (qm_sI_other a h).1, me_oth _ _ _ _ (Or.inr (Ne.symm hj)), rfl⟩
theorem pfr.ef {m m1 : qm_M} {K L : Nat → Nat} (g : pfr m m1) (h : efM m K L) : efM m1 K L := fun R C hR hC => by rw [g.1 59 (by decide)]; exact h R C hR hC
theorem pfr.cs {m m1 : qm_M} {s : sT} (g : pfr m m1) (h : cs m s) : cs m1 s := h.fr (fun a ha => g.1 a (by omega)) (fun a _ => by rw [g.2.2])
theorem pfr.T {m m1 : qm_M} {K L : Nat → Nat} (g : pfr m m1) (h : plT m K L) : plT m1 K L := by
  obtain ⟨⟨a1, a2, a3⟩, ⟨b1, b2, b3⟩, e⟩ := h
  exact ⟨⟨by rw [g.1 49 (by decide)]; exact a1, by rw [g.1 49 (by decide)]; exact a2, a3.c (g.1 50 (by decide)) (g.1 51 (by decide))⟩, ⟨by rw [g.1 54 (by decide)]; exact b1, by rw [g.1 54 (by decide)]; exact b2, b3.c (g.1 55 (by decide)) (g.1 56 (by decide))⟩, g.ef e⟩
theorem pfr.R {m m1 : qm_M} (g : pfr m m1) {o : Nat} (h : cvR m o) (ho : o = 49 ∨ o = 54) : cvR m1 o := by
  obtain ⟨x1, x2⟩ := h
  refine ⟨by rw [g.1 (o + 3) (by omega)]; exact x1, ?_⟩
  rw [g.1 o (by omega)]
  rcases x2 with x2 | ⟨κ, l, y1, y2, y3, y4, y5⟩
  · exact Or.inl x2
  · exact Or.inr ⟨κ, l, y1, y2, y3, y4, y5.c (g.1 (o + 1) (by omega)) (g.1 (o + 2) (by omega))⟩
theorem pfr.cv {m m1 : qm_M} (g : pfr m m1) (h : cvPl m) : cvPl m1 := by
  obtain ⟨h1, h2, h3, h4⟩ := h
  refine ⟨g.R h1 (Or.inl rfl), g.R h2 (Or.inr rfl), fun x hx => by rw [g.1 59 (by decide)]; exact h3 x hx, ?_⟩
  rw [g.2.1]
  rcases h4 with h4 | ⟨r, c, K, L, y1, y2, y3⟩
  · exact Or.inl h4
  · exact Or.inr ⟨r, c, K, L, y1, y2, g.T y3⟩
theorem pfr.ou {m m1 : qm_M} (g : pfr m m1) : ou 48 59 m m1 := fun a ha => ⟨g.1 a (by omega), by rw [g.2.2]⟩
def pIn (m0 : qm_M) (p : Nat) (m : qm_M) : Prop := pfr m0 m ∧ m.1 48 6 = nI p
def pFo (m0 : qm_M) (a : Nat × Nat) (r : Option qm_R) : Prop := ∃ m', r = some (some (.int 1), m') ∧ m'.1 48 4 = nI a.1 ∧ m'.1 48 5 = nI a.2 ∧ pfr m0 m'
theorem ishl1 {n : Nat} (hn : n < 6) : qo_ishl (nI (2 ^ n)) 1 = nI (2 ^ n + 2 ^ n) := by
  rw [(p2_6 hn).2.1, Nat.pow_succ, Nat.mul_two]
theorem pow_6 {n : Nat} (hn : n < 6) : 2 ^ n ≤ 32 := Nat.le_trans (Nat.pow_le_pow_right (by omega) (show n ≤ 5 by omega)) (by decide)
theorem nu_alR {m0 m : qm_M} {K L : Nat → Nat} (hb : K 0 ≤ 3 ∧ K 1 ≤ 3 ∧ (1 ≤ L 0 ∧ L 0 ≤ 8) ∧ 1 ≤ L 1 ∧ L 1 ≤ 8) (hT : plT m0 K L) (g : pfr m0 m) {S : Nat} (hS : S < 64) : F_Ru_allows 49 (nI S) m = some (some (.int (if al (K 0) (L 0) S = true then 1 else 0)), m) ∧ F_Ru_allows 54 (nI S) m = some (some (.int (if al (K 1) (L 1) S = true then 1 else 0)), m) :=
  ⟨nu_allows rfl (g.T hT).1.1 (g.T hT).1.2.1 hb.1 hb.2.2.1 (by omega), nu_allows rfl (g.T hT).2.1.1 (g.T hT).2.1.2.1 hb.2.1 hb.2.2.2 (by omega)⟩
theorem nu_find14 {m0 : qm_M} {K L : Nat → Nat} (hb : K 0 ≤ 3 ∧ K 1 ≤ 3 ∧ (1 ≤ L 0 ∧ L 0 ≤ 8) ∧ 1 ≤ L 1 ∧ L 1 ≤ 8) (hT : plT m0 K L) (K3 : Int32 → Int32 → Int32 → Int32 → Int32 → qm_M → Option qm_R) (v1 e k : Int32) {R c p0 : Nat} (hR : R < 64) (hc : c < 6) (hal : al (K 0) (L 0) R = true) {m : qm_M} (h0 : pIn m0 p0 m) :
    (∃ p' m', wk (fun p => decide (nI p = k)) (rg (mvC K L e R c) (2 ^ c)) p0 = .inr p' ∧ pIn m0 p' m' ∧ L_Pl_findAt_14 K3 1000000 v1 (nI (2 ^ c)) e k (nI R) (nI (2 ^ c)) m = K3 v1 (nI (2 ^ c)) e k (nI R + 1) m') ∨ (∃ a, wk (fun p => decide (nI p = k)) (rg (mvC K L e R c) (2 ^ c)) p0 = .inl a ∧ pFo m0 a (L_Pl_findAt_14 K3 1000000 v1 (nI (2 ^ c)) e k (nI R) (nI (2 ^ c)) m)) := by
  have h32 := pow_6 hc
  refine wkE (fun F U m => L_Pl_findAt_14 K3 F v1 (nI (2 ^ c)) e k (nI R) (nI (2 ^ c + U)) m) (2 ^ c) (mvC K L e R c) (fun p => decide (nI p = k)) p0 (pIn m0) (pFo m0) (fun m' => K3 v1 (nI (2 ^ c)) e k (nI R + 1) m') (fun F U p m hU hI => ?_) (fun F p m hI => ?_) 1000000 m (by omega) h0
  · obtain ⟨g, h6⟩ := hI
    obtain ⟨a1, -⟩ := nu_alR hb hT g hR
    obtain ⟨-, a2⟩ := nu_alR hb hT g (S := 2 ^ c + U) (by omega)
    have ee := nu_effectOf (m := m) hR (show 2 ^ c + U < 64 by omega) ((g.T hT).2.2 R (2 ^ c + U) hR (by omega))
    have el : nI (2 ^ c + U) < qo_ishl (nI (2 ^ c)) 1 := by rw [ishl1 hc]; exact nI_lt (by omega) (by omega)
    have ea : nI (2 ^ c + U) + 1 = nI (2 ^ c + (U + 1)) := nI_add _ 1
    have l56 : ∀ s0 : Int32, (s0 = 0 ∨ s0 = 1) → L_Pl_findAt_56 K3 (L_Pl_findAt_14 K3 F) v1 (nI (2 ^ c)) e k (nI R) (nI (2 ^ c + U)) s0 m = if s0 = 1 ∧ al (K 1) (L 1) (2 ^ c + U) = true then (if nI p = k then some (some (.int 1), qm_sI (qm_sI m 48 4 (nI R)) 48 5 (nI (2 ^ c + U))) else L_Pl_findAt_14 K3 F v1 (nI (2 ^ c)) e k (nI R) (nI (2 ^ c + (U + 1))) (qm_sI m 48 6 (nI (p + 1)))) else L_Pl_findAt_14 K3 F v1 (nI (2 ^ c)) e k (nI R) (nI (2 ^ c + (U + 1))) m := fun s0 hs => by
      unfold L_Pl_findAt_56 X_Pl_findAt_56
      rw [ea]
      rcases hs with rfl | rfl
      · rw [if_pos rfl, if_neg (fun z => n10 z.1.symm)]
      · rw [if_neg n10, a2, qe_rI_e]
        by_cases q : al (K 1) (L 1) (2 ^ c + U) = true
        · rw [if_pos q, if_neg n10, if_pos (show (1 : Int32) = 1 ∧ al (K 1) (L 1) (2 ^ c + U) = true from ⟨rfl, q⟩)]
          dsimp only
          rw [h6]
          by_cases z : nI p = k
          · rw [if_pos z, if_pos z]
          · rw [if_neg z, if_neg z, nI_1]
        · rw [if_neg q, if_pos rfl, if_neg (fun z => q z.2)]
    have hL : L_Pl_findAt_14 K3 (F + 1) v1 (nI (2 ^ c)) e k (nI R) (nI (2 ^ c + U)) m = if (fit K L e R (2 ^ c + U) && al (K 1) (L 1) (2 ^ c + U)) = true then (if nI p = k then some (some (.int 1), qm_sI (qm_sI m 48 4 (nI R)) 48 5 (nI (2 ^ c + U))) else L_Pl_findAt_14 K3 F v1 (nI (2 ^ c)) e k (nI R) (nI (2 ^ c + (U + 1))) (qm_sI m 48 6 (nI (p + 1)))) else L_Pl_findAt_14 K3 F v1 (nI (2 ^ c)) e k (nI R) (nI (2 ^ c + (U + 1))) m := by
      rw [le_Pl_findAt_14]
      unfold X_Pl_findAt_14
      have hx : (fit K L e R (2 ^ c + U) && al (K 1) (L 1) (2 ^ c + U)) = true ↔ (e = -1 ∨ iB (ef K L R (2 ^ c + U)) = e) ∧ al (K 1) (L 1) (2 ^ c + U) = true := by
        rw [Bool.and_eq_true]
        unfold fit
        rw [decide_eq_true_iff]
      rw [a1, qe_rI_e, if_pos hal, if_neg n10, if_pos el]
      by_cases q : e = -1
      · rw [if_pos q, l56 1 (Or.inr rfl)]
        by_cases z : al (K 1) (L 1) (2 ^ c + U) = true
        · rw [if_pos (show (1 : Int32) = 1 ∧ al (K 1) (L 1) (2 ^ c + U) = true from ⟨rfl, z⟩), if_pos (hx.mpr ⟨Or.inl q, z⟩)]
        · rw [if_neg (show ¬ ((1 : Int32) = 1 ∧ al (K 1) (L 1) (2 ^ c + U) = true) from fun y => z y.2), if_neg (fun y => z (hx.mp y).2)]
      · rw [if_neg q, ee, qe_rI_e]
        by_cases q2 : iB (ef K L R (2 ^ c + U)) = e
        · rw [if_pos q2, l56 1 (Or.inr rfl)]
          by_cases z : al (K 1) (L 1) (2 ^ c + U) = true
          · rw [if_pos (show (1 : Int32) = 1 ∧ al (K 1) (L 1) (2 ^ c + U) = true from ⟨rfl, z⟩), if_pos (hx.mpr ⟨Or.inr q2, z⟩)]
          · rw [if_neg (show ¬ ((1 : Int32) = 1 ∧ al (K 1) (L 1) (2 ^ c + U) = true) from fun y => z y.2), if_neg (fun y => z (hx.mp y).2)]
        · rw [if_neg q2, l56 0 (Or.inl rfl), if_neg (show ¬ ((0 : Int32) = 1 ∧ al (K 1) (L 1) (2 ^ c + U) = true) from fun y => n10 y.1.symm), if_neg (fun y => (hx.mp y).1.elim q q2)]
    rw [hL]
    unfold mvC
    by_cases z : (fit K L e R (2 ^ c + U) && al (K 1) (L 1) (2 ^ c + U)) = true
    · rw [if_pos z, if_pos z, wk_c]
      by_cases y : nI p = k
      · rw [if_pos (decide_eq_true y), if_pos y]
        refine Or.inr ⟨_, rfl, _, rfl, ?_, me_self _ _ _ _, g.tr ((pfr.I m (by decide) _).tr (pfr.I _ (by decide) _))⟩
        rw [me_oth _ _ _ _ (Or.inr (by decide)), me_self]
      · rw [if_neg (show ¬ decide (nI p = k) = true by rw [decide_eq_true_iff]; exact y), if_neg y, wk_n]
        exact Or.inl ⟨p + 1, _, rfl, ⟨g.tr (pfr.I m (by decide) _), me_self _ _ _ _⟩, rfl⟩
    · rw [if_neg z, if_neg z, wk_n]
      exact Or.inl ⟨p, m, rfl, ⟨g, h6⟩, rfl⟩
  · obtain ⟨g, h6⟩ := hI
    obtain ⟨a1, -⟩ := nu_alR hb hT g hR
    have el : ¬ nI (2 ^ c + 2 ^ c) < qo_ishl (nI (2 ^ c)) 1 := by rw [ishl1 hc]; exact nI_nlt (Nat.le_refl _) (by omega)
    show L_Pl_findAt_14 K3 (F + 1) v1 (nI (2 ^ c)) e k (nI R) (nI (2 ^ c + 2 ^ c)) m = _
    rw [le_Pl_findAt_14]
    unfold X_Pl_findAt_14
    rw [a1, qe_rI_e, if_pos hal, if_neg n10, if_neg el]
theorem nu_findAt {m0 : qm_M} {K L : Nat → Nat} (hb : K 0 ≤ 3 ∧ K 1 ≤ 3 ∧ (1 ≤ L 0 ∧ L 0 ≤ 8) ∧ 1 ≤ L 1 ∧ L 1 ≤ 8) (hT : plT m0 K L) (e k : Int32) {r c p0 : Nat} (hr : r < 6) (hc : c < 6) {m : qm_M} (h0 : pIn m0 p0 m) :
    (∃ p' m', wk (fun p => decide (nI p = k)) (rg (mvR K L e r c) (2 ^ r)) p0 = .inr p' ∧ pIn m0 p' m' ∧ F_Pl_findAt (nI (2 ^ r)) (nI (2 ^ c)) e k m = some (some (.int 0), m')) ∨ (∃ a, wk (fun p => decide (nI p = k)) (rg (mvR K L e r c) (2 ^ r)) p0 = .inl a ∧ pFo m0 a (F_Pl_findAt (nI (2 ^ r)) (nI (2 ^ c)) e k m)) := by
  have h32 := pow_6 hr
  have hc32 := pow_6 hc
  refine wkE (fun F S m => L_Pl_findAt_3 F (nI (2 ^ r)) (nI (2 ^ c)) e k (nI (2 ^ r + S)) m) (2 ^ r) (mvR K L e r c) (fun p => decide (nI p = k)) p0 (pIn m0) (pFo m0) (fun m' => some (some (.int 0), m')) (fun F S p m hS hI => ?_) (fun F p m hI => ?_) 1000000 m (by omega) h0
  · have el : nI (2 ^ r + S) < qo_ishl (nI (2 ^ r)) 1 := by rw [ishl1 hr]; exact nI_lt (by omega) (by omega)
    have ea : nI (2 ^ r + S) + 1 = nI (2 ^ r + (S + 1)) := nI_add _ 1
    have hL : L_Pl_findAt_3 (F + 1) (nI (2 ^ r)) (nI (2 ^ c)) e k (nI (2 ^ r + S)) m = L_Pl_findAt_14 (L_Pl_findAt_3 F) 1000000 (nI (2 ^ r)) (nI (2 ^ c)) e k (nI (2 ^ r + S)) (nI (2 ^ c)) m := by
      rw [le_Pl_findAt_3]
      unfold X_Pl_findAt_3
      rw [if_pos el]
    rw [hL]
    unfold mvR
    by_cases q : al (K 0) (L 0) (2 ^ r + S) = true
    · rw [if_pos q]
      have := nu_find14 hb hT (L_Pl_findAt_3 F) (nI (2 ^ r)) e k (R := 2 ^ r + S) (by omega) hc q hI
      rw [ea] at this
      exact this
    · rw [if_neg q, wk_n]
      refine Or.inl ⟨p, m, rfl, hI, ?_⟩
      obtain ⟨a1, -⟩ := nu_alR hb hT hI.1 (S := 2 ^ r + S) (by omega)
      rw [show (1000000 : Nat) = 999999 + 1 from rfl, le_Pl_findAt_14]
      unfold X_Pl_findAt_14
      rw [a1, qe_rI_e, if_neg q, if_pos rfl, ea]
  · have el : ¬ nI (2 ^ r + 2 ^ r) < qo_ishl (nI (2 ^ r)) 1 := by rw [ishl1 hr]; exact nI_nlt (Nat.le_refl _) (by omega)
    show L_Pl_findAt_3 (F + 1) (nI (2 ^ r)) (nI (2 ^ c)) e k (nI (2 ^ r + 2 ^ r)) m = _
    rw [le_Pl_findAt_3]
    unfold X_Pl_findAt_3
    rw [if_neg el]
/-- a board's moves, or those that win -/
noncomputable def mvA (s : sT) (e : Int32) : List (Nat × Nat) := rg (mvr (bK s.1) (bL s.1) e (nb (s.1 6)) (bC s.1)) (bR s.1)
noncomputable def eW (s : sT) (w : Int32) : Int32 := if w = 0 then -1 else iB (tW s)
theorem prl.b {P : sP} {K L : Nat → Nat} (h : prl P K L) : K 0 ≤ 3 ∧ K 1 ≤ 3 ∧ (1 ≤ L 0 ∧ L 0 ≤ 8) ∧ 1 ≤ L 1 ∧ L 1 ≤ 8 := ⟨(h 0 (by omega)).2.2.1, (h 1 (by omega)).2.2.1, (h 0 (by omega)).2.2.2, (h 1 (by omega)).2.2.2⟩
theorem nu_find {m0 : qm_M} {s : sT} (h : cs m0 s) (g : px_ok s.1) (hT : plT m0 (bK s.1) (bL s.1)) (w k : Int32) :
    (∃ p' m', wk (fun p => decide (nI p = k)) (mvA s (eW s w)) 0 = .inr p' ∧ pIn m0 p' m' ∧ F_Pl_find w k m0 = some (some (.int 0), m')) ∨ (∃ a, wk (fun p => decide (nI p = k)) (mvA s (eW s w)) 0 = .inl a ∧ pFo m0 a (F_Pl_find w k m0)) := by
  obtain ⟨hp, ⟨r1, r2, r3⟩, ⟨c1, c2, c3⟩⟩ := g.prl
  unfold F_Pl_find X_Pl_find_e
  rw [nu_boardWorth h g hT.2.2, qe_rI_e]
  refine wkE (fun F r m => L_Pl_find_15 F w k (iB (tW s)) (nI r) m) (bR s.1) (mvr (bK s.1) (bL s.1) (eW s w) (nb (s.1 6)) (bC s.1)) (fun p => decide (nI p = k)) 0 (pIn m0) (pFo m0) (fun m' => some (some (.int 0), m')) (fun F r p m hr hI => ?_) (fun F p m hI => ?_) 1000000 (qm_sI m0 48 6 0) (by omega) ⟨pfr.I m0 (by decide) _, me_self _ _ _ _⟩
  · have hL : L_Pl_find_15 (F + 1) w k (iB (tW s)) (nI r) m = L_Pl_find_27 (L_Pl_find_15 F) 1000000 w k (iB (tW s)) (nI r) 0 m := by
      rw [le_Pl_find_15]
      unfold X_Pl_find_15
      rw [cs_i (hI.1.cs h) (by omega) r1, if_pos (nI_lt hr (by omega))]
    rw [hL]
    refine wkE (fun F2 c m => L_Pl_find_27 (L_Pl_find_15 F) F2 w k (iB (tW s)) (nI r) (nI c) m) (bC s.1) (mvc (bK s.1) (bL s.1) (eW s w) (nb (s.1 6)) r) (fun p => decide (nI p = k)) p (pIn m0) (pFo m0) (fun m' => L_Pl_find_15 F w k (iB (tW s)) (nI (r + 1)) m') (fun F2 c p m hc hI => ?_) (fun F2 p m hI => ?_) 1000000 m (by omega) hI
    · have hcs := hI.1.cs h
      have hsh := nu_showsHeads hcs (r := r) (c := c) (by omega) (by omega)
      have hL2 : L_Pl_find_27 (L_Pl_find_15 F) (F2 + 1) w k (iB (tW s)) (nI r) (nI c) m = if (nb (s.1 6)).getLsbD (6 * r + c) = true then (qe_rI (F_Pl_findAt (nI (2 ^ r)) (nI (2 ^ c)) (eW s w) k m) fun x1 m1 => if x1 = 0 then L_Pl_find_27 (L_Pl_find_15 F) F2 w k (iB (tW s)) (nI r) (nI (c + 1)) m1 else some (some (.int 1), m1)) else L_Pl_find_27 (L_Pl_find_15 F) F2 w k (iB (tW s)) (nI r) (nI (c + 1)) m := by
        rw [le_Pl_find_27]
        unfold X_Pl_find_27 L_Pl_find_66 X_Pl_find_66 eW
        rw [cs_i hcs (by omega) c1, if_pos (nI_lt hc (by omega)), hsh, qe_rI_e, nI_1, no_ishl1 (by omega), no_ishl1 (by omega)]
        by_cases q : (nb (s.1 6)).getLsbD (6 * r + c) = true
        · rw [if_pos q, if_neg n10, if_pos q]
          by_cases z : w = 0
          · rw [if_pos z, if_pos z]
          · rw [if_neg z, if_neg z]
        · rw [if_neg q, if_pos rfl, if_neg q]
      show (∃ p' m', wk _ (mvc (bK s.1) (bL s.1) (eW s w) (nb (s.1 6)) r c) p = _ ∧ _ ∧ L_Pl_find_27 (L_Pl_find_15 F) (F2 + 1) w k (iB (tW s)) (nI r) (nI c) m = _) ∨ (∃ a, wk _ (mvc (bK s.1) (bL s.1) (eW s w) (nb (s.1 6)) r c) p = _ ∧ pFo m0 a (L_Pl_find_27 (L_Pl_find_15 F) (F2 + 1) w k (iB (tW s)) (nI r) (nI c) m))
      rw [hL2]
      unfold mvc
      by_cases q : (nb (s.1 6)).getLsbD (6 * r + c) = true
      · rw [if_pos q, if_pos q]
        rcases nu_findAt hp.b hT (eW s w) k (r := r) (c := c) (by omega) (by omega) hI with ⟨p', m', x1, x2, x3⟩ | ⟨a, x1, m', x2, x3⟩
        · rw [x3, qe_rI_e, if_pos rfl]
          exact Or.inl ⟨p', m', x1, x2, rfl⟩
        · rw [x2, qe_rI_e, if_neg n10]
          exact Or.inr ⟨a, x1, m', rfl, x3⟩
      · rw [if_neg q, if_neg q, wk_n]
        exact Or.inl ⟨p, m, rfl, hI, rfl⟩
    · show L_Pl_find_27 (L_Pl_find_15 F) (F2 + 1) w k (iB (tW s)) (nI r) (nI (bC s.1)) m = _
      rw [le_Pl_find_27]
      unfold X_Pl_find_27
      rw [cs_i (hI.1.cs h) (by omega) c1, if_neg (nI_nlt (Nat.le_refl _) (by omega)), nI_1]
  · show L_Pl_find_15 (F + 1) w k (iB (tW s)) (nI (bR s.1)) m = _
    rw [le_Pl_find_15]
    unfold X_Pl_find_15
    rw [cs_i (hI.1.cs h) (by omega) r1, if_neg (nI_nlt (Nat.le_refl _) (by omega))]
