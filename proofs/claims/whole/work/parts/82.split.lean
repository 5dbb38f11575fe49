/-! polynomials that split, and what divides them -/
def rp : List nb_F → nb_F → nb_F
  | [], _ => 1
  | a :: l, x => nb_mul (x ^^^ a) (rp l x)
theorem rp_n (x : nb_F) : rp [] x = 1 := rfl
theorem rp_c (a : nb_F) (l : List nb_F) (x : nb_F) : rp (a :: l) x = nb_mul (x ^^^ a) (rp l x) := rfl
theorem rp_P : ∀ S : List nb_F, pf_P (S.length + 1) (fun x => rp S x)
  | [] => pf_P.one
  | a :: l => (rp_P l).lin a
theorem rp_0 (x : nb_F) : ∀ S : List nb_F, rp S x = 0 ↔ x ∈ S
  | [] => ⟨fun h => absurd (show (1 : nb_F) = 0 from h) (by decide), fun h => absurd h (List.not_mem_nil)⟩
  | a :: l => by
    rw [rp_c, List.mem_cons]
    constructor
    · intro h
      rcases nb_nz h with h | h
      · exact Or.inl (nb_x_eq h)
      · exact Or.inr ((rp_0 x l).mp h)
    · intro h
      rcases h with h | h
      · rw [h, nb_xx, nb_0_mul]
      · rw [(rp_0 x l).mpr h, nb_mul_0]
theorem ri_6 (x a p r : nb_F) : nb_mul (x ^^^ a) (p ^^^ r) = nb_mul p x ^^^ (nb_mul p a ^^^ nb_mul (x ^^^ a) r) := by
  letI := nb_RI
  haveI := nb_RC
  exact (show ∀ x a p r : nb_R, (x + a) * (p + r) = p * x + (p * a + (x + a) * r) by intros; grind) x a p r
theorem rp_top : ∀ S : List nb_F, ∃ r : nb_F → nb_F, pf_P S.length r ∧ ∀ x, rp S x = nb_pow S.length x ^^^ r x
  | [] => ⟨fun _ => 0, pf_P.zero 0, fun x => (nb_x0 1).symm⟩
  | a :: l => by
    obtain ⟨r, h1, h2⟩ := rp_top l
    have hp : pf_P (l.length + 1) (fun x => nb_mul (nb_pow l.length x) a) := ⟨fun i => if i = l.length then a else 0, fun x => (pf_one x a (by omega)).symm⟩
    refine ⟨fun x => nb_mul (nb_pow l.length x) a ^^^ nb_mul (x ^^^ a) (r x), hp.add (h1.lin a), fun x => ?_⟩
    rw [rp_c, h2 x]
    exact ri_6 _ _ _ _
/-- its coefficients -/
theorem rp_coef (S : List nb_F) : ∃ d, isL d (S.length + 1) ∧ d S.length = 1 ∧ ∀ x, rp S x = pf_e (S.length + 1) d x := by
  obtain ⟨r, h1, h2⟩ := rp_top S
  obtain ⟨c, c1, c2⟩ := h1.coef
  have e1 : (fun i => if i = S.length then (1 : nb_F) else c i) S.length = 1 := if_pos rfl
  refine ⟨fun i => if i = S.length then 1 else c i, ⟨fun i hi => ?_, Or.inr ?_⟩, e1, fun x => ?_⟩
  · show (if i = S.length then (1 : nb_F) else c i) = 0
    rw [if_neg (by omega)]
    exact c1 i (by omega)
  · rw [Nat.add_sub_cancel, e1]
    decide
  · rw [pf_e_hi, if_pos rfl, nb_mul_1, h2 x, BitVec.xor_comm, c2 x]
    refine nb_xc (pf_e_c (fun i hi => ?_) x) rfl
    exact (by show c i = if i = S.length then (1 : nb_F) else c i; rw [if_neg (by omega)])
theorem rp_len {S : List nb_F} (hS : S.length ≤ 2 ^ 32) {c : Nat → nb_F} {N : Nat} (hN : N ≤ 2 ^ 33) (hz : ∀ i, N ≤ i → c i = 0) (h : ∀ x, pf_e N c x = rp S x) : isL c (S.length + 1) ∧ c S.length = 1 := by
  obtain ⟨d, d1, d2, d3⟩ := rp_coef S
  have e : c = d := by
    funext i
    by_cases q : i < N + (S.length + 1)
    · refine pf_coef (N := N + (S.length + 1)) (by omega) (fun x => ?_) i q
      rw [pf_e_len hz (by omega), h x, d3 x, pf_e_len (n := N + (S.length + 1)) d1.1 (by omega)]
    · rw [hz i (by omega), d1.1 i (by omega)]
  rw [e]
  exact ⟨d1, d2⟩
/-- nothing but none times what isn't none is none -/
theorem pf_can {u w : nb_F → nb_F} {n k : Nat} (hu : pf_P n u) (hw : pf_P k w) (hn : n ≤ 2 ^ 40) (hk : k ≤ 2 ^ 40) (h : ∀ x, nb_mul (u x) (w x) = 0) {y : nb_F} (hy : w y ≠ 0) : ∀ x, u x = 0 := by
  obtain ⟨c, c1, c2⟩ := hu.coef
  obtain ⟨d, d1, d2⟩ := hw.coef
  obtain ⟨L, l1, l2⟩ := isL_ex n c1
  obtain ⟨K, k1, k2⟩ := isL_ex k d1
  have hK : 1 ≤ K := by
    by_cases q : K = 0
    · exact absurd (by rw [d2 y, pf_e_len k2.1 k1, q, pf_e_0]) hy
    · omega
  by_cases q : L = 0
  · intro x
    rw [c2 x, pf_e_len l2.1 l1, q, pf_e_0]
  · have h2 := (len_mul (e := fun _ => 0) (N := 0) l2 k2 (by omega) hK (fun _ _ => rfl) (by omega) (fun x => by rw [pf_e_0, ← pf_e_len l2.1 l1 x, ← pf_e_len k2.1 k1 x, ← c2 x, ← d2 x, h x])).1.2
    rcases h2 with h2 | h2
    · omega
    · exact absurd rfl h2
/-- two that agree but where a third is none -/
theorem pf_can2 {u v w : nb_F → nb_F} {n k : Nat} (hu : pf_P n u) (hv : pf_P n v) (hw : pf_P k w) (hn : n ≤ 2 ^ 40) (hk : k ≤ 2 ^ 40) (h : ∀ x, nb_mul (w x) (u x) = nb_mul (w x) (v x)) {y : nb_F} (hy : w y ≠ 0) : ∀ x, u x = v x := fun x =>
  nb_x_eq (pf_can (hu.add hv) hw hn hk (fun x => by rw [nb_comm, nb_mul_add, h x, nb_xx]) hy x)
theorem rp_in {c : Nat → nb_F} {L : Nat} (a : nb_F) (h1 : isL c L) (hL : 2 ≤ L) (hm : c (L - 1) = 1) (ha : pf_e L c a = 0) : ∃ c1, isL c1 (L - 1) ∧ c1 (L - 1 - 1) = 1 ∧ ∀ x, pf_e L c x = nb_mul (x ^^^ a) (pf_e (L - 1) c1 x) := by
  obtain ⟨n, rfl⟩ : ∃ n, L = n + 2 := ⟨L - 2, by omega⟩
  rw [show n + 2 - 1 = n + 1 by omega] at hm ⊢
  have et : (fun i => if i < n + 1 then pf_e (n + 1 - i) (fun j => c (i + 1 + j)) a else 0) n = 1 := by
    show (if n < n + 1 then pf_e (n + 1 - n) (fun j => c (n + 1 + j)) a else 0) = 1
    rw [if_pos (by omega), show n + 1 - n = 0 + 1 by omega, pf_e_s, pf_e_0, nb_mul_0, nb_x0]
    exact hm
  refine ⟨fun i => if i < n + 1 then pf_e (n + 1 - i) (fun j => c (i + 1 + j)) a else 0, ⟨fun i hi => if_neg (by omega), Or.inr ?_⟩, ?_, fun x => ?_⟩
  · rw [Nat.add_sub_cancel, et]
    decide
  · rw [Nat.add_sub_cancel]
    exact et
  · have e := pf_e_div (n + 1) c a x
    rw [ha, nb_x0] at e
    rw [e]
    exact nb_mc _ (pf_e_c (fun i hi => (if_pos hi).symm) x)
theorem ri_7 (x p g : nb_F) : nb_mul p (nb_mul x g) = nb_mul x (nb_mul p g) := by
  rw [← nb_assoc, nb_comm p x, nb_assoc]
theorem xa_nz {x a : nb_F} (h : x ≠ a) : x ^^^ a ≠ 0 := fun z => h (nb_x_eq z)
/-- what divides one that splits, splits -/
theorem dsp : ∀ (S : List nb_F), S.Nodup → S.length ≤ 2 ^ 32 → ∀ (p : nb_F → nb_F) (N : Nat), pf_P N p → N ≤ 2 ^ 32 → ∀ (c : Nat → nb_F) (L : Nat), isL c L → 1 ≤ L → L ≤ 2 ^ 32 → c (L - 1) = 1 → (∀ x, rp S x = nb_mul (p x) (pf_e L c x)) → ∀ x, pf_e L c x = rp (S.filter (fun r => decide (pf_e L c r = 0))) x
  | [], _, _, p, N, hp, hN, c, L, hc, hL, hL2, hm, h, x => by
    obtain ⟨d, d1, d2⟩ := hp.coef
    obtain ⟨K, k1, k2⟩ := isL_ex N d1
    have hK : 1 ≤ K := by
      by_cases q : K = 0
      · have h0 := h 0
        rw [d2 0, pf_e_len k2.1 k1, q, pf_e_0, nb_0_mul] at h0
        exact absurd (show (1 : nb_F) = 0 from h0) (by decide)
      · omega
    have l1 : isL (fun i => if i = 0 then (1 : nb_F) else 0) 1 := ⟨fun i hi => if_neg (by omega), Or.inr (by decide)⟩
    have l2 := (len_mul (e := fun i => if i = 0 then (1 : nb_F) else 0) (N := 1) k2 hc hK hL (fun i hi => if_neg (by omega)) (by omega) (fun x => by
      rw [← pf_e_len k2.1 k1 x, ← d2 x, ← h x, pf_e_s, pf_e_0, nb_mul_0, nb_x0]
      rfl)).1
    have e := isL_un l1 l2
    have eL : L = 1 := by omega
    subst eL
    rw [pf_e_s, pf_e_0, nb_mul_0, nb_x0]
    exact hm
  | a :: S, hd, hl, p, N, hp, hN, c, L, hc, hL, hL2, hm, h, x => by
    obtain ⟨ha, hd2⟩ := List.nodup_cons.mp hd
    have hl2 : S.length ≤ 2 ^ 32 := by
      have : (a :: S).length = S.length + 1 := rfl
      omega
    have hS : pf_P (2 ^ 36) (fun x => rp S x) := (rp_P S).le (by omega)
    have hX : pf_P 2 (fun x => x ^^^ a) := by
      have := pf_P.one.lin a
      obtain ⟨e, he⟩ := this
      exact ⟨e, fun x => by rw [← he x]; exact (nb_mul_1 _).symm⟩
    have hy : (a ^^^ 1) ^^^ a ≠ 0 := by
      rw [BitVec.xor_comm a 1, BitVec.xor_assoc, nb_xx, nb_x0]
      decide
    by_cases q : pf_e L c a = 0
    · have hL3 : 2 ≤ L := by
        by_cases z : L = 1
        · subst z
          rw [pf_e_s, pf_e_0, nb_mul_0, nb_x0] at q
          rw [show (1 : Nat) - 1 = 0 from rfl, q] at hm
          exact absurd hm (by decide)
        · omega
      obtain ⟨c1, g1, g2, g3⟩ := rp_in a hc hL3 hm q
      have hq : pf_P (2 ^ 36) (fun x => nb_mul (p x) (pf_e (L - 1) c1 x)) := (hp.mul ⟨c1, fun _ => rfl⟩).le (by omega)
      have e := pf_can2 hS hq hX (by omega) (by omega) (fun x => by
        have := h x
        rw [rp_c, g3 x, ri_7] at this
        exact this) hy
      have ih := dsp S hd2 hl2 p N hp hN c1 (L - 1) g1 (by omega) (by omega) g2 e x
      have ef : S.filter (fun r => decide (pf_e L c r = 0)) = S.filter (fun r => decide (pf_e (L - 1) c1 r = 0)) := List.filter_congr (fun r hr => by
        have hne : r ^^^ a ≠ 0 := xa_nz (fun z => ha (z ▸ hr))
        congr 1
        rw [g3 r]
        exact propext ⟨fun z => (nb_nz z).resolve_left hne, fun z => by rw [z, nb_mul_0]⟩)
      rw [List.filter_cons_of_pos (by exact decide_eq_true q), rp_c, ef, ← ih, g3 x]
    · have hp1 : ∃ p1, pf_P N p1 ∧ ∀ x, p x = nb_mul (x ^^^ a) (p1 x) := by
        obtain ⟨d, hd⟩ := hp.up 1
        have za : p a = 0 := by
          have := h a
          rw [rp_c, nb_xx, nb_0_mul] at this
          exact (nb_nz this.symm).resolve_right q
        refine ⟨fun x => pf_e N (fun i => pf_e (N - i) (fun j => d (i + 1 + j)) a) x, ⟨_, fun _ => rfl⟩, fun x => ?_⟩
        have e := pf_e_div N d a x
        rw [← hd a, za, nb_x0, ← hd x] at e
        exact e
      obtain ⟨p1, hp1, e1⟩ := hp1
      have hq : pf_P (2 ^ 36) (fun x => nb_mul (p1 x) (pf_e L c x)) := (hp1.mul ⟨c, fun _ => rfl⟩).le (by omega)
      have e := pf_can2 hS hq hX (by omega) (by omega) (fun x => by
        have := h x
        rw [rp_c, e1 x, nb_assoc] at this
        exact this) hy
      have ih := dsp S hd2 hl2 p1 N hp1 hN c L hc hL hL2 hm e x
      rw [List.filter_cons_of_neg (by rw [decide_eq_true_eq]; exact q)]
      exact ih
