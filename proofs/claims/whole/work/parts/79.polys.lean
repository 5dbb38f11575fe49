/-! polynomials: lengths, products, what is common -/
def isL (c : Nat → nb_F) (L : Nat) : Prop := (∀ i, L ≤ i → c i = 0) ∧ (L = 0 ∨ c (L - 1) ≠ 0)
theorem isL_ex {c : Nat → nb_F} : ∀ n, (∀ i, n ≤ i → c i = 0) → ∃ L, L ≤ n ∧ isL c L
  | 0, h => ⟨0, Nat.le_refl _, h, Or.inl rfl⟩
  | n + 1, h => by
    by_cases q : c n = 0
    · obtain ⟨L, h1, h2⟩ := isL_ex (c := c) n (fun i hi => by
        by_cases e : i = n
        · rw [e]; exact q
        · exact h i (by omega))
      exact ⟨L, by omega, h2⟩
    · exact ⟨n + 1, Nat.le_refl _, h, Or.inr q⟩
theorem isL_le {c : Nat → nb_F} {L n : Nat} (h : isL c L) (hn : ∀ i, n ≤ i → c i = 0) : L ≤ n := by
  by_cases q : L ≤ n
  · exact q
  · exact absurd (hn (L - 1) (by omega)) (h.2.resolve_left (by omega))
theorem isL_un {c : Nat → nb_F} {L K : Nat} (h : isL c L) (g : isL c K) : L = K := Nat.le_antisymm (isL_le h g.1) (isL_le g h.1)
theorem pf_e_len {c : Nat → nb_F} {L n : Nat} (h : ∀ i, L ≤ i → c i = 0) (hn : L ≤ n) (x : nb_F) : pf_e n c x = pf_e L c x := by
  have := pf_e_up L (c := c) (n - L) (fun i h1 _ => h i h1) x
  rw [show L + (n - L) = n by omega] at this
  exact this
theorem bN_inj {i j : Nat} (hi : i < 2 ^ 64) (hj : j < 2 ^ 64) (h : bN i = bN j) : i = j := by
  have e := congrArg BitVec.toNat h
  unfold bN at e
  rw [BitVec.toNat_ofNat, BitVec.toNat_ofNat, Nat.mod_eq_of_lt hi, Nat.mod_eq_of_lt hj] at e
  exact e
theorem rng_nodup {N : Nat} (hN : N ≤ 2 ^ 64) : ((List.range N).map bN).Nodup := by
  unfold List.Nodup
  rw [List.pairwise_map]
  refine List.pairwise_lt_range.imp_of_mem ?_
  intro a b ha hb hab e
  have h1 := List.mem_range.mp ha
  have h2 := List.mem_range.mp hb
  have := bN_inj (by omega) (by omega) e
  omega
/-- alike everywhere: alike in each coefficient -/
theorem pf_coef {N : Nat} (hN : N ≤ 2 ^ 64) {c d : Nat → nb_F} (h : ∀ x, pf_e N c x = pf_e N d x) : ∀ i, i < N → c i = d i :=
  pf_same ((List.range N).map bN) (rng_nodup hN) (by rw [List.length_map, List.length_range]; exact Nat.le_refl _) (fun a _ => h a)
theorem pf_P.coef {n : Nat} {f : nb_F → nb_F} (h : pf_P n f) : ∃ c, (∀ i, n ≤ i → c i = 0) ∧ ∀ x, f x = pf_e n c x := by
  obtain ⟨c, hc⟩ := h
  exact ⟨fun i => if i < n then c i else 0, fun i hi => if_neg (by omega), fun x => by rw [hc]; exact pf_e_c (fun i hi => (if_pos hi).symm) x⟩
/-- coefficients of a product -/
def pm : Nat → (Nat → nb_F) → (Nat → nb_F) → Nat → nb_F
  | 0, _, _ => fun _ => 0
  | n + 1, c, d => fun j => nb_mul (c 0) (d j) ^^^ (if j = 0 then 0 else pm n (fun i => c (i + 1)) d (j - 1))
theorem pm_s (n : Nat) (c d : Nat → nb_F) (j : Nat) : pm (n + 1) c d j = nb_mul (c 0) (d j) ^^^ (if j = 0 then 0 else pm n (fun i => c (i + 1)) d (j - 1)) := rfl
theorem pm_e {m : Nat} {d : Nat → nb_F} (hd : ∀ j, m ≤ j → d j = 0) (x : nb_F) : ∀ n c, pf_e (n + m) (pm n c d) x = nb_mul (pf_e n c x) (pf_e m d x)
  | 0, c => by rw [pf_e_0, nb_0_mul]; exact pf_e_z (fun _ _ => rfl) x
  | n + 1, c => by
    have ih := pm_e hd x n (fun i => c (i + 1))
    have e1 : pf_e (n + 1 + m) (pm (n + 1) c d) x = pf_e (n + 1 + m) (fun j => nb_mul (c 0) (d j)) x ^^^ pf_e (n + 1 + m) (fun j => if j = 0 then 0 else pm n (fun i => c (i + 1)) d (j - 1)) x := by
      rw [← pf_e_add]
      exact pf_e_c (fun i _ => rfl) x
    have e2 : pf_e (n + 1 + m) (fun j => if j = 0 then 0 else pm n (fun i => c (i + 1)) d (j - 1)) x = nb_mul x (pf_e (n + m) (pm n (fun i => c (i + 1)) d) x) := by
      rw [show n + 1 + m = (n + m) + 1 by omega, pf_e_s, if_pos rfl, nb_0x]
      exact nb_mc x (pf_e_c (fun i _ => by rw [if_neg (by omega), Nat.add_sub_cancel]) x)
    rw [e1, e2, ih, pf_e_sc, pf_e_len hd (by omega), pf_e_s, nb_add_mul, nb_assoc]
theorem pm_hi {M : Nat} {d : Nat → nb_F} (hd : ∀ j, M < j → d j = 0) : ∀ n c, (∀ j, n + M < j → pm (n + 1) c d j = 0) ∧ pm (n + 1) c d (n + M) = nb_mul (c n) (d M)
  | 0, c => by
    have e : ∀ j, pm 1 c d j = nb_mul (c 0) (d j) := fun j => by
      rw [pm_s]
      have : (if j = 0 then 0 else pm 0 (fun i => c (i + 1)) d (j - 1)) = 0 := by split <;> rfl
      rw [this, nb_x0]
    refine ⟨fun j hj => ?_, ?_⟩
    · rw [e, hd j (by omega), nb_mul_0]
    · rw [e, Nat.zero_add]
  | n + 1, c => by
    obtain ⟨i1, i2⟩ := pm_hi hd n (fun i => c (i + 1))
    refine ⟨fun j hj => ?_, ?_⟩
    · rw [pm_s, hd j (by omega), nb_mul_0, nb_0x, if_neg (by omega)]
      exact i1 (j - 1) (by omega)
    · rw [pm_s, hd (n + 1 + M) (by omega), nb_mul_0, nb_0x, if_neg (by omega), show n + 1 + M - 1 = n + M by omega]
      exact i2
theorem pf_P.mul {n m : Nat} {f g : nb_F → nb_F} (hf : pf_P n f) (hg : pf_P m g) : pf_P (n + m) (fun x => nb_mul (f x) (g x)) := by
  obtain ⟨c, hc⟩ := hf
  obtain ⟨d, hd, hd2⟩ := hg.coef
  exact ⟨pm n c d, fun x => by rw [pm_e hd, ← hc, ← hd2]⟩
/-- lengths of a product -/
theorem len_mul {c d e : Nat → nb_F} {Lc Ld N : Nat} (hc : isL c Lc) (hd : isL d Ld) (h1 : 1 ≤ Lc) (h2 : 1 ≤ Ld) (he : ∀ i, N ≤ i → e i = 0) (hN : N + Lc + Ld ≤ 2 ^ 64) (h : ∀ x, pf_e N e x = nb_mul (pf_e Lc c x) (pf_e Ld d x)) : isL e (Lc + Ld - 1) ∧ e (Lc + Ld - 2) = nb_mul (c (Lc - 1)) (d (Ld - 1)) := by
  obtain ⟨n, rfl⟩ : ∃ n, Lc = n + 1 := ⟨Lc - 1, by omega⟩
  obtain ⟨M, rfl⟩ : ∃ M, Ld = M + 1 := ⟨Ld - 1, by omega⟩
  obtain ⟨k1, k2⟩ := pm_hi (M := M) (d := d) (fun j hj => hd.1 j (by omega)) n c
  have hz : ∀ i, n + 1 + (M + 1) ≤ i → pm (n + 1) c d i = 0 := fun i hi => k1 i (by omega)
  have key : ∀ i, i < N + (n + 1 + (M + 1)) → e i = pm (n + 1) c d i := pf_coef (by omega) (fun x => by
    rw [pf_e_len he (by omega), pf_e_len hz (by omega), h x, pm_e hd.1])
  have all : ∀ i, e i = pm (n + 1) c d i := fun i => by
    by_cases q : i < N + (n + 1 + (M + 1))
    · exact key i q
    · rw [he i (by omega), hz i (by omega)]
  have et : e (n + M) = nb_mul (c n) (d M) := by rw [all, k2]
  have e3 : n + 1 + (M + 1) - 2 = n + M := by omega
  have e4 : n + 1 + (M + 1) - 1 - 1 = n + M := by omega
  refine ⟨⟨fun i hi => by rw [all]; exact k1 i (by omega), Or.inr ?_⟩, ?_⟩
  · rw [e4, et]
    intro z
    rcases nb_nz z with z | z
    · exact hc.2.resolve_left (by omega) z
    · exact hd.2.resolve_left (by omega) z
  · rw [e3]; exact et
theorem pf_zero_c {N : Nat} (hN : N ≤ 2 ^ 64) {c : Nat → nb_F} (hz : ∀ i, N ≤ i → c i = 0) (h : ∀ x, pf_e N c x = 0) : ∀ i, c i = 0 := fun i => by
  by_cases q : i < N
  · exact pf_coef hN (d := fun _ => 0) (fun x => by rw [h x]; exact (pf_e_z (fun _ _ => rfl) x).symm) i q
  · exact hz i (by omega)
/-- monic, or none -/
def mnc (c : Nat → nb_F) : Prop := (∃ L, 1 ≤ L ∧ isL c L ∧ c (L - 1) = 1) ∨ ∀ i, c i = 0
/-- what two have in common -/
def GD (A B g : nb_F → nb_F) : Prop := ∃ u v p q, pf_P 400 u ∧ pf_P 400 v ∧ pf_P 400 p ∧ pf_P 400 q ∧ (∀ x, g x = nb_mul (u x) (A x) ^^^ nb_mul (v x) (B x)) ∧ (∀ x, A x = nb_mul (p x) (g x)) ∧ ∀ x, B x = nb_mul (q x) (g x)
theorem ri_1 (a b c d e : nb_F) : nb_mul a (nb_mul c e) ^^^ nb_mul b (nb_mul d e) = nb_mul (nb_mul a c ^^^ nb_mul b d) e := by
  letI := nb_RI
  haveI := nb_RC
  exact (show ∀ a b c d e : nb_R, a * (c * e) + b * (d * e) = (a * c + b * d) * e by intros; grind) a b c d e
theorem ri_2 (a3 a4 s t : nb_F) : nb_mul (nb_mul s t) (nb_mul a3 a4) = nb_mul (nb_mul t a3) (nb_mul s a4) := by
  letI := nb_RI
  haveI := nb_RC
  exact (show ∀ a3 a4 s t : nb_R, (s * t) * (a3 * a4) = t * a3 * (s * a4) by intros; grind) a3 a4 s t
theorem ri_2' {s t : nb_F} (hi : nb_mul s t = 1) (a1 a2 a3 a4 : nb_F) : nb_mul a1 a2 ^^^ nb_mul a3 a4 = nb_mul a1 a2 ^^^ nb_mul (nb_mul t a3) (nb_mul s a4) := by
  rw [← ri_2, hi, nb_1_mul]
theorem ri_3 {a0 a1 a3 a4 a5 a6 a7 a8 a9 z : nb_F} (h1 : a6 = nb_mul a0 a7 ^^^ z) (h2 : a6 = nb_mul a1 a8 ^^^ nb_mul a3 a9) (h3 : a7 = nb_mul a4 a8 ^^^ nb_mul a5 a9) : z = nb_mul (a1 ^^^ nb_mul a0 a4) a8 ^^^ nb_mul (a3 ^^^ nb_mul a0 a5) a9 := by
  letI := nb_RI
  haveI := nb_RC
  exact (show ∀ a0 a1 a3 a4 a5 a6 a7 a8 a9 z : nb_R, a6 = a0 * a7 + z → a6 = a1 * a8 + a3 * a9 → a7 = a4 * a8 + a5 * a9 → z = (a1 + a0 * a4) * a8 + (a3 + a0 * a5) * a9 by intros; grind) a0 a1 a3 a4 a5 a6 a7 a8 a9 z h1 h2 h3
theorem ri_4 {a0 a1 a3 a6 a7 a8 z : nb_F} (h1 : a6 = nb_mul a0 a7 ^^^ z) (h2 : a8 = nb_mul a1 a6 ^^^ nb_mul a3 a7) : a8 = nb_mul a1 z ^^^ nb_mul (a3 ^^^ nb_mul a0 a1) a7 := by
  letI := nb_RI
  haveI := nb_RC
  exact (show ∀ a0 a1 a3 a6 a7 a8 z : nb_R, a6 = a0 * a7 + z → a8 = a1 * a6 + a3 * a7 → a8 = a1 * z + (a3 + a0 * a1) * a7 by intros; grind) a0 a1 a3 a6 a7 a8 z h1 h2
theorem GD_by {A B g h : nb_F → nb_F} (hg : GD A B g) (hh : GD A B h) : ∃ w, pf_P 800 w ∧ ∀ x, g x = nb_mul (w x) (h x) := by
  obtain ⟨u, v, p, q, u1, v1, p1, q1, e1, e2, e3⟩ := hg
  obtain ⟨u', v', p', q', u2, v2, p2, q2, f1, f2, f3⟩ := hh
  refine ⟨fun x => nb_mul (u x) (p' x) ^^^ nb_mul (v x) (q' x), (u1.mul p2).add (v1.mul q2), fun x => ?_⟩
  rw [e1 x, f2 x, f3 x]
  exact ri_1 _ _ _ _ _
theorem mul_len {n : Nat} (hn : n ≤ 100) {g h : Nat → nb_F} (hg : ∀ i, n ≤ i → g i = 0) {L K : Nat} (h1 : isL g L) (h2 : isL h K) (hL : 1 ≤ L) (hK : 1 ≤ K) (hK2 : K ≤ 100) {w : nb_F → nb_F} (hw : pf_P 800 w) (e : ∀ x, pf_e n g x = nb_mul (w x) (pf_e K h x)) : K ≤ L ∧ (K = L → ∃ a, g (L - 1) = nb_mul a (h (K - 1)) ∧ ∀ x, w x = a) := by
  obtain ⟨d, d1, d2⟩ := hw.coef
  obtain ⟨M, hM, d3⟩ := isL_ex 800 d1
  have hM1 : 1 ≤ M := by
    by_cases q : M = 0
    · have hz : ∀ x, pf_e n g x = 0 := fun x => by
        rw [e x, d2 x, pf_e_len (fun i hi => d3.1 i (by omega)) hM, q, pf_e_0, nb_0_mul]
      have := pf_zero_c (by omega) hg hz (L - 1)
      exact absurd this (h1.2.resolve_left (by omega))
    · omega
  obtain ⟨k1, k2⟩ := len_mul d3 h2 hM1 hK hg (by omega) (fun x => by rw [e x, d2 x, pf_e_len d3.1 hM])
  have eL := isL_un h1 k1
  refine ⟨by omega, fun eq => ?_⟩
  have eM : M = 1 := by omega
  refine ⟨d 0, ?_, fun x => ?_⟩
  · rw [show L - 1 = M + K - 2 by omega, k2, eM]
  · rw [d2 x, pf_e_len d3.1 hM, eM, pf_e_s, pf_e_0, nb_mul_0, nb_x0]
/-- it is one -/
theorem GD_un {A B : nb_F → nb_F} {n : Nat} (hn : n ≤ 100) {g h : Nat → nb_F} (zg : ∀ i, n ≤ i → g i = 0) (zh : ∀ i, n ≤ i → h i = 0) (hg : GD A B (pf_e n g)) (hh : GD A B (pf_e n h)) (mg : mnc g) (mh : mnc h) : ∀ i, g i = h i := by
  obtain ⟨w, w1, w2⟩ := GD_by hg hh
  obtain ⟨t, t1, t2⟩ := GD_by hh hg
  rcases mg with ⟨L, l1, l2, l3⟩ | z
  · rcases mh with ⟨K, k1, k2, k3⟩ | z
    · have hK := isL_le k2 zh
      have hL := isL_le l2 zg
      obtain ⟨a1, a2⟩ := mul_len hn zg l2 k2 l1 k1 (by omega) w1 (fun x => by rw [w2 x, pf_e_len k2.1 hK])
      obtain ⟨b1, -⟩ := mul_len hn zh k2 l2 k1 l1 (by omega) t1 (fun x => by rw [t2 x, pf_e_len l2.1 hL])
      obtain ⟨a, a3, a4⟩ := a2 (by omega)
      rw [l3, k3, nb_mul_1] at a3
      have e : ∀ x, pf_e n g x = pf_e n h x := fun x => by rw [w2 x, a4 x, ← a3, nb_1_mul]
      intro i
      by_cases q : i < n
      · exact pf_coef (by omega) e i q
      · rw [zg i (by omega), zh i (by omega)]
    · have hz : ∀ x, pf_e n g x = 0 := fun x => by rw [w2 x, pf_e_z (fun i _ => z i) x, nb_mul_0]
      intro i
      rw [z i]
      exact pf_zero_c (by omega) zg hz i
  · have hz : ∀ x, pf_e n h x = 0 := fun x => by rw [t2 x, pf_e_z (fun i _ => z i) x, nb_mul_0]
    intro i
    rw [z i]
    exact (pf_zero_c (by omega) zh hz i).symm
/-- on the way: two that tell what A, B tell -/
def GC (n : Nat) (A B a b : nb_F → nb_F) : Prop := ∃ u v u2 v2 p q p2 q2, (pf_P n u ∧ pf_P n v ∧ pf_P n u2 ∧ pf_P n v2 ∧ pf_P n p ∧ pf_P n q ∧ pf_P n p2 ∧ pf_P n q2) ∧ (∀ x, a x = nb_mul (u x) (A x) ^^^ nb_mul (v x) (B x)) ∧ (∀ x, b x = nb_mul (u2 x) (A x) ^^^ nb_mul (v2 x) (B x)) ∧ (∀ x, A x = nb_mul (p x) (a x) ^^^ nb_mul (q x) (b x)) ∧ ∀ x, B x = nb_mul (p2 x) (a x) ^^^ nb_mul (q2 x) (b x)
theorem GC.first (A B : nb_F → nb_F) : GC 1 A B A B := ⟨fun _ => 1, fun _ => 0, fun _ => 0, fun _ => 1, fun _ => 1, fun _ => 0, fun _ => 0, fun _ => 1, ⟨pf_P.one, pf_P.zero 1, pf_P.zero 1, pf_P.one, pf_P.one, pf_P.zero 1, pf_P.zero 1, pf_P.one⟩, fun x => by rw [nb_1_mul, nb_0_mul, nb_x0], fun x => by rw [nb_1_mul, nb_0_mul, nb_0x], fun x => by rw [nb_1_mul, nb_0_mul, nb_x0], fun x => by rw [nb_1_mul, nb_0_mul, nb_0x]⟩
theorem GC.swap {n : Nat} {A B a b : nb_F → nb_F} (h : GC n A B a b) : GC n A B b a := by
  obtain ⟨u, v, u2, v2, p, q, p2, q2, ⟨g1, g2, g3, g4, g5, g6, g7, g8⟩, e1, e2, e3, e4⟩ := h
  exact ⟨u2, v2, u, v, q, p, q2, p2, ⟨g3, g4, g1, g2, g6, g5, g8, g7⟩, e2, e1, fun x => by rw [e3 x, BitVec.xor_comm], fun x => by rw [e4 x, BitVec.xor_comm]⟩
theorem GC.scale {n : Nat} {A B a b b2 : nb_F → nb_F} (h : GC n A B a b) {s : nb_F} (hs : s ≠ 0) (e : ∀ x, b2 x = nb_mul s (b x)) : GC n A B a b2 := by
  obtain ⟨u, v, u2, v2, p, q, p2, q2, ⟨g1, g2, g3, g4, g5, g6, g7, g8⟩, e1, e2, e3, e4⟩ := h
  have hi := nb_mul_inv hs
  refine ⟨u, v, fun x => nb_mul s (u2 x), fun x => nb_mul s (v2 x), p, fun x => nb_mul (nb_inv s) (q x), p2, fun x => nb_mul (nb_inv s) (q2 x), ⟨g1, g2, g3.sc s, g4.sc s, g5, g6.sc _, g7, g8.sc _⟩, e1, fun x => ?_, fun x => ?_, fun x => ?_⟩
  · rw [e x, e2 x, nb_mul_add, nb_assoc, nb_assoc]
  · rw [e3 x, e x]
    exact ri_2' hi _ _ _ _
  · rw [e4 x, e x]
    exact ri_2' hi _ _ _ _
/-- less a multiple of the other -/
theorem GC.less {n k : Nat} {A B a b a2 Q : nb_F → nb_F} (h : GC n A B a b) (hQ : pf_P k Q) (e : ∀ x, a x = nb_mul (Q x) (b x) ^^^ a2 x) : GC (k + n) A B a2 b := by
  obtain ⟨u, v, u2, v2, p, q, p2, q2, ⟨g1, g2, g3, g4, g5, g6, g7, g8⟩, e1, e2, e3, e4⟩ := h
  refine ⟨fun x => u x ^^^ nb_mul (Q x) (u2 x), fun x => v x ^^^ nb_mul (Q x) (v2 x), u2, v2, p, fun x => q x ^^^ nb_mul (Q x) (p x), p2, fun x => q2 x ^^^ nb_mul (Q x) (p2 x), ⟨(g1.le (by omega)).add (hQ.mul g3), (g2.le (by omega)).add (hQ.mul g4), g3.le (by omega), g4.le (by omega), g5.le (by omega), (g6.le (by omega)).add (hQ.mul g5), g7.le (by omega), (g8.le (by omega)).add (hQ.mul g7)⟩, fun x => ?_, e2, fun x => ?_, fun x => ?_⟩
  · exact ri_3 (e x) (e1 x) (e2 x)
  · exact ri_4 (e x) (e3 x)
  · exact ri_4 (e x) (e4 x)
/-- none is left: the other one is common -/
theorem GC.end {n : Nat} (hn : n ≤ 400) {A B a b g : nb_F → nb_F} (h : GC n A B a b) (hb : ∀ x, b x = 0) {s : nb_F} (hs : s ≠ 0) (e : ∀ x, g x = nb_mul s (a x)) : GD A B g := by
  obtain ⟨u, v, u2, v2, p, q, p2, q2, ⟨g1, g2, g3, g4, g5, g6, g7, g8⟩, e1, e2, e3, e4⟩ := (h.swap.scale hs e).swap
  exact ⟨u, v, p, p2, g1.le hn, g2.le hn, g5.le hn, g7.le hn, e1, fun x => by rw [e3 x, hb x, nb_mul_0, nb_x0], fun x => by rw [e4 x, hb x, nb_mul_0, nb_x0]⟩
