/-! a level's numbers as roots; what is common with x^q + x; traces part roots -/
def fq (k : Nat) : List nb_F := (List.range (2 ^ (2 ^ k))).map bN
theorem q_le {k : Nat} (hk : k ≤ 4) : 2 ≤ 2 ^ (2 ^ k) ∧ 2 ^ (2 ^ k) ≤ 65536 ∧ 1 ≤ 2 ^ k ∧ 2 ^ k ≤ 16 := by
  have c : ∀ k, k < 5 → 2 ≤ 2 ^ (2 ^ k) ∧ 2 ^ (2 ^ k) ≤ 65536 ∧ 1 ≤ 2 ^ k ∧ 2 ^ k ≤ 16 := nb_k5 (by decide) (by decide) (by decide) (by decide) (by decide)
  exact c k (by omega)
theorem nb_in_lt {k : Nat} {x : nb_F} : nb_in k x ↔ x.toNat < 2 ^ (2 ^ k) := by
  constructor
  · intro h
    have e2 := congrArg BitVec.toNat (nb_in_shr h)
    rw [BitVec.toNat_ushiftRight, Nat.shiftRight_eq_div_pow] at e2
    have e3 : x.toNat / 2 ^ (2 ^ k) = 0 := e2
    by_cases q : x.toNat < 2 ^ (2 ^ k)
    · exact q
    · have := Nat.div_pos (Nat.le_of_not_lt q) (Nat.two_pow_pos (2 ^ k))
      rw [e3] at this
      exact absurd this (Nat.lt_irrefl 0)
  · intro h
    refine nb_shr_in (BitVec.eq_of_toNat_eq ?_)
    rw [BitVec.toNat_ushiftRight, Nat.shiftRight_eq_div_pow, Nat.div_eq_of_lt h]
    rfl
theorem bN_toNat {i : Nat} (h : i < 2 ^ 64) : (bN i).toNat = i := by
  unfold bN
  rw [BitVec.toNat_ofNat, Nat.mod_eq_of_lt h]
theorem bN_of (x : nb_F) : bN x.toNat = x := by
  unfold bN
  rw [BitVec.ofNat_toNat, BitVec.setWidth_eq]
theorem nb_in_bN {k i : Nat} (hk : k ≤ 4) (hi : i < 65537) : nb_in k (bN i) ↔ i < 2 ^ (2 ^ k) := by
  rw [nb_in_lt, bN_toNat (by omega)]
theorem mem_fq {k : Nat} (hk : k ≤ 4) {x : nb_F} : x ∈ fq k ↔ nb_in k x := by
  have hq := (q_le hk).2.1
  unfold fq
  rw [List.mem_map, nb_in_lt]
  constructor
  · rintro ⟨i, hi, rfl⟩
    have hi2 := List.mem_range.mp hi
    rw [bN_toNat (by omega)]
    exact hi2
  · intro h
    exact ⟨x.toNat, List.mem_range.mpr h, bN_of x⟩
theorem fq_nd {k : Nat} (hk : k ≤ 4) : (fq k).Nodup := rng_nodup (by have := (q_le hk).2.1; omega)
theorem fq_len (k : Nat) : (fq k).length = 2 ^ (2 ^ k) := by
  unfold fq
  rw [List.length_map, List.length_range]
theorem pX : pf_P 2 (fun x => x) := by
  obtain ⟨e, he⟩ := pf_P.one.X
  exact ⟨e, fun x => by rw [← he x]; exact (nb_mul_1 x).symm⟩
theorem fq_x {k : Nat} (hk : k ≤ 4) (x : nb_F) : rp (fq k) x = nb_sqN (2 ^ k) x ^^^ x := by
  obtain ⟨q2, q3, -, -⟩ := q_le hk
  obtain ⟨r, h1, h2⟩ := rp_top (fq k)
  rw [fq_len] at h1 h2
  have hD := ((pX.le q2).add h1).eq (pf_P.zero _) (fq k) (fq_nd hk) (by rw [fq_len]; exact Nat.le_refl _) (fun a ha => by
    have e := h2 a
    rw [(rp_0 a (fq k)).mpr ha, nb_pow_sqN, nb_frob k (by omega) a ((mem_fq hk).mp ha)] at e
    exact e.symm) x
  rw [h2 x, nb_pow_sqN, ← nb_x_eq hD]
theorem ri_8 {s q g Q p : nb_F} (h : nb_mul q g = s ^^^ nb_mul Q (nb_mul p g)) : s = nb_mul (q ^^^ nb_mul Q p) g := by
  letI := nb_RI
  haveI := nb_RC
  exact (show ∀ s q g Q p : nb_R, q * g = s + Q * (p * g) → s = (q + Q * p) * g by intros; grind) s q g Q p h
/-- what is common with x^q + x: the roots in the level -/
theorem gq {k : Nat} (hk : k ≤ 4) {f h Q : nb_F → nb_F} {N : Nat} (hQ : pf_P N Q) (hN : N ≤ 2 ^ 30) (eh : ∀ x, h x = (nb_sqN (2 ^ k) x ^^^ x) ^^^ nb_mul (Q x) (f x)) {c : Nat → nb_F} {L : Nat} (hG : GD f h (pf_e L c)) (hL : isL c L) (h1 : 1 ≤ L) (h2 : L ≤ 100) (hm : c (L - 1) = 1) :
    (∀ x, pf_e L c x = rp ((fq k).filter (fun r => decide (f r = 0))) x) := by
  obtain ⟨u, v, p, q, u1, v1, p1, q1, e1, e2, e3⟩ := hG
  have d := dsp (fq k) (fq_nd hk) (by rw [fq_len]; have := (q_le hk).2.1; omega) (fun x => q x ^^^ nb_mul (Q x) (p x)) (N + 400) ((q1.le (by omega)).add (hQ.mul p1)) (by omega) c L hL h1 (by omega) hm (fun x => by
    rw [fq_x hk x]
    refine ri_8 ?_
    rw [← e3 x, eh x, e2 x])
  intro x
  rw [d x]
  congr 1
  refine List.filter_congr (fun r hr => ?_)
  have hr2 := nb_frob k (by omega) r ((mem_fq hk).mp hr)
  congr 1
  refine propext ⟨fun z => by rw [e2 r, z, nb_mul_0], fun z => ?_⟩
  rw [e1 r, z, eh r, hr2, z, nb_xx, nb_mul_0, nb_mul_0, nb_x0, nb_mul_0, nb_x0]
theorem rp_nz (S : List nb_F) (hS : S.length ≤ 2 ^ 32) : ¬ ∀ x, rp S x = 0 := fun h => by
  obtain ⟨d, d1, d2, d3⟩ := rp_coef S
  have := pf_zero_c (N := S.length + 1) (by omega) d1.1 (fun x => by rw [← d3 x, h x]) S.length
  rw [d2] at this
  exact absurd this (by decide)
/-- what is common of one that splits and another -/
theorem gsp {S : List nb_F} (hd : S.Nodup) (hl : S.length ≤ 100) {A T : nb_F → nb_F} (hA : ∀ x, A x = rp S x) {c : Nat → nb_F} (hz : ∀ i, 16 ≤ i → c i = 0) (hG : GD A T (pf_e 16 c)) (hm : mnc c) :
    (∀ x, pf_e 16 c x = rp (S.filter (fun r => decide (T r = 0))) x) ∧ isL c ((S.filter (fun r => decide (T r = 0))).length + 1) ∧ c (S.filter (fun r => decide (T r = 0))).length = 1 := by
  obtain ⟨u, v, p, q, u1, v1, p1, q1, e1, e2, e3⟩ := hG
  rcases hm with ⟨L, l1, l2, l3⟩ | hm
  · have l4 := isL_le l2 hz
    have eL : ∀ x, pf_e 16 c x = pf_e L c x := fun x => pf_e_len l2.1 l4 x
    have d := dsp S hd (by omega) p 400 p1 (by omega) c L l2 l1 (by omega) l3 (fun x => by rw [← hA x, e2 x, eL x])
    have e : ∀ x, pf_e 16 c x = rp (S.filter (fun r => decide (T r = 0))) x := fun x => by
      rw [eL x, d x]
      congr 1
      refine List.filter_congr (fun r hr => ?_)
      congr 1
      refine propext ⟨fun z => by rw [e3 r, eL r, z, nb_mul_0], fun z => ?_⟩
      rw [← eL r, e1 r, z, hA r, (rp_0 r S).mpr hr, nb_mul_0, nb_mul_0, nb_x0]
    have hle : (S.filter (fun r => decide (T r = 0))).length ≤ S.length := List.length_filter_le _ _
    exact ⟨e, rp_len (by omega) (by omega) hz e⟩
  · exact absurd (fun x => by rw [← hA x, e2 x, pf_e_z (fun i _ => hm i) x, nb_mul_0]) (rp_nz S (by omega))
theorem ri_9 (a b c : nb_F) : nb_mul a (nb_mul b c) = nb_mul b (nb_mul a c) := by
  rw [← nb_assoc, nb_comm a b, nb_assoc]
theorem rp_split (p : nb_F → Bool) (x : nb_F) : ∀ S : List nb_F, rp S x = nb_mul (rp (S.filter p) x) (rp (S.filter (fun r => !p r)) x)
  | [] => (nb_1_mul 1).symm
  | a :: S => by
    rw [rp_c, rp_split p x S]
    cases h : p a with
    | true => rw [List.filter_cons_of_pos h, List.filter_cons_of_neg (by rw [h]; decide), rp_c, nb_assoc]
    | false => rw [List.filter_cons_of_neg (by rw [h]; decide), List.filter_cons_of_pos (by rw [h]; rfl), rp_c, ri_9]
/-- the quotient -/
theorem qsp {S : List nb_F} (hd : S.Nodup) (hl : S.length ≤ 15) {p : nb_F → Bool} {c d q c1 : Nat → nb_F} (ec : ∀ x, pf_e 16 c x = rp S x) (ed : ∀ x, pf_e 16 d x = rp (S.filter p) x) (e : ∀ x, pf_e 16 c x = nb_mul (pf_e 16 q x) (pf_e 16 d x) ^^^ pf_e 16 c1 x) (hz : ∀ i, (S.filter p).length ≤ i → c1 i = 0) : ∀ x, pf_e 16 q x = rp (S.filter (fun r => !p r)) x := by
  have hle : (S.filter p).length ≤ S.length := List.length_filter_le _ _
  have z1 : ∀ x, pf_e 16 c1 x = pf_e (S.filter p).length c1 x := fun x => pf_e_len hz (by omega) x
  have z2 := pf_zero (S.filter p) (S.filter p).length c1 (List.Nodup.sublist List.filter_sublist hd) (Nat.le_refl _) (fun a ha => by
    have e2 := e a
    rw [ec a, ed a, (rp_0 a _).mpr ha, (rp_0 a S).mpr (List.mem_filter.mp ha).1, nb_mul_0, nb_0x, z1 a] at e2
    exact e2.symm)
  have z3 : ∀ x, pf_e 16 c1 x = 0 := fun x => by rw [z1 x, pf_e_z z2 x]
  obtain ⟨y, hy⟩ := Classical.not_forall.mp (rp_nz (S.filter p) (by omega))
  exact pf_can2 (n := 17) (k := 17) ((show pf_P 16 (fun x => pf_e 16 q x) from ⟨q, fun _ => rfl⟩).le (by omega)) ((rp_P (S.filter (fun r => !p r))).le (by have : (S.filter (fun r => !p r)).length ≤ S.length := List.length_filter_le _ _; omega)) ((rp_P (S.filter p)).le (by omega)) (by omega) (by omega) (fun x => by
    rw [← rp_split p x S, ← ec x, e x, z3 x, nb_x0, ed x, nb_comm]) hy
/-- traces -/
theorem nb_has_01 (k : Nat) (x : nb_F) : nb_has k x = 0 ∨ nb_has k x = 1 := by
  refine nb_in0 ?_
  unfold nb_in nb_has nb_cut
  rw [show (2 : Nat) ^ 0 = 1 from rfl, BitVec.and_assoc, BitVec.and_self]
theorem nb_in_e {k b : Nat} (hk : k ≤ 4) (hb : b < 2 ^ k) : nb_in k (nb_e b) := by
  have c : (List.range 5).all (fun k => (List.range (2 ^ k)).all (fun b => decide (nb_cut (2 ^ k) (nb_e b) = nb_e b))) = true := by decide +kernel
  have e : nb_cut (2 ^ k) (nb_e b) = nb_e b := of_decide_eq_true (List.all_eq_true.mp (List.all_eq_true.mp c k (List.mem_range.mpr (by omega))) b (List.mem_range.mpr hb))
  exact e
def tq2 (k b : Nat) (r : nb_F) : nb_F := nb_tr (2 ^ k) (nb_mul (nb_e b) r)
theorem tq2_01 {k b : Nat} (hk : k ≤ 4) (hb : b < 2 ^ k) {r : nb_F} (hr : nb_in k r) : tq2 k b r = 0 ∨ tq2 k b r = 1 := by
  unfold tq2
  rw [nb_tr_bit k (by omega) _ (nb_in_mul (by omega) (nb_in_e hk hb) hr)]
  exact nb_has_01 k _
theorem tr_nd {k : Nat} (hk : k ≤ 4) {d : nb_F} (hd : nb_in k d) (h : ∀ b, b < 2 ^ k → tq2 k b d = 0) : d = 0 := by
  by_cases z : d = 0
  · exact z
  · obtain ⟨y, y1, y2⟩ := nb_inv_ex k (by omega) d hd z
    have hp := (q_le hk).2.2.1
    have hlin : nb_lin (fun y => nb_tr (2 ^ k) (nb_mul y d)) := fun a b => by
      show nb_tr (2 ^ k) (nb_mul (a ^^^ b) d) = nb_tr (2 ^ k) (nb_mul a d) ^^^ nb_tr (2 ^ k) (nb_mul b d)
      rw [nb_comm (a ^^^ b) d, nb_mul_add, nb_tr_lin, nb_comm d a, nb_comm d b]
    have e := nb_basis_lt hlin nb_0_lin (N := 2 ^ k) h (nb_mul (nb_e (2 ^ k - 1)) y) (2 ^ k) (Nat.le_refl _)
    have hin : nb_cut (2 ^ k) (nb_mul (nb_e (2 ^ k - 1)) y) = nb_mul (nb_e (2 ^ k - 1)) y := nb_in_mul (k := k) (by omega) (nb_in_e hk (by omega)) y1
    have e2 : nb_tr (2 ^ k) (nb_mul (nb_mul (nb_e (2 ^ k - 1)) y) d) = 0 := by rw [hin] at e; exact e
    rw [nb_assoc, nb_comm y d, y2, nb_mul_1, nb_tr_bit k (by omega) _ (nb_in_e hk (by omega))] at e2
    have c : ∀ k, k < 5 → ¬ nb_has k (nb_e (2 ^ k - 1)) = 0 := nb_k5 (by decide +kernel) (by decide +kernel) (by decide +kernel) (by decide +kernel) (by decide +kernel)
    exact absurd e2 (c k (by omega))
theorem tq2_sep {k : Nat} (hk : k ≤ 4) {r s : nb_F} (hr : nb_in k r) (hs : nb_in k s) (h : ∀ b, b < 2 ^ k → tq2 k b r = tq2 k b s) : r = s :=
  nb_x_eq (tr_nd hk (nb_in_add hr hs) (fun b hb => by
    have := h b hb
    unfold tq2 at this ⊢
    rw [nb_mul_add, nb_tr_lin, this, nb_xx]))
theorem xs_tr (z : nb_F) : ∀ n, xs n (fun i => nb_sqN i z) = nb_tr n z
  | 0 => rfl
  | n + 1 => by rw [xs_s, nb_tr_s, xs_tr z n]
theorem pf_e_xs (n : Nat) (a : Nat → nb_F) (c : Nat → Nat → nb_F) (x : nb_F) : ∀ E, pf_e n (fun j => xs E (fun i => nb_mul (a i) (c i j))) x = xs E (fun i => nb_mul (a i) (pf_e n (c i) x))
  | 0 => pf_e_z (fun _ _ => rfl) x
  | E + 1 => by
    rw [xs_s, ← pf_e_xs n a c x E, ← pf_e_sc, ← pf_e_add]
    rfl
/-- the sum of images at a root -/
theorem tr_at {k : Nat} {n : Nat} {im : Nat → Nat → nb_F} {r : nb_F} (h : ∀ i, i < 2 ^ k → pf_e n (im i) r = nb_sqN i r) (b : Nat) : pf_e n (fun j => xs (2 ^ k) (fun i => nb_mul (nb_sqN i (nb_e b)) (im i j))) r = tq2 k b r := by
  rw [pf_e_xs]
  unfold tq2
  rw [← xs_tr]
  exact xs_c (fun i hi => by rw [h i hi, ← nb_sqN_mul])
/-- squares of coefficients, spread -/
def sqs (c : Nat → nb_F) (i : Nat) : nb_F := if i % 2 = 0 then nb_sq (c (i / 2)) else 0
theorem sqs_2 (c : Nat → nb_F) (i : Nat) : sqs c (i + 2) = sqs (fun j => c (j + 1)) i := by
  unfold sqs
  rw [show (i + 2) % 2 = i % 2 by omega, show (i + 2) / 2 = i / 2 + 1 by omega]
theorem ri_10 (x p : nb_F) : nb_mul x (nb_mul x (nb_mul p p)) = nb_mul (nb_mul x p) (nb_mul x p) := by
  letI := nb_RI
  haveI := nb_RC
  exact (show ∀ x p : nb_R, x * (x * (p * p)) = x * p * (x * p) by intros; grind) x p
theorem sqs_e (x : nb_F) : ∀ (n : Nat) (c : Nat → nb_F), pf_e (2 * n) (sqs c) x = nb_sq (pf_e n c x)
  | 0, c => by
    rw [Nat.mul_zero, pf_e_0, pf_e_0]
    exact (nb_lin0 nb_sq_lin).symm
  | n + 1, c => by
    rw [show 2 * (n + 1) = 2 * n + 1 + 1 by omega, pf_e_s, pf_e_s, pf_e_s n, nb_sq_lin, show sqs c (0 + 1) = 0 from rfl, nb_0x, pf_e_c (c := fun i => sqs c (i + 1 + 1)) (d := sqs (fun j => c (j + 1))) (fun i _ => sqs_2 c i) x, sqs_e x n]
    refine nb_xc rfl ?_
    exact ri_10 x _
/-- an image: x^(2^i), less a multiple of f -/
def img (f : nb_F → nb_F) (i : Nat) (c : Nat → nb_F) : Prop := (∀ j, 7 ≤ j → c j = 0) ∧ ∃ Q N, pf_P N Q ∧ N + 32 ≤ 64 * 2 ^ i ∧ ∀ x, pf_e 16 c x = nb_sqN i x ^^^ nb_mul (Q x) (f x)
theorem ri_11 {s Q f t c : nb_F} (h : nb_mul (s ^^^ nb_mul Q f) (s ^^^ nb_mul Q f) = nb_mul t f ^^^ c) : c = nb_mul s s ^^^ nb_mul (nb_mul (nb_mul Q Q) f ^^^ t) f := by
  letI := nb_RI
  haveI := nb_RC
  exact (show ∀ s Q f t c : nb_R, (s + Q * f) * (s + Q * f) = t * f + c → c = s * s + (Q * Q * f + t) * f by intros; grind) s Q f t c h
theorem img_0 (f : nb_F → nb_F) {c : Nat → nb_F} (h : ∀ j, c j = if j = 1 then 1 else 0) : img f 0 c := by
  refine ⟨fun j hj => by rw [h j, if_neg (by omega)], fun _ => 0, 0, pf_P.zero 0, by decide, fun x => ?_⟩
  rw [nb_0_mul, nb_x0, nb_sqN_0, pf_e_c (d := fun i => if i = 1 then (1 : nb_F) else 0) (fun i _ => h i) x, pf_one x 1 (by omega), nb_mul_1]
  exact nb_1_mul x
theorem img_s {f : nb_F → nb_F} {i : Nat} {c t d : Nat → nb_F} (h : img f i c) (hf : pf_P 16 f) (hz : ∀ j, 7 ≤ j → d j = 0) (e : ∀ x, pf_e 16 (sqs c) x = nb_mul (pf_e 16 t x) (f x) ^^^ pf_e 16 d x) : img f (i + 1) d := by
  obtain ⟨h1, Q, N, h2, hN, h3⟩ := h
  have hw : 64 * 2 ^ (i + 1) = 64 * 2 ^ i + 64 * 2 ^ i := by rw [Nat.pow_succ]; omega
  have ht : pf_P 16 (fun x => pf_e 16 t x) := ⟨t, fun _ => rfl⟩
  refine ⟨hz, fun x => nb_mul (nb_mul (Q x) (Q x)) (f x) ^^^ pf_e 16 t x, N + N + 16, ((h2.mul h2).mul hf).add (ht.le (by omega)), by omega, fun x => ?_⟩
  have e1 := sqs_e x 8 c
  rw [pf_e_len (n := 8) h1 (by omega) x, ← pf_e_len (n := 16) h1 (by omega) x] at e1
  have e2 : nb_sqN (i + 1) x = nb_mul (nb_sqN i x) (nb_sqN i x) := by
    rw [Nat.add_comm, nb_sqN_add x 1 i x]
    rfl
  rw [e2]
  refine ri_11 ?_
  rw [← e x, ← h3 x]
  exact e1.symm
