/-! moves in the law's order; a move that wins is there just where the board is worth something -/
theorem rg_add {α : Type} (f : Nat → List α) (a : Nat) : ∀ b, rg f (a + b) = rg f a ++ rg (fun i => f (a + i)) b
  | 0 => by rw [rg_0, List.append_nil]; rfl
  | b + 1 => by rw [← Nat.add_assoc, rg_s, rg_add f a b, rg_s, List.append_assoc]
theorem rg_cg {α : Type} {f g : Nat → List α} : ∀ n, (∀ i, i < n → f i = g i) → rg f n = rg g n
  | 0, _ => rfl
  | n + 1, h => by rw [rg_s, rg_s, rg_cg n (fun i hi => h i (by omega)), h n (by omega)]
theorem rg_z {α : Type} {f : Nat → List α} : ∀ n, (∀ i, i < n → f i = []) → rg f n = []
  | 0, _ => rfl
  | n + 1, h => by rw [rg_s, rg_z n (fun i hi => h i (by omega)), h n (by omega)]; rfl
theorem rg_pad {α : Type} {f : Nat → List α} {n : Nat} (hn : n ≤ 6) (h : ∀ i, n ≤ i → i < 6 → f i = []) : rg f 6 = rg f n := by
  have e := rg_add f n (6 - n)
  rw [show n + (6 - n) = 6 by omega, rg_z (6 - n) (fun i hi => h (n + i) (by omega) (by omega)), List.append_nil] at e
  exact e
theorem rg_66 {α : Type} (f : Nat → List α) : ∀ n, rg (fun r => rg (fun c => f (6 * r + c)) 6) n = rg f (6 * n)
  | 0 => rfl
  | n + 1 => by rw [rg_s, rg_66 f n, Nat.mul_succ, rg_add]
noncomputable def mvk (K L : Nat → Nat) (e : Int32) (X : nb_F) (k : Nat) : List (Nat × Nat) := if X.getLsbD k = true then rg (mvR K L e (k / 6) (k % 6)) (2 ^ (k / 6)) else []
theorem mvA_k {s : sT} (g : px_ok s.1) (e : Int32) : mvA s e = rg (mvk (bK s.1) (bL s.1) e (nb (s.1 6))) 36 := by
  have h := g.heads
  obtain ⟨-, ⟨-, -, r3⟩, ⟨-, -, c3⟩⟩ := g.prl
  have z : ∀ r c, ¬ (r < bR s.1 ∧ c < bC s.1) → c < 6 → mvc (bK s.1) (bL s.1) e (nb (s.1 6)) r c = [] := fun r c q hc => by
    unfold mvc
    refine if_neg (fun w => q ?_)
    have := h _ w
    omega
  have e1 : ∀ r, r < 6 → mvr (bK s.1) (bL s.1) e (nb (s.1 6)) (bC s.1) r = rg (fun c => mvk (bK s.1) (bL s.1) e (nb (s.1 6)) (6 * r + c)) 6 := fun r hr => by
    have e2 : rg (fun c => mvk (bK s.1) (bL s.1) e (nb (s.1 6)) (6 * r + c)) 6 = rg (mvc (bK s.1) (bL s.1) e (nb (s.1 6)) r) 6 := rg_cg 6 (fun c hc => by
      unfold mvk mvc
      rw [show (6 * r + c) / 6 = r by omega, show (6 * r + c) % 6 = c by omega])
    rw [e2, rg_pad c3 (fun i h1 h2 => z r i (by omega) h2)]
    rfl
  show rg (mvr (bK s.1) (bL s.1) e (nb (s.1 6)) (bC s.1)) (bR s.1) = _
  rw [← rg_pad (f := mvr (bK s.1) (bL s.1) e (nb (s.1 6)) (bC s.1)) r3 (fun i h1 h2 => rg_z (bC s.1) (fun c hc => z i c (by omega) (by omega))), rg_cg 6 e1]
  exact rg_66 _ 6
/-- the moves of rows 2^r+S whose columns come before 2^c+U -/
noncomputable def mvy (K L : Nat → Nat) (e : Int32) (r c S U : Nat) : List (Nat × Nat) := if al (K 0) (L 0) (2 ^ r + S) = true then rg (mvC K L e (2 ^ r + S) c) U else []
theorem mvy_full (K L : Nat → Nat) (e : Int32) (r c S : Nat) : mvR K L e r c S = mvy K L e r c S (2 ^ c) := rfl
theorem mvy_s (K L : Nat → Nat) (e : Int32) (r c S U : Nat) : mvy K L e r c S (U + 1) = mvy K L e r c S U ++ if al (K 0) (L 0) (2 ^ r + S) = true ∧ al (K 1) (L 1) (2 ^ c + U) = true ∧ fit K L e (2 ^ r + S) (2 ^ c + U) = true then [(2 ^ r + S, 2 ^ c + U)] else [] := by
  unfold mvy
  by_cases q : al (K 0) (L 0) (2 ^ r + S) = true
  · rw [if_pos q, if_pos q, rg_s]
    congr 1
    unfold mvC
    by_cases q2 : (fit K L e (2 ^ r + S) (2 ^ c + U) && al (K 1) (L 1) (2 ^ c + U)) = true
    · rw [if_pos q2]
      rw [Bool.and_eq_true] at q2
      rw [if_pos ⟨q, q2.2, q2.1⟩]
    · rw [if_neg q2]
      rw [Bool.and_eq_true] at q2
      rw [if_neg (fun z => q2 ⟨z.2.2, z.2.1⟩)]
  · rw [if_neg q, if_neg q, if_neg (fun z => q z.1)]
    rfl
/-- all moves before a place -/
noncomputable def mvP (K L : Nat → Nat) (e : Int32) (X : nb_F) (k S U : Nat) : List (Nat × Nat) := (rg (mvk K L e X) k ++ rg (mvR K L e (k / 6) (k % 6)) S) ++ mvy K L e (k / 6) (k % 6) S U
theorem mvP_pre {K L : Nat → Nat} {e : Int32} {X : nb_F} {k S U : Nat} (hX : X.getLsbD k = true) (hk : k < 36) (hS : S < 2 ^ (k / 6)) (hU : U ≤ 2 ^ (k % 6)) : ∃ l, rg (mvk K L e X) 36 = mvP K L e X k S U ++ l := by
  obtain ⟨l1, e1⟩ := rg_pre (mvk K L e X) (k + 1) (36 - (k + 1))
  obtain ⟨l2, e2⟩ := rg_pre (mvR K L e (k / 6) (k % 6)) (S + 1) (2 ^ (k / 6) - (S + 1))
  rw [show k + 1 + (36 - (k + 1)) = 36 by omega, rg_s (mvk K L e X) k] at e1
  rw [show S + 1 + (2 ^ (k / 6) - (S + 1)) = 2 ^ (k / 6) by omega, rg_s (mvR K L e (k / 6) (k % 6)) S] at e2
  have e3 : ∃ l, mvR K L e (k / 6) (k % 6) S = mvy K L e (k / 6) (k % 6) S U ++ l := by
    rw [mvy_full]
    unfold mvy
    by_cases q : al (K 0) (L 0) (2 ^ (k / 6) + S) = true
    · rw [if_pos q, if_pos q]
      obtain ⟨l, h⟩ := rg_pre (mvC K L e (2 ^ (k / 6) + S) (k % 6)) U (2 ^ (k % 6) - U)
      rw [show U + (2 ^ (k % 6) - U) = 2 ^ (k % 6) by omega] at h
      exact ⟨l, h⟩
    · rw [if_neg q, if_neg q]
      exact ⟨[], rfl⟩
  obtain ⟨l3, e3⟩ := e3
  have e4 : mvk K L e X k = rg (mvR K L e (k / 6) (k % 6)) (2 ^ (k / 6)) := if_pos hX
  refine ⟨l3 ++ (l2 ++ l1), ?_⟩
  rw [e1, e4, e2, e3]
  unfold mvP
  simp only [List.append_assoc]
/-! worths -/
theorem ef_tb (K L : Nat → Nat) {r c : Nat} (hr : r < 6) (hc : c < 6) : ef K L (2 ^ r) (2 ^ c) = bN (tb (cw (K 0) (L 0) r) (cw (K 1) (L 1) c)) ∧ tb (cw (K 0) (L 0) r) (cw (K 1) (L 1) c) < 256 := by
  have h1 := @cw_6 (K 0) (L 0) r hr
  have h2 := @cw_6 (K 1) (L 1) c hc
  rw [ef_p2 K L hr hc]
  exact tb_mul (by omega) (by omega)
noncomputable def xvl (K L : Nat → Nat) (r c : Nat) : List Nat := (os (K 0) (L 0) r).flatMap (fun S => (os (K 1) (L 1) c).map (fun U => xv K L r c S U))
theorem xvl_mem (K L : Nat → Nat) (r c v : Nat) : v ∈ xvl K L r c ↔ ∃ S U, S ∈ os (K 0) (L 0) r ∧ U ∈ os (K 1) (L 1) c ∧ v = xv K L r c S U := by
  unfold xvl
  rw [List.mem_flatMap]
  constructor
  · rintro ⟨S, h1, h2⟩
    obtain ⟨U, h3, h4⟩ := List.mem_map.mp h2
    exact ⟨S, U, h1, h3, h4.symm⟩
  · rintro ⟨S, U, h1, h2, h3⟩
    exact ⟨S, h1, List.mem_map.mpr ⟨U, h2, h3.symm⟩⟩
theorem bN_toN (x : nb_F) : bN x.toNat = x := by
  show BitVec.ofNat 64 x.toNat = x
  rw [BitVec.ofNat_toNat, BitVec.setWidth_eq]
theorem bN_in2 {a b : Nat} (ha : a < 256) (hb : b < 256) (h : bN a = bN b) : a = b := by
  have h1 : (bN a).toNat = (bN b).toNat := by rw [h]
  rw [bN_toNat (by omega), bN_toNat (by omega)] at h1
  exact h1
theorem win_no (K L : Nat → Nat) {r c S U : Nat} (hr : r < 6) (hc : c < 6) (hS : S ∈ os (K 0) (L 0) r) (hU : U ∈ os (K 1) (L 1) c) : ¬ ef K L (2 ^ r + S) (2 ^ c + U) = 0 := fun z => by
  obtain ⟨h1, h2⟩ := xv_ef (K := K) (L := L) hr hc (os_mem.mp hS).1 (os_mem.mp hU).1
  obtain ⟨h3, h4⟩ := ef_tb K L hr hc
  rw [z, h3, nb_0x] at h1
  have h5 := bN_in2 h4 h2 h1
  have h6 := tar_mx (K := K) (L := L) hr hc (xvl_mem K L r c)
  refine mx_no (xvl K L r c) ?_
  rw [h6, h5]
  exact (xvl_mem K L r c _).mpr ⟨S, U, hS, hU, rfl⟩
theorem win_ex (K L : Nat → Nat) {r c v : Nat} (hr : r < 6) (hc : c < 6) (hv : v < tb (cw (K 0) (L 0) r) (cw (K 1) (L 1) c)) : ∃ S U, S ∈ os (K 0) (L 0) r ∧ U ∈ os (K 1) (L 1) c ∧ v = xv K L r c S U := by
  rw [← tar_mx (K := K) (L := L) hr hc (xvl_mem K L r c)] at hv
  exact (xvl_mem K L r c v).mp (mx_lt _ v hv)
theorem hs_bit (f : Nat → nb_F) (x : nb_F) (h : Nat) : ∀ n, (hs f x n).getLsbD h = true → ∃ i, i < n ∧ x.getLsbD i = true ∧ (f i).getLsbD h = true
  | 0, q => by
    have : (0 : nb_F).getLsbD h = true := q
    rw [show (0 : nb_F).getLsbD h = false from BitVec.getLsbD_zero] at this
    cases this
  | n + 1, q => by
    have q1 : ((hs f x n) ^^^ (if x.getLsbD n = true then f n else 0)).getLsbD h = true := q
    rw [BitVec.getLsbD_xor] at q1
    cases z : (hs f x n).getLsbD h with
    | true =>
      obtain ⟨i, h1, h2⟩ := hs_bit f x h n z
      exact ⟨i, by omega, h2⟩
    | false =>
      rw [z, Bool.false_xor] at q1
      by_cases w : x.getLsbD n = true
      · rw [if_pos w] at q1
        exact ⟨n, by omega, w, q1⟩
      · rw [if_neg w, show (0 : nb_F).getLsbD h = false from BitVec.getLsbD_zero] at q1
        cases q1
theorem lt_top {a b : Nat} (h : Nat) (ha : a.testBit h = false) (hb : b.testBit h = true) (hj : ∀ j, h < j → a.testBit j = b.testBit j) : a < b := by
  have e : a / 2 ^ (h + 1) = b / 2 ^ (h + 1) := Nat.eq_of_testBit_eq (fun i => by
    rw [Nat.testBit_div_two_pow, Nat.testBit_div_two_pow]
    exact hj _ (by omega))
  have m1 : a % 2 ^ (h + 1) < 2 ^ h := Nat.lt_pow_two_of_testBit _ (fun i hi => by
    rw [Nat.testBit_mod_two_pow]
    by_cases q : i = h
    · rw [q, ha, Bool.and_false]
    · rw [decide_eq_false (by omega), Bool.false_and])
  have m2 : 2 ^ h ≤ b % 2 ^ (h + 1) := by
    by_cases q : b % 2 ^ (h + 1) < 2 ^ h
    · have h1 := Nat.testBit_lt_two_pow q
      rw [Nat.testBit_mod_two_pow, hb, decide_eq_true (by omega)] at h1
      cases h1
    · omega
  have d1 := Nat.div_add_mod a (2 ^ (h + 1))
  have d2 := Nat.div_add_mod b (2 ^ (h + 1))
  rw [e] at d1
  omega
theorem iB_z {x : nb_F} (h : x.toNat < 2 ^ 31) : iB x = 0 ↔ x = 0 := by
  constructor
  · intro z
    by_cases q : x.toNat = 0
    · exact BitVec.eq_of_toNat_eq (by rw [q]; rfl)
    · exact absurd z (nI_ne0 (by omega) h)
  · rintro rfl
    rfl
theorem ef_lt (K L : Nat → Nat) (R : Nat) {C : Nat} (hC : C < 64) : (ef K L R C).toNat < 256 := by
  rw [← hs_move K L hC]
  exact hs_ltB K L _
theorem win_iff {s : sT} (g : px_ok s.1) : mvA s (iB (tW s)) = [] ↔ iB (tW s) = 0 := by
  have hh := g.heads
  obtain ⟨-, ⟨-, -, r3⟩, ⟨-, -, c3⟩⟩ := g.prl
  have hT : (tW s).toNat < 256 := hs_ltB _ _ _
  constructor
  · intro hn
    by_cases q : iB (tW s) = 0
    · exact q
    · exfalso
      have ht : 0 < (tW s).toNat := by
        rcases Nat.eq_zero_or_pos (tW s).toNat with z | z
        · exact absurd (show iB (tW s) = 0 by unfold iB; rw [z]; rfl) q
        · exact z
      generalize et : (tW s).toNat = t at *
      have lo : t.testBit (Nat.log2 t) = true := Nat.testBit_log2 (by omega)
      have hi : ∀ j, Nat.log2 t < j → t.testBit j = false := fun j hj => Nat.testBit_lt_two_pow (Nat.lt_of_lt_of_le (Nat.lt_log2_self) (Nat.pow_le_pow_right (by omega) hj))
      have hb : (tW s).getLsbD (Nat.log2 t) = true := by rw [BitVec.getLsbD, et]; exact lo
      obtain ⟨i, i1, i2, i3⟩ := hs_bit _ _ _ _ hb
      obtain ⟨q1, q2⟩ := hh i i2
      have ec : cf (bK s.1) (bL s.1) i = ef (bK s.1) (bL s.1) (2 ^ (i / 6)) (2 ^ (i % 6)) := rfl
      obtain ⟨h3, h4⟩ := ef_tb (bK s.1) (bL s.1) (r := i / 6) (c := i % 6) (by omega) (by omega)
      rw [ec, h3, bN_bit _ _ (by
        have : Nat.log2 t < 8 := (Nat.log2_lt (by omega)).mpr hT
        omega)] at i3
      have hlt : tb (cw (bK s.1 0) (bL s.1 0) (i / 6)) (cw (bK s.1 1) (bL s.1 1) (i % 6)) ^^^ t < tb (cw (bK s.1 0) (bL s.1 0) (i / 6)) (cw (bK s.1 1) (bL s.1 1) (i % 6)) := lt_top (Nat.log2 t) (by rw [Nat.testBit_xor, i3, lo]; rfl) i3 (fun j hj => by rw [Nat.testBit_xor, hi j hj, Bool.xor_false])
      obtain ⟨S, U, w1, w2, w3⟩ := win_ex (bK s.1) (bL s.1) (r := i / 6) (c := i % 6) (by omega) (by omega) hlt
      obtain ⟨s1, s2⟩ := os_mem.mp w1
      obtain ⟨u1, u2⟩ := os_mem.mp w2
      obtain ⟨x1, x2⟩ := xv_ef (K := bK s.1) (L := bL s.1) (r := i / 6) (c := i % 6) (by omega) (by omega) s1 u1
      rw [← w3, bN_x, ← h3] at x1
      have ex : ef (bK s.1) (bL s.1) (2 ^ (i / 6) + S) (2 ^ (i % 6) + U) = tW s := by
        have e1 : ef (bK s.1) (bL s.1) (2 ^ (i / 6) + S) (2 ^ (i % 6) + U) = (ef (bK s.1) (bL s.1) (2 ^ (i / 6) + S) (2 ^ (i % 6) + U) ^^^ ef (bK s.1) (bL s.1) (2 ^ (i / 6)) (2 ^ (i % 6))) ^^^ ef (bK s.1) (bL s.1) (2 ^ (i / 6)) (2 ^ (i % 6)) := by
          rw [BitVec.xor_assoc, BitVec.xor_self, BitVec.xor_zero]
        rw [e1, x1, BitVec.xor_comm (ef _ _ _ _), BitVec.xor_assoc, BitVec.xor_self, BitVec.xor_zero, ← et, bN_toN]
      have hm : (2 ^ (i / 6) + S, 2 ^ (i % 6) + U) ∈ mvA s (iB (tW s)) := by
        unfold mvA mvr
        refine rg_mem.mpr ⟨i / 6, q1, rg_mem.mpr ⟨i % 6, q2, ?_⟩⟩
        unfold mvc
        rw [if_pos (by rw [show 6 * (i / 6) + i % 6 = i by omega]; exact i2)]
        refine rg_mem.mpr ⟨S, s1, ?_⟩
        unfold mvR
        rw [if_pos s2]
        refine rg_mem.mpr ⟨U, u1, ?_⟩
        unfold mvC fit
        rw [if_pos (by rw [Bool.and_eq_true, decide_eq_true_iff]; exact ⟨Or.inr (by rw [ex]), u2⟩)]
        exact List.mem_cons_self
      rw [hn] at hm
      cases hm
  · intro z
    cases e : mvA s (iB (tW s)) with
    | nil => rfl
    | cons a l =>
      exfalso
      have hm : a ∈ mvA s (iB (tW s)) := by rw [e]; exact List.mem_cons_self
      unfold mvA mvr at hm
      obtain ⟨r, q1, hm⟩ := rg_mem.mp hm
      obtain ⟨c, q2, hm⟩ := rg_mem.mp hm
      unfold mvc at hm
      split at hm
      · obtain ⟨S, q3, hm⟩ := rg_mem.mp hm
        unfold mvR at hm
        split at hm
        · rename_i a1
          obtain ⟨U, q4, hm⟩ := rg_mem.mp hm
          unfold mvC fit at hm
          split at hm
          · rename_i a2
            rw [Bool.and_eq_true, decide_eq_true_iff] at a2
            obtain ⟨f1, f2⟩ := a2
            have f3 : iB (ef (bK s.1) (bL s.1) (2 ^ r + S) (2 ^ c + U)) = 0 := by
              rcases f1 with f1 | f1
              · exact absurd f1 (tW_m1 s)
              · rw [f1, z]
            have p1 : 2 ^ c ≤ 32 := pow_6 (by omega)
            have f4 := ef_lt (bK s.1) (bL s.1) (2 ^ r + S) (C := 2 ^ c + U) (by omega)
            exact win_no (bK s.1) (bL s.1) (by omega) (by omega) (os_mem.mpr ⟨q3, a1⟩) (os_mem.mpr ⟨q4, f2⟩) ((iB_z (by omega)).mp f3)
          · cases hm
        · cases hm
      · cases hm
