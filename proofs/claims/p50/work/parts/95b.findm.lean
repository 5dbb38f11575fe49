/-! the model finds; moves, move, play, answer, as both answer -/
theorem le_Pl_greatestOf_4  (n : Nat) (v0 : Int32) (v1 : Int32) (v2 : Int32) (m : qm_M) : L_Pl_greatestOf_4 (n + 1) v0 v1 v2 m = X_Pl_greatestOf_4 (L_Pl_greatestOf_4 n) v0 v1 v2 m := rfl
theorem iB_eq (x y : nb_F) : (iB (x ^^^ y) = 0) ↔ iB y = iB x := by
  rw [← iB_x]
  constructor
  · intro h
    have e : iB x ^^^ iB y ^^^ iB y = 0 ^^^ iB y := by rw [h]
    rw [Int32.xor_assoc, Int32.xor_self, Int32.xor_zero, Int32.zero_xor] at e
    exact e.symm
  · intro h
    rw [h, Int32.xor_self]
theorem xs_ltB {b : Nat} (hb : b ≤ 64) {f : Nat → nb_F} : ∀ n, (∀ i, i < n → (f i).toNat < 2 ^ b) → (xs n f).toNat < 2 ^ b
  | 0, _ => Nat.two_pow_pos b
  | n + 1, h => by
    rw [xs_s, BitVec.toNat_xor]
    exact Nat.xor_lt_two_pow (xs_ltB hb n (fun i hi => h i (by omega))) (h n (by omega))
theorem cf_lt {K L : Nat → Nat} {i : Nat} (hi : i < 36) : (cf K L i).toNat < 256 := by
  unfold cf
  have a1 := @cw_6 (K 0) (L 0) (i / 6) (by omega)
  have b1 := @cw_6 (K 1) (L 1) (i % 6) (by omega)
  have m2 := tb_mul (show cw (K 0) (L 0) (i / 6) < 64 by omega) (show cw (K 1) (L 1) (i % 6) < 64 by omega)
  rw [ef_p2 K L (by omega) (by omega), m2.1, bN_toNat (by omega)]
  exact m2.2
theorem hs_ltB (K L : Nat → Nat) (x : nb_F) : (hs (cf K L) x 36).toNat < 256 := by
  unfold hs
  refine xs_ltB (b := 8) (by omega) 36 (fun i hi => ?_)
  by_cases q : x.getLsbD i = true
  · rw [if_pos q]
    exact cf_lt hi
  · rw [if_neg q]
    decide
theorem tW_m1 (s : sT) : ¬ iB (tW s) = -1 := by
  unfold iB tW
  have := hs_ltB (bK s.1) (bL s.1) (nb (s.1 6))
  exact nI_m1 (by omega)
def ffr (m m1 : qm_M) : Prop := (∀ a, a ≠ 112 → a ≠ 133 → a ≠ 134 → a ≠ 135 → a ≠ 136 → m1.1 a = m.1 a) ∧ (∀ j, j < 36 ∨ 39 < j → m1.1 112 j = m.1 112 j) ∧ m1.2 = m.2
theorem ffr.rf (m : qm_M) : ffr m m := ⟨fun _ _ _ _ _ _ => rfl, fun _ _ => rfl, rfl⟩
theorem ffr.tr {m m1 m2 : qm_M} (h : ffr m m1) (g : ffr m1 m2) : ffr m m2 := ⟨fun a x y z w v => (g.1 a x y z w v).trans (h.1 a x y z w v), fun a x => (g.2.1 a x).trans (h.2.1 a x), g.2.2.trans h.2.2⟩
theorem lcf.ffr {m m1 : qm_M} (g : lcf m m1) : ffr m m1 := ⟨fun a _ x y z w => g.1 a x y z w, fun _ _ => by rw [g.1 112 (by decide) (by decide) (by decide) (by decide)], g.2⟩
theorem ffr.now {m m1 : qm_M} {P : sP} (g : ffr m m1) (h : ms_now m P) : ms_now m1 P := fun i hi => by rw [g.2.2]; exact h i hi
theorem ffr.ms {m m1 : qm_M} {s : sT} (g : ffr m m1) (h : ms m s) : ms m1 s := h.fr (g.2.1 2 (by omega)) (g.2.1 24 (by omega)) (g.1 116 (by decide) (by decide) (by decide) (by decide) (by decide)) (g.1 129 (by decide) (by decide) (by decide) (by decide) (by decide)) (fun a _ _ => by rw [g.2.2])
theorem ffr.lo {m m1 : qm_M} (g : ffr m m1) : lo_fr m m1 := ⟨fun a h => g.1 a (by omega) (by omega) (by omega) (by omega) (by omega), fun a _ => by rw [g.2.2]⟩
def kfr (m m1 : qm_M) : Prop := (∀ a, a ≠ 112 → m1.1 a = m.1 a) ∧ (∀ j, j < 36 ∨ 39 < j → m1.1 112 j = m.1 112 j) ∧ m1.2 = m.2
theorem kfr.rf (m : qm_M) : kfr m m := ⟨fun _ _ => rfl, fun _ _ => rfl, rfl⟩
theorem kfr.tr {m m1 m2 : qm_M} (h : kfr m m1) (g : kfr m1 m2) : kfr m m2 := ⟨fun a x => (g.1 a x).trans (h.1 a x), fun a x => (g.2.1 a x).trans (h.2.1 a x), g.2.2.trans h.2.2⟩
theorem kfr.I (m : qm_M) {j : Nat} (hj : 36 ≤ j ∧ j ≤ 39) (x : Int32) : kfr m (qm_sI m 112 j x) := ⟨fun a h => (qm_sI_other a h).1, fun i hi => me_oth _ _ _ _ (Or.inr (by omega)), rfl⟩
theorem kfr.ffr {m m1 : qm_M} (g : kfr m m1) : ffr m m1 := ⟨fun a x _ _ _ _ => g.1 a x, g.2.1, g.2.2⟩
def mIn (m0 : qm_M) (p : Nat) (m : qm_M) : Prop := kfr m0 m ∧ m.1 112 39 = nI p
def mFo (s : sT) (m0 : qm_M) (a : Nat × Nat) (r : Option qm_R) : Prop := ∃ m', r = some (some (.int 1), m') ∧ m'.1 112 36 = nI a.1 ∧ m'.1 112 37 = nI a.2 ∧ m'.1 112 38 = iB (tW s ^^^ ef (bK s.1) (bL s.1) a.1 a.2) ∧ kfr m0 m'
/-- moves lie on the board -/
theorem rg_mem {α : Type} {f : Nat → List α} {n : Nat} {a : α} : a ∈ rg f n ↔ ∃ i, i < n ∧ a ∈ f i := by
  unfold rg
  rw [List.mem_flatMap]
  exact ⟨fun ⟨i, h1, h2⟩ => ⟨i, List.mem_range.mp h1, h2⟩, fun ⟨i, h1, h2⟩ => ⟨i, List.mem_range.mpr h1, h2⟩⟩
theorem wk_mem {α : Type} {q : Nat → Bool} {a : α} : ∀ (l : List α) (p : Nat), wk q l p = .inl a → a ∈ l
  | [], p, h => by
    rw [wk_n] at h
    cases h
  | b :: l, p, h => by
    rw [wk_c] at h
    by_cases z : q p = true
    · rw [if_pos z] at h
      cases h
      exact List.mem_cons_self
    · rw [if_neg z] at h
      exact List.mem_cons_of_mem _ (wk_mem l (p + 1) h)
theorem mvA_mem {s : sT} {e : Int32} {a : Nat × Nat} (g : px_ok s.1) (h : a ∈ mvA s e) : a.1 < 2 ^ bR s.1 ∧ a.2 < 2 ^ bC s.1 ∧ a.1 < 64 ∧ a.2 < 64 := by
  obtain ⟨-, ⟨r1, r2, r3⟩, ⟨c1, c2, c3⟩⟩ := g.prl
  obtain ⟨r, hr, h⟩ := rg_mem.mp h
  obtain ⟨c, hc, h⟩ := rg_mem.mp h
  unfold mvc at h
  by_cases q : (nb (s.1 6)).getLsbD (6 * r + c) = true
  · rw [if_pos q] at h
    obtain ⟨S, hS, h⟩ := rg_mem.mp h
    unfold mvR at h
    by_cases q : al (bK s.1 0) (bL s.1 0) (2 ^ r + S) = true
    · rw [if_pos q] at h
      obtain ⟨U, hU, h⟩ := rg_mem.mp h
      unfold mvC at h
      by_cases q : (fit (bK s.1) (bL s.1) e (2 ^ r + S) (2 ^ c + U) && al (bK s.1 1) (bL s.1 1) (2 ^ c + U)) = true
      · rw [if_pos q] at h
        rw [List.mem_singleton.mp h]
        have e1 : 2 ^ r + S < 2 ^ bR s.1 := Nat.lt_of_lt_of_le (show 2 ^ r + S < 2 ^ (r + 1) by rw [Nat.pow_succ]; omega) (Nat.pow_le_pow_right (by omega) hr)
        have e2 : 2 ^ c + U < 2 ^ bC s.1 := Nat.lt_of_lt_of_le (show 2 ^ c + U < 2 ^ (c + 1) by rw [Nat.pow_succ]; omega) (Nat.pow_le_pow_right (by omega) hc)
        have e3 : 2 ^ bR s.1 ≤ 64 := Nat.le_trans (Nat.pow_le_pow_right (by omega) r3) (by decide)
        have e4 : 2 ^ bC s.1 ≤ 64 := Nat.le_trans (Nat.pow_le_pow_right (by omega) c3) (by decide)
        exact ⟨e1, e2, by show 2 ^ r + S < 64; omega, by show 2 ^ c + U < 64; omega⟩
      · rw [if_neg q] at h
        cases h
    · rw [if_neg q] at h
      cases h
  · rw [if_neg q] at h
    cases h
theorem mvA_len {s : sT} {e : Int32} (g : px_ok s.1) : (mvA s e).length ≤ 65536 := by
  obtain ⟨-, ⟨r1, r2, r3⟩, ⟨c1, c2, c3⟩⟩ := g.prl
  have h1 : ∀ r, r < bR s.1 → (mvr (bK s.1) (bL s.1) e (nb (s.1 6)) (bC s.1) r).length ≤ 8192 := fun r hr => by
    have h2 : ∀ c, c < bC s.1 → (mvc (bK s.1) (bL s.1) e (nb (s.1 6)) r c).length ≤ 1024 := fun c hc => by
      unfold mvc
      by_cases q : (nb (s.1 6)).getLsbD (6 * r + c) = true
      · rw [if_pos q]
        have h3 : ∀ S, S < 2 ^ r → (mvR (bK s.1) (bL s.1) e r c S).length ≤ 32 := fun S hS => by
          unfold mvR
          by_cases q : al (bK s.1 0) (bL s.1 0) (2 ^ r + S) = true
          · rw [if_pos q]
            have h4 := rg_len (f := mvC (bK s.1) (bL s.1) e (2 ^ r + S) c) (B := 1) (2 ^ c) (fun U _ => by
              unfold mvC
              split
              · exact Nat.le_refl _
              · exact Nat.zero_le _)
            have := pow_6 (n := c) (by omega)
            omega
          · rw [if_neg q]
            exact Nat.zero_le _
        have h5 := rg_len (f := mvR (bK s.1) (bL s.1) e r c) (B := 32) (2 ^ r) h3
        have := pow_6 (n := r) (by omega)
        omega
      · rw [if_neg q]
        exact Nat.zero_le _
    have h6 := rg_len (f := mvc (bK s.1) (bL s.1) e (nb (s.1 6)) r) (B := 1024) (bC s.1) h2
    unfold mvr
    omega
  have h7 := rg_len (f := mvr (bK s.1) (bL s.1) e (nb (s.1 6)) (bC s.1)) (B := 8192) (bR s.1) h1
  unfold mvA
  omega
