/-! what is least excluded is the product; cell -/
theorem cw_6 {κ l n : Nat} (h : n < 6) : cw κ l n ≤ 32 := Nat.le_trans (cw_le κ l n) (Nat.le_trans (Nat.pow_le_pow_right (by omega) (show n ≤ 5 by omega)) (by decide))
theorem sw_6 {κ l n S : Nat} (h : n ≤ 6) : sw (cw κ l) n S < 64 := sw_lt (b := 6) n (fun i hi => by have := @cw_6 κ l i (by omega); omega)
theorem sw_top {κ l n S : Nat} (hn : n < 6) (hS : S < 2 ^ n) : sw (cw κ l) 6 (2 ^ n + S) = cw κ l n ^^^ sw (cw κ l) n S := by
  have e := sw_up (w := cw κ l) (k := n + 1) (S := 2 ^ n + S) (by rw [Nat.pow_succ]; omega) (5 - n)
  rw [show n + 1 + (5 - n) = 6 by omega] at e
  rw [e, sw_hi _ hS, Nat.xor_comm]
/-- what a move's other cells are worth -/
noncomputable def xv (K L : Nat → Nat) (r c S U : Nat) : Nat := tb (cw (K 0) (L 0) r ^^^ sw (cw (K 0) (L 0)) r S) (cw (K 1) (L 1) c ^^^ sw (cw (K 1) (L 1)) c U) ^^^ tb (cw (K 0) (L 0) r) (cw (K 1) (L 1) c)
theorem xor_64 {a b : Nat} (ha : a < 64) (hb : b < 64) : a ^^^ b < 64 := Nat.xor_lt_two_pow (n := 6) ha hb
theorem xv_ef {K L : Nat → Nat} {r c S U : Nat} (hr : r < 6) (hc : c < 6) (hS : S < 2 ^ r) (hU : U < 2 ^ c) : ef K L (2 ^ r + S) (2 ^ c + U) ^^^ ef K L (2 ^ r) (2 ^ c) = bN (xv K L r c S U) ∧ xv K L r c S U < 256 := by
  have a1 := @cw_6 (K 0) (L 0) r hr
  have b1 := @cw_6 (K 1) (L 1) c hc
  have a2 := @sw_6 (K 0) (L 0) r S (by omega)
  have b2 := @sw_6 (K 1) (L 1) c U (by omega)
  have m1 := tb_mul (xor_64 (show cw (K 0) (L 0) r < 64 by omega) a2) (xor_64 (show cw (K 1) (L 1) c < 64 by omega) b2)
  have m2 := tb_mul (show cw (K 0) (L 0) r < 64 by omega) (show cw (K 1) (L 1) c < 64 by omega)
  refine ⟨?_, Nat.xor_lt_two_pow (n := 8) m1.2 m2.2⟩
  rw [ef_p2 K L hr hc]
  unfold ef xv
  rw [sw_top hr hS, sw_top hc hU, m1.1, m2.1, ← bN_x]
theorem tar_mx {K L : Nat → Nat} {r c : Nat} (hr : r < 6) (hc : c < 6) {l : List Nat} (hl : ∀ v, v ∈ l ↔ ∃ S U, S ∈ os (K 0) (L 0) r ∧ U ∈ os (K 1) (L 1) c ∧ v = xv K L r c S U) : mx l = tb (cw (K 0) (L 0) r) (cw (K 1) (L 1) c) := by
  have a1 := @cw_6 (K 0) (L 0) r hr
  have b1 := @cw_6 (K 1) (L 1) c hc
  have ea := cw_eq (K 0) (L 0) r
  have eb := cw_eq (K 1) (L 1) c
  refine mx_un (fun hv => ?_) (fun v hv => ?_)
  · obtain ⟨S, U, hS, hU, e⟩ := (hl _).mp hv
    have a2 := @sw_6 (K 0) (L 0) r S (by omega)
    have b2 := @sw_6 (K 1) (L 1) c U (by omega)
    unfold xv at e
    have hx : tb (cw (K 0) (L 0) r ^^^ sw (cw (K 0) (L 0)) r S) (cw (K 1) (L 1) c ^^^ sw (cw (K 1) (L 1)) c U) = 0 := by
      have e2 := congrArg (fun x => x ^^^ tb (cw (K 0) (L 0) r) (cw (K 1) (L 1) c)) e
      rw [Nat.xor_self, Nat.xor_assoc, Nat.xor_self, Nat.xor_zero] at e2
      exact e2.symm
    have m1 := (tb_mul (xor_64 (show cw (K 0) (L 0) r < 64 by omega) a2) (xor_64 (show cw (K 1) (L 1) c < 64 by omega) b2)).1
    rw [hx] at m1
    have nx : ∀ {a b : Nat}, a < 64 → b < 64 → bN (a ^^^ b) = 0 → a = b := fun {a b} ha hb h => by
      have h0 : a ^^^ b = 0 := bN_inj (by have := xor_64 ha hb; omega) (by decide) h
      have h1 := congrArg (fun x => x ^^^ b) h0
      rw [Nat.xor_assoc, Nat.xor_self, Nat.xor_zero, Nat.zero_xor] at h1
      exact h1
    rcases nb_nz m1 with z | z
    · have e3 := nx (by omega) a2 z
      have := mx_no ((os (K 0) (L 0) r).map (sw (cw (K 0) (L 0)) r))
      rw [← ea] at this
      exact this (List.mem_map.mpr ⟨S, hS, e3.symm⟩)
    · have e3 := nx (by omega) b2 z
      have := mx_no ((os (K 1) (L 1) c).map (sw (cw (K 1) (L 1)) c))
      rw [← eb] at this
      exact this (List.mem_map.mpr ⟨U, hU, e3.symm⟩)
  · obtain ⟨x, y, hx, hy, e⟩ := tar_ex a1 b1 hv
    have hx2 := mx_lt ((os (K 0) (L 0) r).map (sw (cw (K 0) (L 0)) r)) x (by rw [← ea]; exact hx)
    have hy2 := mx_lt ((os (K 1) (L 1) c).map (sw (cw (K 1) (L 1)) c)) y (by rw [← eb]; exact hy)
    obtain ⟨S, hS, rfl⟩ := List.mem_map.mp hx2
    obtain ⟨U, hU, rfl⟩ := List.mem_map.mp hy2
    exact (hl v).mpr ⟨S, U, hS, hU, e.symm⟩
/-- a bit less -/
theorem hs_less (f : Nat → nb_F) {x : nb_F} {p : Nat} (hp : p < 36) (hb : x.getLsbD p = true) : hs f (nb (bn x &&& (bn (nb_e p) ^^^ -1))) 36 = hs f x 36 ^^^ f p ∧ ∀ i, i < 64 → (nb (bn x &&& (bn (nb_e p) ^^^ -1))).getLsbD i = (x.getLsbD i && !decide (i = p)) := by
  have hbit : ∀ i, i < 64 → (nb (bn x &&& (bn (nb_e p) ^^^ -1))).getLsbD i = (x.getLsbD i && !decide (i = p)) := fun i hi => by
    have e : nb (bn x &&& (bn (nb_e p) ^^^ -1)) = x &&& (nb_e p ^^^ BitVec.allOnes 64) := rfl
    rw [e, BitVec.getLsbD_and, BitVec.getLsbD_xor, nb_e_bl hi, BitVec.getLsbD_allOnes, decide_eq_true hi, Bool.xor_true]
  refine ⟨?_, hbit⟩
  have e1 : hs f (nb_e p) 36 = f p := by
    have key : ∀ n, n ≤ 36 → hs f (nb_e p) n = if p < n then f p else 0 := fun n => by
      induction n with
      | zero => intro _; rw [if_neg (Nat.not_lt_zero _)]; rfl
      | succ n ih =>
        intro hn
        have es : hs f (nb_e p) (n + 1) = hs f (nb_e p) n ^^^ (if (nb_e p).getLsbD n = true then f n else 0) := rfl
        rw [es, ih (by omega), nb_e_bl (by omega)]
        by_cases q : n = p
        · rw [if_neg (show ¬ p < n by omega), if_pos (decide_eq_true q), if_pos (show p < n + 1 by omega), nb_0x, q]
        · rw [if_neg (show ¬ decide (n = p) = true by rw [decide_eq_true_iff]; exact q), nb_x0]
          by_cases z : p < n
          · rw [if_pos z, if_pos (by omega)]
          · rw [if_neg z, if_neg (by omega)]
    rw [key 36 (Nat.le_refl _), if_pos hp]
  have e2 : nb (bn x &&& (bn (nb_e p) ^^^ -1)) = x ^^^ nb_e p := by
    apply BitVec.eq_of_getLsbD_eq
    intro i hi
    rw [hbit i hi, BitVec.getLsbD_xor, nb_e_bl hi]
    by_cases q : i = p
    · rw [q, hb, decide_eq_true rfl]
      rfl
    · rw [decide_eq_false q]
      simp
  rw [e2, hs_x, e1]
def exd (m : qm_M) (K L : Nat → Nat) (r c C : Nat) : Prop := ∀ i, i < 36 → i % 6 < C → i / 6 < r ∨ i / 6 = r ∧ i % 6 < c → m.1 135 i = iB (cf K L i)
def lef (m m1 : qm_M) : Prop := (∀ a, a ≠ 134 → a ≠ 135 → m1.1 a = m.1 a) ∧ m1.2 = m.2
theorem lef.rf (m : qm_M) : lef m m := ⟨fun _ _ _ => rfl, rfl⟩
theorem lef.tr {m m1 m2 : qm_M} (h : lef m m1) (g : lef m1 m2) : lef m m2 := ⟨fun a x y => (g.1 a x y).trans (h.1 a x y), g.2.trans h.2⟩
theorem lef.now {m m1 : qm_M} {P : sP} (g : lef m m1) (h : ms_now m P) : ms_now m1 P := fun i hi => by rw [g.2]; exact h i hi
theorem lef.lcf {m m1 : qm_M} (g : lef m m1) : lcf m m1 := ⟨fun a _ x y _ => g.1 a x y, g.2⟩
