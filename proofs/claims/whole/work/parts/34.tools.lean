/-! loops; memory; numbers as a ring for grind -/
/-- a loop by fuel: what holds of its end, out of one turn of it -/
theorem lp {σ : Type} {α : Type} {L : Nat → σ → α} {X : (σ → α) → σ → α} (hL : ∀ n s, L (n + 1) s = X (L n) s) (mu : σ → Nat) (I : σ → Prop) (R : α → Prop)
    (h : ∀ s k, I s → (∀ s', I s' → mu s' < mu s → R (k s')) → R (X k s)) : ∀ f s, I s → mu s < f → R (L f s) := by
  intro f
  induction f with
  | zero => intro s _ h2; exact absurd h2 (Nat.not_lt_zero _)
  | succ f ih =>
    intro s h1 h2
    rw [hL]
    exact h s (L f) h1 (fun s' g1 g2 => ih s' g1 (by omega))
theorem me_1I (m : qm_M) (o j : Nat) (x : Int32) (a i : Nat) : (qm_sI m o j x).1 a i = if a = o then (if i = j then x else m.1 a i) else m.1 a i := by
  by_cases h : a = o
  · subst h
    rw [if_pos rfl, qm_sI_self]
    unfold upd
    rfl
  · rw [if_neg h, (qm_sI_other a h).1]
theorem me_2I (m : qm_M) (o j : Nat) (x : Int32) : (qm_sI m o j x).2 = m.2 := rfl
theorem me_1L (m : qm_M) (o j : Nat) (x : Int64) : (qm_sL m o j x).1 = m.1 := rfl
theorem me_2L (m : qm_M) (o j : Nat) (x : Int64) (a i : Nat) : (qm_sL m o j x).2 a i = if a = o then (if i = j then x else m.2 a i) else m.2 a i := by
  by_cases h : a = o
  · subst h
    rw [if_pos rfl, qm_sL_self]
    rfl
  · rw [if_neg h, (qm_sL_other a h).2]
/-- nothing changes but ints of the cells of S, longs of the cells of T -/
def fr (S T : Nat → Prop) (m m1 : qm_M) : Prop := (∀ a, ¬ S a → m1.1 a = m.1 a) ∧ (∀ a, ¬ T a → m1.2 a = m.2 a)
theorem fr.rf {S T : Nat → Prop} (m : qm_M) : fr S T m m := ⟨fun _ _ => rfl, fun _ _ => rfl⟩
theorem fr.tr {S T : Nat → Prop} {m m1 m2 : qm_M} (h : fr S T m m1) (g : fr S T m1 m2) : fr S T m m2 := ⟨fun a q => (g.1 a q).trans (h.1 a q), fun a q => (g.2 a q).trans (h.2 a q)⟩
theorem fr.up {S T S1 T1 : Nat → Prop} {m m1 : qm_M} (h : fr S T m m1) (hS : ∀ a, S a → S1 a) (hT : ∀ a, T a → T1 a) : fr S1 T1 m m1 := ⟨fun a q => h.1 a (fun z => q (hS a z)), fun a q => h.2 a (fun z => q (hT a z))⟩
theorem fr.sI {S T : Nat → Prop} {m m1 : qm_M} (h : fr S T m m1) {o j : Nat} {x : Int32} (ho : S o) : fr S T m (qm_sI m1 o j x) := ⟨fun a q => by
  have e : a ≠ o := fun z => q (z ▸ ho)
  rw [(qm_sI_other a e).1]
  exact h.1 a q, h.2⟩
theorem fr.sL {S T : Nat → Prop} {m m1 : qm_M} (h : fr S T m m1) {o j : Nat} {x : Int64} (ho : T o) : fr S T m (qm_sL m1 o j x) := ⟨h.1, fun a q => by
  have e : a ≠ o := fun z => q (z ▸ ho)
  rw [(qm_sL_other a e).2]
  exact h.2 a q⟩
/-! the ring -/
def nb_R : Type := BitVec 64
def nb_c (n : Nat) : nb_F := if n % 2 = 0 then 0 else 1
def nb_ci (i : Int) : nb_F := if i % 2 = 0 then 0 else 1
theorem nb_c_s (n : Nat) : nb_c (n + 1) = nb_c n ^^^ 1 := by
  unfold nb_c
  by_cases h : n % 2 = 0
  · rw [if_pos h, if_neg (by omega)]; decide
  · rw [if_neg h, if_pos (by omega)]; decide
theorem nb_ci_neg (i : Int) : nb_ci (-i) = nb_ci i := by
  unfold nb_ci
  by_cases h : i % 2 = 0
  · rw [if_pos h, if_pos (by omega)]
  · rw [if_neg h, if_neg (by omega)]
theorem nb_ci_nat (n : Nat) : nb_ci (n : Int) = nb_c n := by
  unfold nb_ci nb_c
  by_cases h : n % 2 = 0
  · rw [if_pos h, if_pos (by omega)]
  · rw [if_neg h, if_neg (by omega)]
noncomputable def nb_RI : Lean.Grind.CommRing nb_R where
  add := fun (a b : nb_F) => (a ^^^ b : nb_F)
  mul := nb_mul
  neg := fun (a : nb_F) => a
  sub := fun (a b : nb_F) => (a ^^^ b : nb_F)
  natCast := ⟨nb_c⟩
  ofNat := fun n => ⟨nb_c n⟩
  nsmul := ⟨fun n (a : nb_F) => nb_mul (nb_c n) a⟩
  npow := ⟨fun (a : nb_F) n => nb_pow n a⟩
  intCast := ⟨nb_ci⟩
  zsmul := ⟨fun i (a : nb_F) => nb_mul (nb_ci i) a⟩
  add_zero := fun a => nb_x0 a
  add_comm := fun (a b : nb_F) => BitVec.xor_comm a b
  add_assoc := fun (a b c : nb_F) => BitVec.xor_assoc a b c
  mul_assoc := nb_assoc
  mul_one := nb_mul_1
  one_mul := nb_1_mul
  mul_comm := nb_comm
  left_distrib := nb_mul_add
  right_distrib := nb_add_mul
  zero_mul := nb_0_mul
  mul_zero := nb_mul_0
  pow_zero := nb_pow_0
  pow_succ := fun a n => nb_pow_s n a
  ofNat_succ := nb_c_s
  ofNat_eq_natCast := fun _ => rfl
  nsmul_eq_natCast_mul := fun _ _ => rfl
  neg_add_cancel := nb_xx
  sub_eq_add_neg := fun _ _ => rfl
  neg_zsmul := fun i a => congrArg (fun z => nb_mul z a) (nb_ci_neg i)
  zsmul_natCast_eq_nsmul := fun n a => congrArg (fun z => nb_mul z a) (nb_ci_nat n)
  intCast_ofNat := nb_ci_nat
  intCast_neg := nb_ci_neg
theorem nb_RC : @Lean.Grind.IsCharP nb_R nb_RI.toSemiring 2 := by
  letI := nb_RI
  refine ⟨fun {x y} => ?_⟩
  show nb_c x = nb_c y ↔ _
  unfold nb_c
  by_cases h : x % 2 = 0
  · by_cases g : y % 2 = 0
    · rw [if_pos h, if_pos g]; simp [h, g]
    · rw [if_pos h, if_neg g]; have : y % 2 = 1 := by omega
      rw [h, this]; decide
  · have h1 : x % 2 = 1 := by omega
    by_cases g : y % 2 = 0
    · rw [if_neg h, if_pos g]; rw [h1, g]; decide
    · rw [if_neg h, if_neg g]; have : y % 2 = 1 := by omega
      simp [h1, this]
theorem nb_try1 (p l : nb_F) : nb_sq (p ^^^ l) ^^^ (p ^^^ l) = (nb_sq p ^^^ p) ^^^ (nb_sq l ^^^ l) := by
  letI := nb_RI
  haveI := nb_RC
  exact (show ∀ p l : nb_R, (p + l) * (p + l) + (p + l) = (p * p + p) + (l * l + l) by intros; grind) p l
