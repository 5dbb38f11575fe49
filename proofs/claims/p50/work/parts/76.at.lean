/-! values of the places' polynomials: both -/
/-- cells apart from some stay -/
def ou (lo hi : Nat) (m m1 : qm_M) : Prop := ∀ a, a < lo ∨ hi < a → m1.1 a = m.1 a ∧ m1.2 a = m.2 a
theorem ou.rf (lo hi : Nat) (m : qm_M) : ou lo hi m m := fun _ _ => ⟨rfl, rfl⟩
theorem ou.tr {lo hi : Nat} {m m1 m2 : qm_M} (h : ou lo hi m m1) (g : ou lo hi m1 m2) : ou lo hi m m2 := fun a q => ⟨(g a q).1.trans (h a q).1, (g a q).2.trans (h a q).2⟩
theorem ou.le {lo hi lo2 hi2 : Nat} {m m1 : qm_M} (h : ou lo hi m m1) (h1 : lo2 ≤ lo) (h2 : hi ≤ hi2) : ou lo2 hi2 m m1 := fun a q => h a (by omega)
theorem ou.I {lo hi : Nat} (m : qm_M) {o : Nat} (ho : lo ≤ o ∧ o ≤ hi) (j : Nat) (x : Int32) : ou lo hi m (qm_sI m o j x) := fun a q => ⟨(qm_sI_other a (by omega)).1, rfl⟩
theorem ou.cs {lo hi : Nat} {m m1 : qm_M} {s : sT} (g : ou lo hi m m1) (hl : 44 < lo) (h : cs m s) : cs m1 s := h.fr (fun a ha => (g a (by omega)).1) (fun a ha => (g a (by omega)).2)
/-- the places -/
def pP (P : sP) (k : Nat) : nb_F := nb (P (7 + k))
/-- the model: through all eight -/
theorem nI_xor {a b : Nat} (ha : a < 2 ^ 31) (hb : b < 2 ^ 31) : nI a ^^^ nI b = nI (a ^^^ b) := by
  apply Int32.toBitVec_inj.1
  show BitVec.ofNat 32 a ^^^ BitVec.ofNat 32 b = BitVec.ofNat 32 (a ^^^ b)
  apply BitVec.eq_of_toNat_eq
  rw [BitVec.toNat_xor, BitVec.toNat_ofNat, BitVec.toNat_ofNat, BitVec.toNat_ofNat, Nat.mod_eq_of_lt (by omega), Nat.mod_eq_of_lt (by omega), Nat.mod_eq_of_lt]
  exact Nat.xor_lt_two_pow (by omega) (by omega)
