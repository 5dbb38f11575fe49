/-! levels, squares, roots, powers -/
/-! squares -/
def nb_sq (x : nb_F) : nb_F := nb_mul x x
theorem nb_sq_lin : nb_lin nb_sq := fun x y => by
  unfold nb_sq
  rw [nb_add_mul, nb_mul_add, nb_mul_add, nb_comm y x]
  ext i hi
  simp only [BitVec.getElem_xor]
  cases (nb_mul x x)[i] <;> cases (nb_mul x y)[i] <;> cases (nb_mul y y)[i] <;> rfl
/-- one step of square, of root -/
def nb_sk (k : Nat) (y : nb_F) : nb_F := y ^^^ nb_T k ((y >>> (2 ^ k)) &&& nb_low k)
theorem nb_sk_lin (k : Nat) : nb_lin (nb_sk k) := nb_sum nb_idl (nb_comp (nb_T_lin k) (nb_hi_lin k))
def nb_sqA : Nat → nb_F → nb_F
  | 0, x => x
  | k + 1, x => nb_sk k (nb_sqA k x)
theorem nb_sqA_lin : ∀ k, nb_lin (nb_sqA k)
  | 0 => nb_idl
  | k + 1 => fun x y => by
    show nb_sk k (nb_sqA k (x ^^^ y)) = nb_sk k (nb_sqA k x) ^^^ nb_sk k (nb_sqA k y)
    rw [nb_sqA_lin k, nb_sk_lin k]
def nb_rtA : Nat → nb_F → nb_F
  | 0, x => x
  | k + 1, x => nb_rtA k (nb_sk k x)
/-- the root -/
def nb_rt (x : nb_F) : nb_F := nb_rtA 6 x
theorem nb_sq_chk : (List.range 64).all (fun i => decide (nb_sqA 6 (nb_e i) = nb_sq (nb_e i))) = true := by decide +kernel
theorem nb_sqA_eq (x : nb_F) : nb_sqA 6 x = nb_sq x := nb_basis (nb_sqA_lin 6) nb_sq_lin (fun i hi => of_decide_eq_true (List.all_eq_true.mp nb_sq_chk i (List.mem_range.mpr hi))) x
/-! powers -/
def nb_pow : Nat → nb_F → nb_F
  | 0, _ => 1
  | n + 1, a => nb_mul (nb_pow n a) a
