/-! polynomials through points: by divided differences, by products -/
/-- the same from the highest down: d of them from k on -/
def hv (p s : Nat → nb_F) (x : nb_F) : Nat → Nat → nb_F
  | 0, _ => 0
  | d + 1, k => nb_mul (hv p s x d (k + 1)) (x ^^^ p k) ^^^ s k
/-! by products: of the places of a set -/
def bN (j : Nat) : nb_F := BitVec.ofNat 64 j
