/-! the class: roots read off in order -/
theorem bn_i32 (r : nb_F) : Int64.toInt32 (bn r) = nI r.toNat := by
  refine Int32.toBitVec_inj.1 (BitVec.eq_of_toNat_eq ?_)
  show (BitVec.signExtend 32 r).toNat = (BitVec.ofNat 32 r.toNat).toNat
  rw [BitVec.signExtend_eq_setWidth_of_le r (by omega), BitVec.toNat_setWidth, BitVec.toNat_ofNat]
