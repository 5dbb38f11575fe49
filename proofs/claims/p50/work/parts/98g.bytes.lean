/-! twenty characters as five ints, and back -/
theorem by_lo (Y : Nat) : ((nI Y).toInt8).toInt32 = sx (Y % 256) := by
  have e : (nI Y).toInt8 = Int8.ofNat (Y % 256) := Int8.toBitVec_inj.1 (by
    show (BitVec.ofNat 32 Y).signExtend 8 = BitVec.ofNat 8 (Y % 256)
    rw [BitVec.signExtend_eq_setWidth_of_le _ (by omega)]
    apply BitVec.eq_of_toNat_eq
    rw [BitVec.toNat_setWidth, BitVec.toNat_ofNat, BitVec.toNat_ofNat]
    omega)
  rw [e]
  exact (of_decide_eq_true (List.all_eq_true.mp sx_chk _ (List.mem_range.mpr (Nat.mod_lt _ (by decide))))).1
theorem by_sx : (List.range 256).all (fun u => decide (((sx u).toInt8).toInt32 = sx u)) = true := by decide +kernel
theorem by_byte {X j : Nat} (hX : X < 2 ^ 31) (hj : j < 4) : st_byte (nI X) j = sx (X / 2 ^ (24 - 8 * j) % 256) := by
  unfold st_byte
  rw [nI_shr hX (by omega), by_lo]
  exact of_decide_eq_true (List.all_eq_true.mp by_sx _ (List.mem_range.mpr (Nat.mod_lt _ (by decide))))
/-- the first j of the four characters of word w -/
def by_pk (t : Nat → Nat) (w : Nat) : Nat → Nat
  | 0 => 0
  | j + 1 => by_pk t w j * 256 + t (4 * w + j)
theorem by_lt {t : Nat → Nat} (ht : ∀ k, t k < 128) (w : Nat) : by_pk t w 1 < 2 ^ 7 ∧ by_pk t w 2 < 2 ^ 15 ∧ by_pk t w 3 < 2 ^ 23 ∧ by_pk t w 4 < 2 ^ 31 := by
  have h0 := ht (4 * w + 0)
  have h1 := ht (4 * w + 1)
  have h2 := ht (4 * w + 2)
  have h3 := ht (4 * w + 3)
  simp only [by_pk]
  omega
theorem by_at {t : Nat → Nat} (ht : ∀ k, t k < 128) (w : Nat) {j : Nat} (hj : j < 4) : by_pk t w 4 / 2 ^ (24 - 8 * j) % 256 = t (4 * w + j) := by
  have h0 := ht (4 * w + 0)
  have h1 := ht (4 * w + 1)
  have h2 := ht (4 * w + 2)
  have h3 := ht (4 * w + 3)
  simp only [by_pk]
  rcases (by omega : j = 0 ∨ j = 1 ∨ j = 2 ∨ j = 3) with rfl | rfl | rfl | rfl
  · show (_ / 2 ^ 24) % 256 = _; omega
  · show (_ / 2 ^ 16) % 256 = _; omega
  · show (_ / 2 ^ 8) % 256 = _; omega
  · show (_ / 2 ^ 0) % 256 = _; omega
/-- the ints after i characters -/
def by_g (t : Nat → Nat) : Nat → Nat → Int32
  | 0 => fun _ => 0
  | i + 1 => upd (by_g t i) (i / 4) (qo_ishl (by_g t i (i / 4)) 8 ||| nI (t i))
theorem by_eq {t : Nat → Nat} (ht : ∀ k, t k < 128) : ∀ i w, by_g t i w = nI (by_pk t w (min (i - 4 * w) 4))
  | 0, w => by
    show (0 : Int32) = _
    rw [Nat.zero_sub, Nat.zero_min]
    rfl
  | i + 1, w => by
    have ih := by_eq ht i
    show (if w = i / 4 then qo_ishl (by_g t i (i / 4)) 8 ||| nI (t i) else by_g t i w) = _
    by_cases q : w = i / 4
    · rw [if_pos q, ih, ← q]
      obtain ⟨l1, l2, l3, l4⟩ := by_lt ht w
      have hj : i - 4 * w < 4 := by omega
      have e1 : min (i - 4 * w) 4 = i - 4 * w := by omega
      have e2 : min (i + 1 - 4 * w) 4 = i - 4 * w + 1 := by omega
      have e3 : 4 * w + (i - 4 * w) = i := by omega
      rw [e1, e2]
      generalize i - 4 * w = j at *
      have ht' := ht i
      have sh : qo_ishl (nI (by_pk t w j)) 8 = nI (by_pk t w j * 2 ^ 8) := nI_shl (k := 8) (by omega)
      have hb : 2 ^ 8 * by_pk t w j + t i < 2 ^ 31 := by
        rcases (by omega : j = 0 ∨ j = 1 ∨ j = 2 ∨ j = 3) with rfl | rfl | rfl | rfl
        · have : by_pk t w 0 = 0 := rfl
          omega
        · omega
        · omega
        · have h4 : by_pk t w 4 = by_pk t w 3 * 256 + t (4 * w + 3) := rfl
          rw [e3] at h4
          omega
      have ho := nI_orP (i := 8) (a := by_pk t w j) (b := t i) (by omega) hb
      rw [sh, Nat.mul_comm, ho]
      show nI _ = nI (by_pk t w j * 256 + t (4 * w + j))
      rw [e3, Nat.mul_comm]
    · rw [if_neg q, ih]
      congr 2
      omega
/-- what a block tells -/
theorem by_feed {t : Nat → Nat} (ht : ∀ k, t k < 128) {s : sT} {k : Nat} (hk : k < 20) : (st_feed s (by_g t 20 0) (by_g t 20 1) (by_g t 20 2) (by_g t 20 3) (by_g t 20 4)).2.2.2.2 (s.2.2.2.1 + k) = sx (t k) := by
  show (if s.2.2.2.1 ≤ s.2.2.2.1 + k then st_byte (st_arg (by_g t 20 0) (by_g t 20 1) (by_g t 20 2) (by_g t 20 3) (by_g t 20 4) (s.2.2.2.1 + k - s.2.2.2.1)) ((s.2.2.2.1 + k - s.2.2.2.1) % 4) else _) = _
  rw [if_pos (by omega), Nat.add_sub_cancel_left]
  have ea : st_arg (by_g t 20 0) (by_g t 20 1) (by_g t 20 2) (by_g t 20 3) (by_g t 20 4) k = by_g t 20 (k / 4) := by
    unfold st_arg
    by_cases q0 : k < 4
    · rw [if_pos q0, show k / 4 = 0 by omega]
    · rw [if_neg q0]
      by_cases q1 : k < 8
      · rw [if_pos q1, show k / 4 = 1 by omega]
      · rw [if_neg q1]
        by_cases q2 : k < 12
        · rw [if_pos q2, show k / 4 = 2 by omega]
        · rw [if_neg q2]
          by_cases q3 : k < 16
          · rw [if_pos q3, show k / 4 = 3 by omega]
          · rw [if_neg q3, show k / 4 = 4 by omega]
  obtain ⟨-, -, -, l4⟩ := by_lt ht (k / 4)
  rw [ea, by_eq ht, show min (20 - 4 * (k / 4)) 4 = 4 by omega, by_byte l4 (by omega), by_at ht _ (by omega), show 4 * (k / 4) + k % 4 = k by omega]
theorem by_chr : (List.range 128).all (fun t => decide (qo_i2c (nI t &&& (Int16.ofInt 255).toInt32) = nI t)) = true := by decide +kernel
theorem by_c {t : Nat} (h : t < 128) : qo_i2c (nI t &&& (Int16.ofInt 255).toInt32) = nI t := of_decide_eq_true (List.all_eq_true.mp by_chr t (List.mem_range.mpr h))
theorem by_d4 : (List.range 20).all (fun i => decide (nI i / Int32.ofInt 4 = nI (i / 4))) = true := by decide +kernel
theorem by_4 {i : Nat} (h : i < 20) : nI i / Int32.ofInt 4 = nI (i / 4) := of_decide_eq_true (List.all_eq_true.mp by_d4 i (List.mem_range.mpr h))
