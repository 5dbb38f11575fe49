/-! how many bits: what the library and the model compute -/
theorem lN_ofnb (x : Int64) : x = lN (nb x).toNat := nb_inj (by show nb x = BitVec.ofNat 64 (nb x).toNat; rw [BitVec.ofNat_toNat, BitVec.setWidth_eq])
theorem lN_and (a b : Nat) : lN a &&& lN b = lN (a &&& b) := by
  apply nb_inj
  show BitVec.ofNat 64 a &&& BitVec.ofNat 64 b = BitVec.ofNat 64 (a &&& b)
  apply BitVec.eq_of_toNat_eq
  rw [BitVec.toNat_and, BitVec.toNat_ofNat, BitVec.toNat_ofNat, BitVec.toNat_ofNat, Nat.and_mod_two_pow]
theorem lN_shr {n k : Nat} (hn : n < 2 ^ 64) (hk : k < 64) : qo_lushr (lN n) (nI k) = lN (n / 2 ^ k) := by
  apply nb_inj
  rw [no_lushr _ hk]
  show BitVec.ofNat 64 n >>> k = BitVec.ofNat 64 (n / 2 ^ k)
  apply BitVec.eq_of_toNat_eq
  rw [BitVec.toNat_ushiftRight, BitVec.toNat_ofNat, BitVec.toNat_ofNat, Nat.shiftRight_eq_div_pow, Nat.mod_eq_of_lt hn, Nat.mod_eq_of_lt (Nat.lt_of_le_of_lt (Nat.div_le_self _ _) hn)]
theorem nu_bitCount (x : Int64) (m : qm_M) : F_JL_bitCount x m = some (some (.int (nI (pc 64 (nb x).toNat))), m) := by
  unfold F_JL_bitCount X_JL_bitCount_e
  obtain ⟨n, hx, rfl⟩ : ∃ n, n < 2 ^ 64 ∧ x = lN n := ⟨_, (nb x).isLt, lN_ofnb x⟩
  rw [nb_lN hx]
  obtain ⟨a, b, c, d, e, f, g, k, h1, h2, h3, h4, h5, h6, h7, h8, hL, hP⟩ := pc_L_eq n hx
  have hA : pc_A 6148914691236517205 n ≤ n := Nat.sub_le _ _
  have k1 : lN n - (qo_lushr (lN n) 1 &&& 6148914691236517205) = lN (pc_A 6148914691236517205 n) := by
    have e1 : qo_lushr (lN n) 1 = lN (n / 2) := lN_shr (k := 1) hx (by omega)
    have e2 : lN (n / 2) &&& 6148914691236517205 = lN (n / 2 &&& 6148914691236517205) := lN_and _ 6148914691236517205
    rw [e1, e2]
    exact lN_sub (Nat.le_trans Nat.and_le_left (Nat.div_le_self _ _))
  dsimp only
  rw [k1]
  have hB : pc_B 3689348814741910323 (pc_A 6148914691236517205 n) < 2 ^ 64 := by
    unfold pc_B
    have z1 : (pc_A 6148914691236517205 n &&& 3689348814741910323) ≤ 3689348814741910323 := Nat.and_le_right
    have z2 : (pc_A 6148914691236517205 n / 4 &&& 3689348814741910323) ≤ 3689348814741910323 := Nat.and_le_right
    omega
  generalize hAe : pc_A 6148914691236517205 n = A at hA hB ⊢
  have k2 : (lN A &&& 3689348814741910323) + (qo_lushr (lN A) 2 &&& 3689348814741910323) = lN (pc_B 3689348814741910323 A) := by
    have e1 : qo_lushr (lN A) 2 = lN (A / 4) := lN_shr (k := 2) (by omega) (by omega)
    have e2 : lN (A / 4) &&& 3689348814741910323 = lN (A / 4 &&& 3689348814741910323) := lN_and _ 3689348814741910323
    have e3 : lN A &&& 3689348814741910323 = lN (A &&& 3689348814741910323) := lN_and _ 3689348814741910323
    rw [e1, e2, e3]
    exact lN_add _ _
  rw [k2]
  generalize hBe : pc_B 3689348814741910323 A = B at hB ⊢
  have k3 : (lN B + qo_lushr (lN B) 4) &&& 1085102592571150095 = lN (pc_C 1085102592571150095 B) := by
    have e1 : qo_lushr (lN B) 4 = lN (B / 16) := lN_shr (k := 4) hB (by omega)
    rw [e1, lN_add]
    exact lN_and _ 1085102592571150095
  rw [k3]
  have hCe : pc_C 1085102592571150095 B = pc_v [a, b, c, d, e, f, g, k] := by rw [← hL, ← hBe, ← hAe]; rfl
  have hC : pc_C 1085102592571150095 B ≤ 1085102592571150095 := Nat.and_le_right
  generalize pc_C 1085102592571150095 B = C at hCe hC ⊢
  have e8 : qo_lushr (lN C) 8 = lN (C / 256) := lN_shr (k := 8) (by omega) (by omega)
  rw [e8, lN_add]
  have e16 : qo_lushr (lN (C + C / 256)) 16 = lN ((C + C / 256) / 65536) := lN_shr (k := 16) (by omega) (by omega)
  rw [e16, lN_add]
  have e32 : qo_lushr (lN (C + C / 256 + (C + C / 256) / 65536)) 32 = lN ((C + C / 256 + (C + C / 256) / 65536) / 4294967296) := lN_shr (k := 32) (by omega) (by omega)
  rw [e32, lN_add]
  have hF := pc_fold h1 h2 h3 h4 h5 h6 h7 h8 C (C + C / 256) (C + C / 256 + (C + C / 256) / 65536) hCe rfl rfl
  generalize C + C / 256 + (C + C / 256) / 65536 + (C + C / 256 + (C + C / 256) / 65536) / 4294967296 = F at hF ⊢
  rw [lN_i, pk_and (nI F) 7 (by decide)]
  have eF : (nI F).toBitVec.toNat = F % 2 ^ 32 := by
    show (BitVec.ofNat 32 F).toNat = _
    rw [BitVec.toNat_ofNat]
  have e7 : F % 2 ^ 32 % 2 ^ 7 = a + b + c + d + e + f + g + k := by rw [← hF.2]; omega
  rw [eF, hP, e7]
/-- of ints: up to twelve bits -/
theorem nu_bitCountI {n : Nat} (hn : n < 4096) (m : qm_M) : F_JI_bitCount (nI n) m = some (some (.int (nI (pc 12 n))), m) := by
  unfold F_JI_bitCount X_JI_bitCount_e
  have c : (List.range 64).all (fun a => (List.range 64).all (fun b =>
      let v0 := nI (64 * a + b)
      let x1 : Int32 := (v0 - ((qo_iushr v0 (1 : Int32)) &&& (1431655765 : Int32)))
      let x2 : Int32 := ((x1 &&& (858993459 : Int32)) + ((qo_iushr x1 (2 : Int32)) &&& (858993459 : Int32)))
      let x3 : Int32 := ((x2 + (qo_iushr x2 (4 : Int32))) &&& (252645135 : Int32))
      let x4 : Int32 := ((x3 + (qo_iushr x3 (8 : Int32))) + (qo_iushr (x3 + (qo_iushr x3 (8 : Int32))) (16 : Int32)))
      decide (x4 &&& (63 : Int32) = nI (pc 12 (64 * a + b))))) = true := by decide +kernel
  have c1 := of_decide_eq_true (List.all_eq_true.mp (List.all_eq_true.mp c (n / 64) (List.mem_range.mpr (by omega))) (n % 64) (List.mem_range.mpr (by omega)))
  rw [show 64 * (n / 64) + n % 64 = n by omega] at c1
  dsimp only
  rw [c1]
theorem pc_up {n k : Nat} : ∀ f, n < 2 ^ f → pc (f + k) n = pc f n
  | 0, h => by
    have e : n = 0 := by rw [Nat.pow_zero] at h; omega
    rw [e, pc_z, pc_z]
  | f + 1, h => by
    rw [Nat.pow_succ] at h
    rw [Nat.add_right_comm, pc_s, pc_s, pc_up f (by omega)]
