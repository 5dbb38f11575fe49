/-! the class's state behind its constructor -/
def zi_l : List Int64 := [3, 3, 0, 0, 2, 2, 0, 0, 0, 0, 0, 0, 0, 0, 0, 1, 1]
def zi_P : sP := fun k => qm_nth zi_l k 0
theorem zi_Pok : px_ok zi_P := ⟨3, 3, 0, 0, 2, 2, 1, 1, by decide, ⟨rfl, rfl, rfl, rfl, rfl, rfl, rfl, rfl⟩, fun i hi => by
  have e : nb (zi_P 6) = 0#64 := rfl
  rw [e, BitVec.getLsbD_zero] at hi
  cases hi⟩
def zi_T : sT := (zi_P, (0, fun _ => zi_P), (fun _ => false, fun _ => zi_P), (0, fun _ => 0))
theorem zi_chk : (List.range 33).all (fun k => decide (px_c qm_m1 1 k = zi_P k)) = true := by decide +kernel
theorem zi_shl : (List.range 2).all (fun z => decide (qm_m1.1 (37 + 3 * z) 11 = 0)) = true := by decide +kernel
theorem zi_one : qm_m1.1 4 1 = 0 ∧ qm_m1.1 4 2 = 0 ∧ qm_m1.1 43 2 = 0 ∧ qm_m1.1 52 0 = 0 ∧ qm_m1.1 49 4 = -1 ∧ qm_m1.1 57 0 = 0 ∧ qm_m1.1 54 4 = -1 ∧ qm_m1.1 48 3 = -1 ∧ qm_m1.1 60 3 = -1 := by decide +kernel
theorem zi_59 (x : Nat) : qm_m1.1 59 x = 0 := rfl
theorem zi_CI : CI qm_m1 zi_T := by
  obtain ⟨o1, o2, o3, o6, o7, o8, o9, o10, o11⟩ := zi_one
  have hno : ∀ z, ¬ zi_T.2.2.1.1 z = true := fun z q => absurd (show false = true from q) (by decide)
  refine ⟨⟨fun k hk => of_decide_eq_true (List.all_eq_true.mp zi_chk k (List.mem_range.mpr hk)), ⟨0, by omega, ?_, ?_, fun i hi => absurd hi (Nat.not_lt_zero _)⟩, fun z hz => ⟨?_, fun q => absurd q (hno z)⟩, ?_, fun k hk => absurd hk (Nat.not_lt_zero _)⟩, ?_, ?_⟩
  · rw [o1]
    rfl
  · rw [o2]
    rfl
  · rw [if_neg (hno z)]
    exact of_decide_eq_true (List.all_eq_true.mp zi_shl z (List.mem_range.mpr hz))
  · rw [o3]
    rfl
  · exact ⟨⟨o6, Or.inl o7⟩, ⟨o8, Or.inl o9⟩, fun x _ => ⟨zi_59 _, zi_59 _⟩, Or.inl o10⟩
  · exact ⟨zi_Pok, Nat.zero_le 10, fun i hi => absurd hi (Nat.not_lt_zero _), fun z _ q => absurd q (hno z), Nat.zero_le 120, fun k hk => absurd hk (Nat.not_lt_zero _)⟩
theorem zi_Le : cvLe qm_m1 := Or.inl zi_one.2.2.2.2.2.2.2.2
theorem zi_s0 : s0ok zi_T := ⟨⟨by decide +kernel, by decide +kernel⟩, fun j hj => (show ∀ j, j < 2 → bK zi_T.1 j = 0 ∧ bL zi_T.1 j = 2 by decide +kernel) j hj, rfl, rfl, rfl, rfl⟩
theorem zi_hp : ∀ k c, k < 112 → (qm_hp qm_m1)[k]? = some c → qa_h64[k]? = some c := fun k c hk h => by
  rw [qa_m1_eq, List.getElem?_take, if_pos hk]
  exact h
theorem zi_len : qa_h64.length = 112 := by
  rw [qa_m1_eq, List.length_take, qm_hp_len]
  rfl
set_option maxRecDepth 100000 in
theorem zi_sl : pm_sl qa_h64 = 14150 := by decide +kernel
/-- the law, on any script, ends with true -/
theorem zi_law (kp : pm_K) (hkp : kp.1 < 2 ^ 31) : pm_W kp md_L_law (pm_X kp 43) 2000 40000 (fun r _ => r = some (.int 1)) 0 [(0, .ref 1000000)] [] [] :=
  ct_law (kp := kp) 40 (lw_head (kp := kp) (d := 3) hkp zi_hp zi_len (by rw [zi_sl]; decide) zi_CI zi_Le zi_s0)
