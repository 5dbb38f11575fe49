theorem pk_u0 : (List.range 6).all (fun k => ps_w ([364, 366, 368, 370, 372, 374].getD k 0) (u_lay "TurnField$Curve" pt_T0 k)) = true := by decide +kernel
theorem pk_v0 : ps_w 353 (.instantiable "TurnField$Curve" 6) = true ∧ ps_w 34 (.initialized "TurnField$Curve") = true := by decide +kernel
theorem pk_x0 : (∀ k, k < 6 → parseFieldDescriptor (pt_T0 k).2.2.1 = some (pt_t0 k)) ∧ (∀ a, a < 6 → ∀ b, b < 6 → a ≠ b → (pt_T0 a).2.1 ≠ (pt_T0 b).2.1) ∧ (∀ k, k < 6 → (pt_T0 k).2.2.2 = true → (pt_T0 k).1 = "TurnField$Curve") := by decide +kernel
theorem pk_n0 : pm_new 0 = none ∨ ∃ fs, pm_new 0 = some fs ∧ fs.length = 6 ∧ ∀ j, j < 6 → defaultValue (pt_t0 j) = vp_V fs j := Or.inr ⟨_, rfl, rfl, by decide +kernel⟩
theorem pk_u1 : (List.range 10).all (fun k => ps_w ([245, 247, 249, 251, 253, 255, 257, 259, 261, 263].getD k 0) (u_lay "TurnField$Lengths" pt_T1 k)) = true := by decide +kernel
theorem pk_v1 : ps_w 230 (.instantiable "TurnField$Lengths" 10) = true ∧ ps_w 30 (.initialized "TurnField$Lengths") = true := by decide +kernel
theorem pk_x1 : (∀ k, k < 10 → parseFieldDescriptor (pt_T1 k).2.2.1 = some (pt_t1 k)) ∧ (∀ a, a < 10 → ∀ b, b < 10 → a ≠ b → (pt_T1 a).2.1 ≠ (pt_T1 b).2.1) ∧ (∀ k, k < 10 → (pt_T1 k).2.2.2 = true → (pt_T1 k).1 = "TurnField$Lengths") := by decide +kernel
theorem pk_n1 : pm_new 1 = none ∨ ∃ fs, pm_new 1 = some fs ∧ fs.length = 10 ∧ ∀ j, j < 10 → defaultValue (pt_t1 j) = vp_V fs j := Or.inr ⟨_, rfl, rfl, by decide +kernel⟩
theorem pk_u2 : (List.range 3).all (fun k => ps_w ([138, 140, 142].getD k 0) (u_lay "TurnField$Past" pt_T2 k)) = true := by decide +kernel
theorem pk_v2 : ps_w 126 (.instantiable "TurnField$Past" 3) = true ∧ ps_w 26 (.initialized "TurnField$Past") = true := by decide +kernel
theorem pk_x2 : (∀ k, k < 3 → parseFieldDescriptor (pt_T2 k).2.2.1 = some (pt_t2 k)) ∧ (∀ a, a < 3 → ∀ b, b < 3 → a ≠ b → (pt_T2 a).2.1 ≠ (pt_T2 b).2.1) ∧ (∀ k, k < 3 → (pt_T2 k).2.2.2 = true → (pt_T2 k).1 = "TurnField$Past") := by decide +kernel
theorem pk_n2 : pm_new 2 = none ∨ ∃ fs, pm_new 2 = some fs ∧ fs.length = 3 ∧ ∀ j, j < 3 → defaultValue (pt_t2 j) = vp_V fs j := Or.inr ⟨_, rfl, rfl, by decide +kernel⟩
theorem pk_u3 : (List.range 7).all (fun k => ps_w ([214, 216, 218, 220, 222, 224, 226].getD k 0) (u_lay "TurnField$Play" pt_T3 k)) = true := by decide +kernel
theorem pk_v3 : ps_w 173 (.instantiable "TurnField$Play" 7) = true ∧ ps_w 28 (.initialized "TurnField$Play") = true := by decide +kernel
theorem pk_x3 : (∀ k, k < 7 → parseFieldDescriptor (pt_T3 k).2.2.1 = some (pt_t3 k)) ∧ (∀ a, a < 7 → ∀ b, b < 7 → a ≠ b → (pt_T3 a).2.1 ≠ (pt_T3 b).2.1) ∧ (∀ k, k < 7 → (pt_T3 k).2.2.2 = true → (pt_T3 k).1 = "TurnField$Play") := by decide +kernel
theorem pk_n3 : pm_new 3 = none ∨ ∃ fs, pm_new 3 = some fs ∧ fs.length = 7 ∧ ∀ j, j < 7 → defaultValue (pt_t3 j) = vp_V fs j := Or.inr ⟨_, rfl, rfl, by decide +kernel⟩
theorem pk_u4 : (List.range 15).all (fun k => ps_w ([321, 323, 325, 327, 329, 331, 333, 335, 337, 339, 341, 343, 345, 347, 349].getD k 0) (u_lay "TurnField$Polynomials" pt_T4 k)) = true := by decide +kernel
theorem pk_v4 : ps_w 299 (.instantiable "TurnField$Polynomials" 15) = true ∧ ps_w 33 (.initialized "TurnField$Polynomials") = true := by decide +kernel
theorem pk_x4 : (∀ k, k < 15 → parseFieldDescriptor (pt_T4 k).2.2.1 = some (pt_t4 k)) ∧ (∀ a, a < 15 → ∀ b, b < 15 → a ≠ b → (pt_T4 a).2.1 ≠ (pt_T4 b).2.1) ∧ (∀ k, k < 15 → (pt_T4 k).2.2.2 = true → (pt_T4 k).1 = "TurnField$Polynomials") := by decide +kernel
theorem pk_n4 : pm_new 4 = none ∨ ∃ fs, pm_new 4 = some fs ∧ fs.length = 15 ∧ ∀ j, j < 15 → defaultValue (pt_t4 j) = vp_V fs j := Or.inr ⟨_, rfl, rfl, by decide +kernel⟩
theorem pk_u5 : (List.range 12).all (fun k => ps_w ([99, 101, 103, 105, 107, 109, 111, 113, 115, 117, 119, 121].getD k 0) (u_lay "TurnField$Position" pt_T5 k)) = true := by decide +kernel
theorem pk_v5 : ps_w 58 (.instantiable "TurnField$Position" 12) = true ∧ ps_w 25 (.initialized "TurnField$Position") = true := by decide +kernel
theorem pk_x5 : (∀ k, k < 12 → parseFieldDescriptor (pt_T5 k).2.2.1 = some (pt_t5 k)) ∧ (∀ a, a < 12 → ∀ b, b < 12 → a ≠ b → (pt_T5 a).2.1 ≠ (pt_T5 b).2.1) ∧ (∀ k, k < 12 → (pt_T5 k).2.2.2 = true → (pt_T5 k).1 = "TurnField$Position") := by decide +kernel
theorem pk_n5 : pm_new 5 = none ∨ ∃ fs, pm_new 5 = some fs ∧ fs.length = 12 ∧ ∀ j, j < 12 → defaultValue (pt_t5 j) = vp_V fs j := Or.inr ⟨_, rfl, rfl, by decide +kernel⟩
theorem pk_u6 : (List.range 6).all (fun k => ps_w ([190, 192, 194, 196, 198, 200].getD k 0) (u_lay "TurnField$Rule" pt_T6 k)) = true := by decide +kernel
theorem pk_v6 : ps_w 179 (.instantiable "TurnField$Rule" 6) = true ∧ ps_w 29 (.initialized "TurnField$Rule") = true := by decide +kernel
theorem pk_x6 : (∀ k, k < 6 → parseFieldDescriptor (pt_T6 k).2.2.1 = some (pt_t6 k)) ∧ (∀ a, a < 6 → ∀ b, b < 6 → a ≠ b → (pt_T6 a).2.1 ≠ (pt_T6 b).2.1) ∧ (∀ k, k < 6 → (pt_T6 k).2.2.2 = true → (pt_T6 k).1 = "TurnField$Rule") := by decide +kernel
theorem pk_n6 : pm_new 6 = none ∨ ∃ fs, pm_new 6 = some fs ∧ fs.length = 6 ∧ ∀ j, j < 6 → defaultValue (pt_t6 j) = vp_V fs j := Or.inr ⟨_, rfl, rfl, by decide +kernel⟩
theorem pk_u7 : (List.range 2).all (fun k => ps_w ([274, 276].getD k 0) (u_lay "TurnField$Span" pt_T7 k)) = true := by decide +kernel
theorem pk_v7 : ps_w 267 (.instantiable "TurnField$Span" 2) = true ∧ ps_w 31 (.initialized "TurnField$Span") = true := by decide +kernel
theorem pk_x7 : (∀ k, k < 2 → parseFieldDescriptor (pt_T7 k).2.2.1 = some (pt_t7 k)) ∧ (∀ a, a < 2 → ∀ b, b < 2 → a ≠ b → (pt_T7 a).2.1 ≠ (pt_T7 b).2.1) ∧ (∀ k, k < 2 → (pt_T7 k).2.2.2 = true → (pt_T7 k).1 = "TurnField$Span") := by decide +kernel
theorem pk_n7 : pm_new 7 = none ∨ ∃ fs, pm_new 7 = some fs ∧ fs.length = 2 ∧ ∀ j, j < 2 → defaultValue (pt_t7 j) = vp_V fs j := Or.inr ⟨_, rfl, rfl, by decide +kernel⟩
theorem pk_u8 : (List.range 4).all (fun k => ps_w ([289, 291, 293, 295].getD k 0) (u_lay "TurnField$Steps" pt_T8 k)) = true := by decide +kernel
theorem pk_v8 : ps_w 280 (.instantiable "TurnField$Steps" 4) = true ∧ ps_w 32 (.initialized "TurnField$Steps") = true := by decide +kernel
theorem pk_x8 : (∀ k, k < 4 → parseFieldDescriptor (pt_T8 k).2.2.1 = some (pt_t8 k)) ∧ (∀ a, a < 4 → ∀ b, b < 4 → a ≠ b → (pt_T8 a).2.1 ≠ (pt_T8 b).2.1) ∧ (∀ k, k < 4 → (pt_T8 k).2.2.2 = true → (pt_T8 k).1 = "TurnField$Steps") := by decide +kernel
theorem pk_n8 : pm_new 8 = none ∨ ∃ fs, pm_new 8 = some fs ∧ fs.length = 4 ∧ ∀ j, j < 4 → defaultValue (pt_t8 j) = vp_V fs j := Or.inr ⟨_, rfl, rfl, by decide +kernel⟩
theorem pk_u9 : (List.range 5).all (fun k => ps_w ([160, 162, 164, 166, 168].getD k 0) (u_lay "TurnField$Tape" pt_T9 k)) = true := by decide +kernel
theorem pk_v9 : ps_w 146 (.instantiable "TurnField$Tape" 5) = true ∧ ps_w 27 (.initialized "TurnField$Tape") = true := by decide +kernel
theorem pk_x9 : (∀ k, k < 5 → parseFieldDescriptor (pt_T9 k).2.2.1 = some (pt_t9 k)) ∧ (∀ a, a < 5 → ∀ b, b < 5 → a ≠ b → (pt_T9 a).2.1 ≠ (pt_T9 b).2.1) ∧ (∀ k, k < 5 → (pt_T9 k).2.2.2 = true → (pt_T9 k).1 = "TurnField$Tape") := by decide +kernel
theorem pk_n9 : pm_new 9 = none ∨ ∃ fs, pm_new 9 = some fs ∧ fs.length = 5 ∧ ∀ j, j < 5 → defaultValue (pt_t9 j) = vp_V fs j := Or.inr ⟨_, rfl, rfl, by decide +kernel⟩
theorem pk_u10 : (List.range 10).all (fun k => ps_w ([387, 389, 391, 393, 395, 397, 399, 401, 403, 405].getD k 0) (u_lay "TurnField" pt_T10 k)) = true := by decide +kernel
theorem pk_v10 : ps_w 50 (.instantiable "TurnField" 10) = true ∧ ps_w 24 (.initialized "TurnField") = true := by decide +kernel
theorem pk_x10 : (∀ k, k < 10 → parseFieldDescriptor (pt_T10 k).2.2.1 = some (pt_t10 k)) ∧ (∀ a, a < 10 → ∀ b, b < 10 → a ≠ b → (pt_T10 a).2.1 ≠ (pt_T10 b).2.1) ∧ (∀ k, k < 10 → (pt_T10 k).2.2.2 = true → (pt_T10 k).1 = "TurnField") := by decide +kernel
theorem pk_n10 : pm_new 10 = none ∨ ∃ fs, pm_new 10 = some fs ∧ fs.length = 10 ∧ ∀ j, j < 10 → defaultValue (pt_t10 j) = vp_V fs j := Or.inr ⟨_, rfl, rfl, by decide +kernel⟩
theorem pk_u11 : (List.range 4).all (fun k => ps_w ([769, 771, 773, 775].getD k 0) (u_lay "TurnFieldLaw$Board" pt_T11 k)) = true := by decide +kernel
theorem pk_v11 : ps_w 754 (.instantiable "TurnFieldLaw$Board" 4) = true ∧ ps_w 35 (.initialized "TurnFieldLaw$Board") = true := by decide +kernel
theorem pk_x11 : (∀ k, k < 4 → parseFieldDescriptor (pt_T11 k).2.2.1 = some (pt_t11 k)) ∧ (∀ a, a < 4 → ∀ b, b < 4 → a ≠ b → (pt_T11 a).2.1 ≠ (pt_T11 b).2.1) ∧ (∀ k, k < 4 → (pt_T11 k).2.2.2 = true → (pt_T11 k).1 = "TurnFieldLaw$Board") := by decide +kernel
theorem pk_n11 : pm_new 11 = none ∨ ∃ fs, pm_new 11 = some fs ∧ fs.length = 4 ∧ ∀ j, j < 4 → defaultValue (pt_t11 j) = vp_V fs j := Or.inr ⟨_, rfl, rfl, by decide +kernel⟩
theorem pk_u12 : (List.range 4).all (fun k => ps_w ([920, 922, 924, 926].getD k 0) (u_lay "java/lang/StringBuilder" pt_T12 k)) = true := by decide +kernel
theorem pk_v12 : ps_w 901 (.instantiable "java/lang/StringBuilder" 4) = true ∧ ps_w 41 (.initialized "java/lang/StringBuilder") = true := by decide +kernel
theorem pk_x12 : (∀ k, k < 4 → parseFieldDescriptor (pt_T12 k).2.2.1 = some (pt_t12 k)) ∧ (∀ a, a < 4 → ∀ b, b < 4 → a ≠ b → (pt_T12 a).2.1 ≠ (pt_T12 b).2.1) ∧ (∀ k, k < 4 → (pt_T12 k).2.2.2 = true → (pt_T12 k).1 = "java/lang/StringBuilder") := by decide +kernel
theorem pk_n12 : pm_new 12 = none ∨ ∃ fs, pm_new 12 = some fs ∧ fs.length = 4 ∧ ∀ j, j < 4 → defaultValue (pt_t12 j) = vp_V fs j := Or.inr ⟨_, rfl, rfl, by decide +kernel⟩
theorem pk_lay {C : String} {T : u_T} {N : Nat} {pl : List Nat} (h : (List.range N).all (fun k => ps_w (pl.getD k 0) (u_lay C T k)) = true) : ∀ w ∈ u_ws C T N, w ∈ ps_T := by
  intro w hw
  unfold u_ws at hw
  obtain ⟨k, hk, rfl⟩ := List.mem_map.mp hw
  exact ps_w_in (List.all_eq_true.mp h k hk)
/-- what is known of the classes -/
def pk_C (ci : Nat) (C : String) (T : u_T) (N : Nat) : Prop := (∀ w ∈ u_ws C T N, w ∈ ps_T) ∧ (Jvm.Cond.instantiable C N ∈ ps_T ∧ Jvm.Cond.initialized C ∈ ps_T) ∧
  ((∀ k, k < N → parseFieldDescriptor (T k).2.2.1 = some (pm_tyk ci k)) ∧ (∀ a, a < N → ∀ b, b < N → a ≠ b → (T a).2.1 ≠ (T b).2.1) ∧ (∀ k, k < N → (T k).2.2.2 = true → (T k).1 = C)) ∧
  (pm_new ci = none ∨ ∃ fs, pm_new ci = some fs ∧ fs.length = N ∧ ∀ j, j < N → defaultValue (pm_tyk ci j) = vp_V fs j)
theorem pk_all : ∀ (ci : Nat) (C : String) (T : u_T) (N : Nat), pt_cl[ci]? = some (C, T, N) → pk_C ci C T N := by
  intro ci C T N h
  match ci, h with
  | 0, h => cases h; exact ⟨pk_lay pk_u0, ⟨ps_w_in pk_v0.1, ps_w_in pk_v0.2⟩, pk_x0, pk_n0⟩
  | 1, h => cases h; exact ⟨pk_lay pk_u1, ⟨ps_w_in pk_v1.1, ps_w_in pk_v1.2⟩, pk_x1, pk_n1⟩
  | 2, h => cases h; exact ⟨pk_lay pk_u2, ⟨ps_w_in pk_v2.1, ps_w_in pk_v2.2⟩, pk_x2, pk_n2⟩
  | 3, h => cases h; exact ⟨pk_lay pk_u3, ⟨ps_w_in pk_v3.1, ps_w_in pk_v3.2⟩, pk_x3, pk_n3⟩
  | 4, h => cases h; exact ⟨pk_lay pk_u4, ⟨ps_w_in pk_v4.1, ps_w_in pk_v4.2⟩, pk_x4, pk_n4⟩
  | 5, h => cases h; exact ⟨pk_lay pk_u5, ⟨ps_w_in pk_v5.1, ps_w_in pk_v5.2⟩, pk_x5, pk_n5⟩
  | 6, h => cases h; exact ⟨pk_lay pk_u6, ⟨ps_w_in pk_v6.1, ps_w_in pk_v6.2⟩, pk_x6, pk_n6⟩
  | 7, h => cases h; exact ⟨pk_lay pk_u7, ⟨ps_w_in pk_v7.1, ps_w_in pk_v7.2⟩, pk_x7, pk_n7⟩
  | 8, h => cases h; exact ⟨pk_lay pk_u8, ⟨ps_w_in pk_v8.1, ps_w_in pk_v8.2⟩, pk_x8, pk_n8⟩
  | 9, h => cases h; exact ⟨pk_lay pk_u9, ⟨ps_w_in pk_v9.1, ps_w_in pk_v9.2⟩, pk_x9, pk_n9⟩
  | 10, h => cases h; exact ⟨pk_lay pk_u10, ⟨ps_w_in pk_v10.1, ps_w_in pk_v10.2⟩, pk_x10, pk_n10⟩
  | 11, h => cases h; exact ⟨pk_lay pk_u11, ⟨ps_w_in pk_v11.1, ps_w_in pk_v11.2⟩, pk_x11, pk_n11⟩
  | 12, h => cases h; exact ⟨pk_lay pk_u12, ⟨ps_w_in pk_v12.1, ps_w_in pk_v12.2⟩, pk_x12, pk_n12⟩
  | k + 13, h => simp [pt_cl] at h
