/-! what the Statement gives of the start -/
def R_law : String := "TurnFieldLaw"
def lw_P (b : Addr) (xs : List Int32) (args : Array Value) (s : State) : Prop := args = #[.ref b] ∧ s.IntsAt b xs ∧ xs.length ≤ 260 ∧ (Jvm.Cond.and given_1 narrow_1).before args s = true
def lw_Q (_ : Array Value) (s : State) (o : Outcome) (t : State) : Prop := o = .returned (some (.int 1)) ∧ Framed s o t [] 600000 7302250
def lw_Z (below : List Frame) (a : Array Value) (s : State) : State → Prop := fun t => ∃ o, t.status = .running ∧ Ended t below o ∧ lw_Q a s o t
/-- the law's own end, with 1 on the stack, nothing written that was there before, its room as the claim has it -/
theorem lw_ret {p : Program} {l : Launch} {e : Env} {s : State} {m : MethodId} {below : List Frame} {meth : Method} {c : Code} {b : Nat} (hx : p.tables.exec = Jvm.exec) (hb : c.code = code) (hr : meth.sig.returnType = ret) (hlocks : meth.locks = false) {pc : Nat} {H : Heap} {ls : Array Slot} (hdg : decode code pc = .ok (.ireturn, 1)) : W p l e room_1 s m #[Value.ref b] below meth c H [] 600000 7302250 (lw_Z below #[Value.ref b] s) (F0 m pc ls [.int 1]) := by
  intro T hT X
  obtain ⟨fs, hret, hrun, hended, hW, hframe⟩ := X.leave (v := some (.int 1)) (hlocks := hlocks) (fun h => by rw [hr] at h; cases h)
  have hmeth' : T.vm.method? m = some meth := X.method'
  refine ⟨T.setFrames fs, ?_, .returned (some (.int 1)), hrun, hended, rfl, ⟨_, rfl⟩, hW, hframe⟩
  jvm_step X.here [X.here.top, hx, hb, hdg, hmeth', hr, ret, narrow_b1]
  (try refine ⟨rfl, ?_⟩); (try refine ⟨rfl, ?_⟩)
  first | (intro acts; rw [hret _ acts rfl rfl rfl]) | rw [hret _ _ rfl rfl rfl]
  exact Steps.refl _
/-- what holds at the law's entry -/
def lw_At (p : Program) (s : State) (m : MethodId) (meth : Method) (c : Code) (b L : Nat) (xs : Nat → Int32) : Prop :=
  p.tables.exec = Jvm.exec ∧ c.code = code ∧ meth.sig.returnType = ret ∧ c.maxLocals = 13 ∧ s.vm.findClass R_law = some m.cls ∧ (∀ w ∈ lw_tbl, w.before #[Value.ref b] s = true) ∧ va_X b L xs s s.heap ∧ b < s.heap.size ∧ meth.locks = false ∧ (Jvm.Cond.and given_1 narrow_1).before #[Value.ref b] s = true ∧ meth.name = "law"
def zg_tms : List (String × Nat) := [("TurnField$Tape", 91), ("TurnField$Tape", 95), ("TurnField$Tape", 97), ("TurnField$Tape", 99), ("TurnField$Tape", 69), ("TurnFieldLaw", 138), ("TurnFieldLaw", 140), ("TurnFieldLaw", 148), ("TurnFieldLaw", 150)]
def zg_tm (i : Nat) : Term := .string (zg_tms.getD i ("", 0)).1 (zg_tms.getD i ("", 0)).2
theorem zg_strs {args : Array Value} {s : State} {A : Nat → Prop} (hs : ∀ c ∈ flatC (Jvm.Cond.and given_1 narrow_1), c.before args s = true) (hts : ∀ w ∈ lw_tbl, w.before args s = true) (hA : ∀ a : Nat, a < s.heap.size → ¬ A a) :
    ∃ adK adV : Nat → Nat, vk_S 9 [2, 5, 5, 4, 5, 1, 0, 2, 6] pm_wds adK adV A s s.heap ∧ ∀ r ∈ ps_sr, vk_R r.1 r.2.1 r.2.2.1 (adK (r.2.2.2 - 1000010)) s := by
  obtain ⟨adK, adV, h1, h2⟩ := vk_Sof (N := 9) (tm := zg_tm) (len := [2, 5, 5, 4, 5, 1, 0, 2, 6]) (byt := pm_wds) (A := A)
    (fun i hi => by
      have : (List.range 9).all (fun i => decide (([2, 5, 5, 4, 5, 1, 0, 2, 6] : List Nat).getD i 0 < 2 ^ 31)) = true := by decide +kernel
      exact of_decide_eq_true (List.all_eq_true.mp this i (List.mem_range.mpr hi)))
    (fun i hi => hs _ (by
      have : (List.range 9).all (fun i => decide ((Cond.exactly (zg_tm i) "java/lang/String") ∈ flatC (Jvm.Cond.and given_1 narrow_1))) = true := by decide +kernel
      exact of_decide_eq_true (List.all_eq_true.mp this i (List.mem_range.mpr hi))))
    (fun i hi => hs _ (by
      have : (List.range 9).all (fun i => decide ((Cond.eq (.field (zg_tm i) "java/lang/String" "coder" "B") (.int 0)) ∈ flatC (Jvm.Cond.and given_1 narrow_1))) = true := by decide +kernel
      exact of_decide_eq_true (List.all_eq_true.mp this i (List.mem_range.mpr hi))))
    (fun i hi => hs _ (by
      have : (List.range 9).all (fun i => decide ((Cond.arrayOf (.field (zg_tm i) "java/lang/String" "value" "[B") .byte) ∈ flatC (Jvm.Cond.and given_1 narrow_1))) = true := by decide +kernel
      exact of_decide_eq_true (List.all_eq_true.mp this i (List.mem_range.mpr hi))))
    (fun i hi => hs _ (by
      have : (List.range 9).all (fun i => decide ((Cond.eq (.length (.field (zg_tm i) "java/lang/String" "value" "[B")) (.int (Int32.ofNat (([2, 5, 5, 4, 5, 1, 0, 2, 6] : List Nat).getD i 0)))) ∈ flatC (Jvm.Cond.and given_1 narrow_1))) = true := by decide +kernel
      exact of_decide_eq_true (List.all_eq_true.mp this i (List.mem_range.mpr hi))))
    (fun i hi j hj => hs _ (by
      have : (List.range 9).all (fun i => (List.range (([2, 5, 5, 4, 5, 1, 0, 2, 6] : List Nat).getD i 0)).all (fun j => decide ((Cond.eq (.elem (.field (zg_tm i) "java/lang/String" "value" "[B") (.int (Int32.ofNat j))) (.int ((pm_wds.getD i []).getD j 0))) ∈ flatC (Jvm.Cond.and given_1 narrow_1)))) = true := by decide +kernel
      exact of_decide_eq_true (List.all_eq_true.mp (List.all_eq_true.mp this i (List.mem_range.mpr hi)) j (List.mem_range.mpr hj))))
    (fun i j hi hj hij => by
      have : (List.range 9).all (fun i => (List.range 9).all (fun j => Nat.beq i j || (decide ((Cond.not (.eq (zg_tm i) (zg_tm j))) ∈ flatC (Jvm.Cond.and given_1 narrow_1)) || decide ((Cond.not (.eq (zg_tm j) (zg_tm i))) ∈ flatC (Jvm.Cond.and given_1 narrow_1))))) = true := by decide +kernel
      have h := List.all_eq_true.mp (List.all_eq_true.mp this i (List.mem_range.mpr hi)) j (List.mem_range.mpr hj)
      rcases Bool.or_eq_true_iff.mp h with h | h
      · exact absurd (Nat.eq_of_beq_eq_true h) hij
      · rcases Bool.or_eq_true_iff.mp h with h | h
        · exact Or.inl (hs _ (of_decide_eq_true h))
        · exact Or.inr (hs _ (of_decide_eq_true h))) hA
  refine ⟨adK, adV, h1, fun r hr => ?_⟩
  simp only [ps_sr, List.mem_cons, List.not_mem_nil, or_false] at hr
  rcases hr with rfl | rfl | rfl | rfl | rfl | rfl | rfl | rfl | rfl | rfl | rfl | rfl | rfl
  · exact vk_R.of (hts (.stringRef "TurnField$Tape" 91 "up") (by decide +kernel)) (h2 0 (by decide))
  · exact vk_R.of (hts (.stringRef "TurnField$Tape" 95 "exact") (by decide +kernel)) (h2 1 (by decide))
  · exact vk_R.of (hts (.stringRef "TurnField$Tape" 97 "ruler") (by decide +kernel)) (h2 2 (by decide))
  · exact vk_R.of (hts (.stringRef "TurnField$Tape" 99 "near") (by decide +kernel)) (h2 3 (by decide))
  · exact vk_R.of (hts (.stringRef "TurnField$Tape" 69 "heads") (by decide +kernel)) (h2 4 (by decide))
  · exact vk_R.of (hts (.stringRef "TurnFieldLaw" 117 "up") (by decide +kernel)) (va_eqR (hs (.eq (.string "TurnField$Tape" 91) (.string "TurnFieldLaw" 117)) (by decide +kernel)) (h2 0 (by decide)))
  · exact vk_R.of (hts (.stringRef "TurnFieldLaw" 119 "exact") (by decide +kernel)) (va_eqR (hs (.eq (.string "TurnField$Tape" 95) (.string "TurnFieldLaw" 119)) (by decide +kernel)) (h2 1 (by decide)))
  · exact vk_R.of (hts (.stringRef "TurnFieldLaw" 121 "ruler") (by decide +kernel)) (va_eqR (hs (.eq (.string "TurnField$Tape" 97) (.string "TurnFieldLaw" 121)) (by decide +kernel)) (h2 2 (by decide)))
  · exact vk_R.of (hts (.stringRef "TurnFieldLaw" 123 "near") (by decide +kernel)) (va_eqR (hs (.eq (.string "TurnField$Tape" 99) (.string "TurnFieldLaw" 123)) (by decide +kernel)) (h2 3 (by decide)))
  · exact vk_R.of (hts (.stringRef "TurnFieldLaw" 138 " ") (by decide +kernel)) (h2 5 (by decide))
  · exact vk_R.of (hts (.stringRef "TurnFieldLaw" 140 "") (by decide +kernel)) (h2 6 (by decide))
  · exact vk_R.of (hts (.stringRef "TurnFieldLaw" 148 " ;") (by decide +kernel)) (h2 7 (by decide))
  · exact vk_R.of (hts (.stringRef "TurnFieldLaw" 150 "heads ") (by decide +kernel)) (h2 8 (by decide))
/-- a static table of longs -/
theorem zg_tab {args : Array Value} {s : State} {A : Nat → Prop} {C n : String} {N : Nat} {l : List Int64} (hs : ∀ c ∈ flatC (Jvm.Cond.and given_1 narrow_1), c.before args s = true) (hts : ∀ w ∈ lw_tbl, w.before args s = true) (hA : ∀ a : Nat, a < s.heap.size → ¬ A a) (hN : N < 2 ^ 31)
    (k1 : Cond.arrayOf (.static C n "[J") .long ∈ flatC (Jvm.Cond.and given_1 narrow_1)) (k2 : Cond.eq (.length (.static C n "[J")) (.int (Int32.ofNat N)) ∈ flatC (Jvm.Cond.and given_1 narrow_1))
    (k3 : (List.range N).all (fun j => decide (Cond.eq (.elem (.static C n "[J") (.int (Int32.ofNat j))) (.long (l.getD j 0)) ∈ flatC (Jvm.Cond.and given_1 narrow_1))) = true)
    (k4 : Cond.laysStatic C n "[J" ∈ lw_tbl) (k5 : Cond.initialized C ∈ lw_tbl) : ∃ t, va_T .long t N (fun j => .long (l.getD j 0)) A s s.heap ∧ va_Z C n "[J" (.ref t) A s s.heap := by
  obtain ⟨t, ht, hT⟩ := va_Tof (tm := .static C n "[J") (f := fun j => .long (l.getD j 0)) (A := A) hN (hs _ k1) (va_eqt (hs _ k2)) (fun j hj => va_eqtl (hs _ (of_decide_eq_true (List.all_eq_true.mp k3 j (List.mem_range.mpr hj))))) hA
  exact ⟨t, hT, va_Zref (hts _ k4) (hts _ k5) ht hA⟩
/-- a static table of bytes -/
theorem zg_tabb {args : Array Value} {s : State} {A : Nat → Prop} {C n : String} {N : Nat} {l : List Int32} (hs : ∀ c ∈ flatC (Jvm.Cond.and given_1 narrow_1), c.before args s = true) (hts : ∀ w ∈ lw_tbl, w.before args s = true) (hA : ∀ a : Nat, a < s.heap.size → ¬ A a) (hN : N < 2 ^ 31)
    (k1 : Cond.arrayOf (.static C n "[B") .byte ∈ flatC (Jvm.Cond.and given_1 narrow_1)) (k2 : Cond.eq (.length (.static C n "[B")) (.int (Int32.ofNat N)) ∈ flatC (Jvm.Cond.and given_1 narrow_1))
    (k3 : ∀ j, j < N → Cond.eq (.elem (.static C n "[B") (.int (Int32.ofNat j))) (.int (l.getD j 0)) ∈ flatC (Jvm.Cond.and given_1 narrow_1))
    (k4 : Cond.laysStatic C n "[B" ∈ lw_tbl) (k5 : Cond.initialized C ∈ lw_tbl) : ∃ t, va_T .byte t N (fun j => .int (l.getD j 0)) A s s.heap ∧ va_Z C n "[B" (.ref t) A s s.heap := by
  obtain ⟨t, ht, hT⟩ := va_Tof (tm := .static C n "[B") (f := fun j => .int (l.getD j 0)) (A := A) hN (hs _ k1) (va_eqt (hs _ k2)) (fun j hj => va_eqt (hs _ (k3 j hj))) hA
  exact ⟨t, hT, va_Zref (hts _ k4) (hts _ k5) ht hA⟩
theorem zg_arr {args : Array Value} {s : State} {ty : FieldType} (h : (Cond.arrayClass ty).before args s = true) (hp : ∀ c : ClassId, s.vm.findClass ("[" ++ ty.toString) = some c → va_RA s c ty) : ∃ c : ClassId, ArrOfT s c ty ∧ va_RA s c ty := by
  obtain ⟨c, k, comp, h1, h2, h3⟩ := Cond.arrayClass_spec h
  exact ⟨c, fun n z => ⟨fun k h => (by cases h), k, h2, comp, h3⟩, hp c h1⟩
theorem zg_K {args : Array Value} {s : State} (hts : ∀ w ∈ lw_tbl, w.before args s = true) : ∃ (D : va_G) (dA : Nat → ClassId), va_K D pt_cl (ps_tys dA) s := by
  have hT : ∀ w ∈ ps_T, w.before args s = true := fun w hw => sb_hts hts w (List.mem_filter.mp hw).1
  have h0 : ∀ c : Nat, ∃ z : ClassId × (Nat → Nat), ∀ q, pt_cl[c]? = some q → u_Kn s q.1 q.2.1 q.2.2 z.1 z.2 := fun c => by
    cases hc : pt_cl[c]? with
    | none => exact ⟨(0, fun _ => 0), fun q hq => by cases hq⟩
    | some q =>
      obtain ⟨CC, T, N⟩ := q
      obtain ⟨k1, k2, -⟩ := pk_all c CC T N hc
      obtain ⟨cC, iS, hK⟩ := u_known (C := CC) (T := T) (N := N) (n := N) hT k1 (hT _ k2.1)
      exact ⟨(cC, iS), fun q hq => by cases hq; exact hK⟩
  obtain ⟨ad, had⟩ := Classical.axiomOfChoice h0
  obtain ⟨c0, a0, r0⟩ := zg_arr (hts (.arrayClass .int) (by decide +kernel)) (fun c h => h)
  obtain ⟨c1, a1, r1⟩ := zg_arr (hts (.arrayClass .long) (by decide +kernel)) (fun c h => h)
  obtain ⟨c2, a2, r2⟩ := zg_arr (hts (.arrayClass .byte) (by decide +kernel)) (fun c h => h)
  obtain ⟨c3, a3, r3⟩ := zg_arr (hts (.arrayClass .boolean) (by decide +kernel)) (fun c h => h)
  obtain ⟨p4, c4, k4, e1, e2, e3, e4, e5⟩ := Cond.arrayOver_spec (hts (.arrayOver (.object "TurnField$Position")) (by decide +kernel))
  obtain ⟨p5, c5, k5, f1, f2, f3, f4, f5⟩ := arrayOverA_spec (hts (.arrayOver (.array .long)) (by decide +kernel))
  obtain ⟨p6, c6, k6, i1, i2, i3, i4, i5⟩ := arrayOverA_spec (hts (.arrayOver (.array .boolean)) (by decide +kernel))
  obtain ⟨p7, c7, k7, j1, j2, j3, j4, j5⟩ := Cond.arrayOver_spec (hts (.arrayOver (.object "java/lang/String")) (by decide +kernel))
  refine ⟨(fun c => (ad c).1, fun c => (ad c).2), fun k => [c0, c1, c2, c3, c4, c5, c6, c7].getD k c0, fun c q hq => had c q hq, fun k q hk => ?_⟩
  match k, hk with
  | 0, hk => cases hk; exact ⟨a0, r0⟩
  | 1, hk => cases hk; exact ⟨a1, r1⟩
  | 2, hk => cases hk; exact ⟨a2, r2⟩
  | 3, hk => cases hk; exact ⟨a3, r3⟩
  | 4, hk => cases hk; exact ⟨fun n z => ⟨fun k h => (by cases h), k4, e3, p4, e4⟩, k4, p4, e3, e4, e1, e5⟩
  | 5, hk => cases hk; exact ⟨fun n z => ⟨fun k h => (by cases h), k5, f3, p5, f4⟩, f5⟩
  | 6, hk => cases hk; exact ⟨fun n z => ⟨fun k h => (by cases h), k6, i3, p6, i4⟩, i5⟩
  | 7, hk => cases hk; exact ⟨fun n z => ⟨fun k h => (by cases h), k7, j3, p7, j4⟩, k7, p7, j3, j4, j1, j5⟩
  | k + 8, hk => simp [ps_tys] at hk
theorem zg_cut {l r : List Cond} {k n : Nat} (h : (l.drop k).take n = r) {c : Cond} (hc : c ∈ r) : c ∈ l := by
  rw [← h] at hc
  have h1 := List.mem_of_mem_take hc
  rw [← List.take_append_drop k l]
  exact List.mem_append_right _ h1
def zg_dig (n : String) (l : List Int32) : List Cond := (List.range 100).map (fun j => Cond.eq (.elem (.static "java/lang/Integer" n "[B") (.int (Int32.ofNat j))) (.int (l.getD j 0)))
theorem zg_ones : ((flatC (Jvm.Cond.and given_1 narrow_1)).drop 21).take 100 = zg_dig "DigitOnes" pm_ones := by decide +kernel
theorem zg_tens : ((flatC (Jvm.Cond.and given_1 narrow_1)).drop 124).take 100 = zg_dig "DigitTens" pm_tens := by decide +kernel
theorem zg_digm {n : String} {l : List Int32} {j : Nat} (h : j < 100) : Cond.eq (.elem (.static "java/lang/Integer" n "[B") (.int (Int32.ofNat j))) (.int (l.getD j 0)) ∈ zg_dig n l := List.mem_map.mpr ⟨j, List.mem_range.mpr h, rfl⟩
