section PSF
variable {p : Program} {l : Launch} {e : Env} {R : Room} {s : State} {m : MethodId} {args : Array Value} {below : List Frame} {meth : Method} {c : Code} {md : pm_M} {kp : pm_K} {base : Nat} {adk : Nat → Nat} {nf : Value} {D : va_G} {dA : Nat → ClassId} {hb sb h0 s0 : Nat} {C : pm_C} {rr : Option Value} {hh1 : pm_H} {mc ms : Nat}
theorem ps_all_Q {QQ : State → Prop} {Q : Option Value → pm_H → Prop} (hall : ∀ md ∈ pt_M, ps_own md) (hCS : ∃ d, ps_CS l kp base adk nf D dA d C ∧ d + 1 ≤ R.frames ∧ 59 + 60 * d ≤ R.locals) (E : ps_E p R s m args meth c md kp base adk nf D dA hb sb h0 s0)
    (g_irt : pr_irt kp md C hb sb Q (ps_PP p l e R s m args below meth c QQ md base adk nf D dA hb sb h0 s0)) (g_lrt : pr_lrt kp md C hb sb Q (ps_PP p l e R s m args below meth c QQ md base adk nf D dA hb sb h0 s0))
    (g_art : pr_art kp md C hb sb Q (ps_PP p l e R s m args below meth c QQ md base adk nf D dA hb sb h0 s0)) (g_vrt : pr_vrt kp md C hb sb Q (ps_PP p l e R s m args below meth c QQ md base adk nf D dA hb sb h0 s0)) :
    pm_R kp md C hb sb Q (ps_PP p l e R s m args below meth c QQ md base adk nf D dA hb sb h0 s0) :=
  ⟨ps_cst E, ps_ldc E, ps_ld E, ps_sto E, ps_bop E, ps_dop E, ps_uop E, ps_sop E, ps_inc E, ps_goto E, ps_ifc E, ps_icm E, ps_tso E, ps_tsi E, ps_lsw E, ps_get E, ps_gek E, ps_put E, ps_puf E, ps_ial E, ps_bal E, ps_zal E, ps_lal E, ps_aal E, ps_kil E, ps_kbl E, ps_kll E, ps_kle E, ps_ias E, ps_bas E, ps_zas E, ps_las E, ps_aas E, ps_len1 E, ps_new E, ps_nwa E, ps_nwr E, ps_nwm E, ps_cls hall hCS E, ps_clv hall hCS E, ps_clk hall hCS E, ps_mmx E, ps_mmn E, ps_obj E, g_irt, g_lrt, g_art, g_vrt, ps_gst E, ps_sub E⟩
end PSF
theorem pm_mono {kp : pm_K} {md : pm_M} {C : pm_C} {hb sb : Nat} {Q Q2 : Option Value → pm_H → Prop} {pc : Nat} {lv : pm_L} {st : List Value} {h : pm_H} (hq : ∀ r h, Q r h → Q2 r h) (w : pm_W kp md C hb sb Q pc lv st h) : pm_W kp md C hb sb Q2 pc lv st h := fun P R => w P ⟨R.1, R.2.1, R.2.2.1, R.2.2.2.1, R.2.2.2.2.1, R.2.2.2.2.2.1, R.2.2.2.2.2.2.1, R.2.2.2.2.2.2.2.1, R.2.2.2.2.2.2.2.2.1, R.2.2.2.2.2.2.2.2.2.1, R.2.2.2.2.2.2.2.2.2.2.1, R.2.2.2.2.2.2.2.2.2.2.2.1, R.2.2.2.2.2.2.2.2.2.2.2.2.1, R.2.2.2.2.2.2.2.2.2.2.2.2.2.1, R.2.2.2.2.2.2.2.2.2.2.2.2.2.2.1, R.2.2.2.2.2.2.2.2.2.2.2.2.2.2.2.1, R.2.2.2.2.2.2.2.2.2.2.2.2.2.2.2.2.1, R.2.2.2.2.2.2.2.2.2.2.2.2.2.2.2.2.2.1, R.2.2.2.2.2.2.2.2.2.2.2.2.2.2.2.2.2.2.1, R.2.2.2.2.2.2.2.2.2.2.2.2.2.2.2.2.2.2.2.1, R.2.2.2.2.2.2.2.2.2.2.2.2.2.2.2.2.2.2.2.2.1, R.2.2.2.2.2.2.2.2.2.2.2.2.2.2.2.2.2.2.2.2.2.1, R.2.2.2.2.2.2.2.2.2.2.2.2.2.2.2.2.2.2.2.2.2.2.1, R.2.2.2.2.2.2.2.2.2.2.2.2.2.2.2.2.2.2.2.2.2.2.2.1, R.2.2.2.2.2.2.2.2.2.2.2.2.2.2.2.2.2.2.2.2.2.2.2.2.1, R.2.2.2.2.2.2.2.2.2.2.2.2.2.2.2.2.2.2.2.2.2.2.2.2.2.1, R.2.2.2.2.2.2.2.2.2.2.2.2.2.2.2.2.2.2.2.2.2.2.2.2.2.2.1, R.2.2.2.2.2.2.2.2.2.2.2.2.2.2.2.2.2.2.2.2.2.2.2.2.2.2.2.1, R.2.2.2.2.2.2.2.2.2.2.2.2.2.2.2.2.2.2.2.2.2.2.2.2.2.2.2.2.1, R.2.2.2.2.2.2.2.2.2.2.2.2.2.2.2.2.2.2.2.2.2.2.2.2.2.2.2.2.2.1, R.2.2.2.2.2.2.2.2.2.2.2.2.2.2.2.2.2.2.2.2.2.2.2.2.2.2.2.2.2.2.1, R.2.2.2.2.2.2.2.2.2.2.2.2.2.2.2.2.2.2.2.2.2.2.2.2.2.2.2.2.2.2.2.1, R.2.2.2.2.2.2.2.2.2.2.2.2.2.2.2.2.2.2.2.2.2.2.2.2.2.2.2.2.2.2.2.2.1, R.2.2.2.2.2.2.2.2.2.2.2.2.2.2.2.2.2.2.2.2.2.2.2.2.2.2.2.2.2.2.2.2.2.1, R.2.2.2.2.2.2.2.2.2.2.2.2.2.2.2.2.2.2.2.2.2.2.2.2.2.2.2.2.2.2.2.2.2.2.1, R.2.2.2.2.2.2.2.2.2.2.2.2.2.2.2.2.2.2.2.2.2.2.2.2.2.2.2.2.2.2.2.2.2.2.2.1, R.2.2.2.2.2.2.2.2.2.2.2.2.2.2.2.2.2.2.2.2.2.2.2.2.2.2.2.2.2.2.2.2.2.2.2.2.1, R.2.2.2.2.2.2.2.2.2.2.2.2.2.2.2.2.2.2.2.2.2.2.2.2.2.2.2.2.2.2.2.2.2.2.2.2.2.1, R.2.2.2.2.2.2.2.2.2.2.2.2.2.2.2.2.2.2.2.2.2.2.2.2.2.2.2.2.2.2.2.2.2.2.2.2.2.2.1, R.2.2.2.2.2.2.2.2.2.2.2.2.2.2.2.2.2.2.2.2.2.2.2.2.2.2.2.2.2.2.2.2.2.2.2.2.2.2.2.1, R.2.2.2.2.2.2.2.2.2.2.2.2.2.2.2.2.2.2.2.2.2.2.2.2.2.2.2.2.2.2.2.2.2.2.2.2.2.2.2.2.1, R.2.2.2.2.2.2.2.2.2.2.2.2.2.2.2.2.2.2.2.2.2.2.2.2.2.2.2.2.2.2.2.2.2.2.2.2.2.2.2.2.2.1, R.2.2.2.2.2.2.2.2.2.2.2.2.2.2.2.2.2.2.2.2.2.2.2.2.2.2.2.2.2.2.2.2.2.2.2.2.2.2.2.2.2.2.1, R.2.2.2.2.2.2.2.2.2.2.2.2.2.2.2.2.2.2.2.2.2.2.2.2.2.2.2.2.2.2.2.2.2.2.2.2.2.2.2.2.2.2.2.1, fun pc nx a b lv h v ty g0 g1 g2 g3 => R.2.2.2.2.2.2.2.2.2.2.2.2.2.2.2.2.2.2.2.2.2.2.2.2.2.2.2.2.2.2.2.2.2.2.2.2.2.2.2.2.2.2.2.2.1 pc nx a b lv h v ty g0 g1 g2 (hq _ _ g3), fun pc nx a b lv h v g0 g1 g2 => R.2.2.2.2.2.2.2.2.2.2.2.2.2.2.2.2.2.2.2.2.2.2.2.2.2.2.2.2.2.2.2.2.2.2.2.2.2.2.2.2.2.2.2.2.2.1 pc nx a b lv h v g0 g1 (hq _ _ g2), fun pc nx a b lv h o n g0 g1 g2 => R.2.2.2.2.2.2.2.2.2.2.2.2.2.2.2.2.2.2.2.2.2.2.2.2.2.2.2.2.2.2.2.2.2.2.2.2.2.2.2.2.2.2.2.2.2.2.1 pc nx a b lv h o n g0 g1 (hq _ _ g2), fun pc nx a b lv h g0 g1 g2 => R.2.2.2.2.2.2.2.2.2.2.2.2.2.2.2.2.2.2.2.2.2.2.2.2.2.2.2.2.2.2.2.2.2.2.2.2.2.2.2.2.2.2.2.2.2.2.2.1 pc nx a b lv h g0 g1 (hq _ _ g2), R.2.2.2.2.2.2.2.2.2.2.2.2.2.2.2.2.2.2.2.2.2.2.2.2.2.2.2.2.2.2.2.2.2.2.2.2.2.2.2.2.2.2.2.2.2.2.2.2.1, R.2.2.2.2.2.2.2.2.2.2.2.2.2.2.2.2.2.2.2.2.2.2.2.2.2.2.2.2.2.2.2.2.2.2.2.2.2.2.2.2.2.2.2.2.2.2.2.2.2⟩
/-! THE CLAIM OUT OF ONE WALK OF THE LAW'S BODY. Your part is whole_start (and what it stands on); all else here is the same for every law, but numbers. -/
def R_law : String := "TurnFieldLaw"
def lw_P (b : Addr) (xs : List Int32) (args : Array Value) (s : State) : Prop := args = #[.ref b] ∧ s.IntsAt b xs ∧ xs.length ≤ 3072 ∧ (Jvm.Cond.and given_1 narrow_1).before args s = true
def lw_Q (_ : Array Value) (s : State) (o : Outcome) (t : State) : Prop := o = .returned (some (.int 1)) ∧ Framed s o t [] 600000 7302250
def lw_Z (below : List Frame) (a : Array Value) (s : State) : State → Prop := fun t => ∃ o, t.status = .running ∧ Ended t below o ∧ lw_Q a s o t
/-- the law's own end, with 1 on the stack, nothing written that was there before, its room as the claim has it -/
theorem lw_ret {p : Program} {l : Launch} {e : Env} {s : State} {m : MethodId} {below : List Frame} {meth : Method} {c : Code} {b : Nat} (hx : p.tables.exec = Jvm.exec) (hb : c.code = code) (hr : meth.sig.returnType = ret) (hlocks : meth.locks = false) {pc : Nat} {H : Heap} {ls : Array Slot} (hdg : decode code pc = .ok (.ireturn, 1)) : W p l e room_1 s m #[Value.ref b] below meth c H [] 600000 7302250 (lw_Z below #[Value.ref b] s) (F0 m pc ls [.int 1]) := by
  intro T hT X
  obtain ⟨fs, hret, hrun, hended, hW, hframe⟩ := X.leave (v := some (.int 1)) (hlocks := hlocks) (fun h => by rw [hr] at h; cases h)
  have hmeth' : T.vm.method? m = some meth := X.method'
  refine ⟨T.setFrames fs, ?_, .returned (some (.int 1)), hrun, hended, rfl, ⟨_, rfl⟩, hW, hframe⟩
  jvm_step X.here [X.here.top, hx, hb, hdg, hmeth', hr, ret, narrow_b1]
  (try refine ⟨rfl, ?_⟩); (try refine ⟨rfl, ?_⟩)
  first | (intro acts; rw [hret _ acts rfl rfl rfl]) | rw [hret _ _ rfl rfl rfl]
  exact Steps.refl _
/-- what holds at the law's entry: the machine, the code, the tables' words (any of lw_tbl by 'hts w (by decide +kernel)'), the script of L ints xs at the cell b, what the Statement gives of the start (any of its parts by flat_of_before) -/
def lw_At (p : Program) (s : State) (m : MethodId) (meth : Method) (c : Code) (b L : Nat) (xs : Nat → Int32) : Prop :=
  p.tables.exec = Jvm.exec ∧ c.code = code ∧ meth.sig.returnType = ret ∧ c.maxLocals = 4 ∧ s.vm.findClass R_law = some m.cls ∧ (∀ w ∈ lw_tbl, w.before #[Value.ref b] s = true) ∧ va_X b L xs s s.heap ∧ b < s.heap.size ∧ meth.locks = false ∧ (Jvm.Cond.and given_1 narrow_1).before #[Value.ref b] s = true ∧ meth.name = "law"

theorem st_strs {args : Array Value} {s : State} {A : Nat → Prop} (hs : ∀ c ∈ flatC (Jvm.Cond.and given_1 narrow_1), c.before args s = true) (hts : ∀ w ∈ lw_tbl, w.before args s = true) (hA : ∀ a : Nat, a < s.heap.size → ¬ A a) :
    ∃ adK adV : Nat → Nat, vk_S 5 [2, 5, 5, 4, 5] pm_wds adK adV A s s.heap ∧ ∀ r ∈ ps_sr, vk_R r.1 r.2.1 r.2.2.1 (adK (r.2.2.2 - 1000010)) s := by
  obtain ⟨adK, adV, h1, h2⟩ := vk_Sof (N := 5) (tm := fun i => .string "TurnField$Tape" ([91, 95, 97, 99, 69].getD i 0)) (len := [2, 5, 5, 4, 5]) (byt := pm_wds) (A := A)
    (fun i hi => by
      have : (List.range 5).all (fun i => decide (([2, 5, 5, 4, 5] : List Nat).getD i 0 < 2 ^ 31)) = true := by decide +kernel
      exact of_decide_eq_true (List.all_eq_true.mp this i (List.mem_range.mpr hi)))
    (fun i hi => hs _ (by
      have : (List.range 5).all (fun i => decide ((Cond.exactly (.string "TurnField$Tape" ([91, 95, 97, 99, 69].getD i 0)) "java/lang/String") ∈ flatC (Jvm.Cond.and given_1 narrow_1))) = true := by decide +kernel
      exact of_decide_eq_true (List.all_eq_true.mp this i (List.mem_range.mpr hi))))
    (fun i hi => hs _ (by
      have : (List.range 5).all (fun i => decide ((Cond.eq (.field (.string "TurnField$Tape" ([91, 95, 97, 99, 69].getD i 0)) "java/lang/String" "coder" "B") (.int 0)) ∈ flatC (Jvm.Cond.and given_1 narrow_1))) = true := by decide +kernel
      exact of_decide_eq_true (List.all_eq_true.mp this i (List.mem_range.mpr hi))))
    (fun i hi => hs _ (by
      have : (List.range 5).all (fun i => decide ((Cond.arrayOf (.field (.string "TurnField$Tape" ([91, 95, 97, 99, 69].getD i 0)) "java/lang/String" "value" "[B") .byte) ∈ flatC (Jvm.Cond.and given_1 narrow_1))) = true := by decide +kernel
      exact of_decide_eq_true (List.all_eq_true.mp this i (List.mem_range.mpr hi))))
    (fun i hi => hs _ (by
      have : (List.range 5).all (fun i => decide ((Cond.eq (.length (.field (.string "TurnField$Tape" ([91, 95, 97, 99, 69].getD i 0)) "java/lang/String" "value" "[B")) (.int (Int32.ofNat (([2, 5, 5, 4, 5] : List Nat).getD i 0)))) ∈ flatC (Jvm.Cond.and given_1 narrow_1))) = true := by decide +kernel
      exact of_decide_eq_true (List.all_eq_true.mp this i (List.mem_range.mpr hi))))
    (fun i hi j hj => hs _ (by
      have : (List.range 5).all (fun i => (List.range (([2, 5, 5, 4, 5] : List Nat).getD i 0)).all (fun j => decide ((Cond.eq (.elem (.field (.string "TurnField$Tape" ([91, 95, 97, 99, 69].getD i 0)) "java/lang/String" "value" "[B") (.int (Int32.ofNat j))) (.int ((pm_wds.getD i []).getD j 0))) ∈ flatC (Jvm.Cond.and given_1 narrow_1)))) = true := by decide +kernel
      exact of_decide_eq_true (List.all_eq_true.mp (List.all_eq_true.mp this i (List.mem_range.mpr hi)) j (List.mem_range.mpr hj))))
    (fun i j hi hj hij => by
      have : (List.range 5).all (fun i => (List.range 5).all (fun j => Nat.beq i j || (decide ((Cond.not (.eq (.string "TurnField$Tape" ([91, 95, 97, 99, 69].getD i 0)) (.string "TurnField$Tape" ([91, 95, 97, 99, 69].getD j 0)))) ∈ flatC (Jvm.Cond.and given_1 narrow_1)) || decide ((Cond.not (.eq (.string "TurnField$Tape" ([91, 95, 97, 99, 69].getD j 0)) (.string "TurnField$Tape" ([91, 95, 97, 99, 69].getD i 0)))) ∈ flatC (Jvm.Cond.and given_1 narrow_1))))) = true := by decide +kernel
      have h := List.all_eq_true.mp (List.all_eq_true.mp this i (List.mem_range.mpr hi)) j (List.mem_range.mpr hj)
      rcases Bool.or_eq_true_iff.mp h with h | h
      · exact absurd (Nat.eq_of_beq_eq_true h) hij
      · rcases Bool.or_eq_true_iff.mp h with h | h
        · exact Or.inl (hs _ (of_decide_eq_true h))
        · exact Or.inr (hs _ (of_decide_eq_true h))) hA
  refine ⟨adK, adV, h1, fun r hr => ?_⟩
  have e := h2
  simp only [ps_sr, List.mem_cons, List.not_mem_nil, or_false] at hr
  rcases hr with rfl | rfl | rfl | rfl | rfl | rfl | rfl | rfl | rfl | rfl
  · exact vk_R.of (hts (.stringRef "TurnField$Tape" 91 "up") (by decide +kernel)) (h2 0 (by decide))
  · exact vk_R.of (hts (.stringRef "TurnField$Tape" 95 "exact") (by decide +kernel)) (h2 1 (by decide))
  · exact vk_R.of (hts (.stringRef "TurnField$Tape" 97 "ruler") (by decide +kernel)) (h2 2 (by decide))
  · exact vk_R.of (hts (.stringRef "TurnField$Tape" 99 "near") (by decide +kernel)) (h2 3 (by decide))
  · exact vk_R.of (hts (.stringRef "TurnField$Tape" 69 "heads") (by decide +kernel)) (h2 4 (by decide))
  · exact vk_R.of (hts (.stringRef "TurnFieldModel" 364 "up") (by decide +kernel)) (va_eqR (hs (.eq (.string "TurnField$Tape" 91) (.string "TurnFieldModel" 364)) (by decide +kernel)) (h2 0 (by decide)))
  · exact vk_R.of (hts (.stringRef "TurnFieldModel" 370 "exact") (by decide +kernel)) (va_eqR (hs (.eq (.string "TurnField$Tape" 95) (.string "TurnFieldModel" 370)) (by decide +kernel)) (h2 1 (by decide)))
  · exact vk_R.of (hts (.stringRef "TurnFieldModel" 372 "ruler") (by decide +kernel)) (va_eqR (hs (.eq (.string "TurnField$Tape" 97) (.string "TurnFieldModel" 372)) (by decide +kernel)) (h2 2 (by decide)))
  · exact vk_R.of (hts (.stringRef "TurnFieldModel" 374 "near") (by decide +kernel)) (va_eqR (hs (.eq (.string "TurnField$Tape" 99) (.string "TurnFieldModel" 374)) (by decide +kernel)) (h2 3 (by decide)))
  · exact vk_R.of (hts (.stringRef "TurnFieldModel" 388 "heads") (by decide +kernel)) (va_eqR (hs (.eq (.string "TurnField$Tape" 69) (.string "TurnFieldModel" 388)) (by decide +kernel)) (h2 4 (by decide)))
/-- a static table of longs -/
theorem st_tab {args : Array Value} {s : State} {A : Nat → Prop} {n : String} {N : Nat} {l : List Int64} (hs : ∀ c ∈ flatC (Jvm.Cond.and given_1 narrow_1), c.before args s = true) (hts : ∀ w ∈ lw_tbl, w.before args s = true) (hA : ∀ a : Nat, a < s.heap.size → ¬ A a) (hN : N < 2 ^ 31)
    (k1 : Cond.arrayOf (.static "TurnField$Numbers" n "[J") .long ∈ flatC (Jvm.Cond.and given_1 narrow_1)) (k2 : Cond.eq (.length (.static "TurnField$Numbers" n "[J")) (.int (Int32.ofNat N)) ∈ flatC (Jvm.Cond.and given_1 narrow_1))
    (k3 : (List.range N).all (fun j => decide (Cond.eq (.elem (.static "TurnField$Numbers" n "[J") (.int (Int32.ofNat j))) (.long (l.getD j 0)) ∈ flatC (Jvm.Cond.and given_1 narrow_1))) = true)
    (k4 : Cond.laysStatic "TurnField$Numbers" n "[J" ∈ lw_tbl) : ∃ t, va_T .long t N (fun j => .long (l.getD j 0)) A s s.heap ∧ va_Z "TurnField$Numbers" n "[J" (.ref t) A s s.heap := by
  obtain ⟨t, ht, hT⟩ := va_Tof (tm := .static "TurnField$Numbers" n "[J") (f := fun j => .long (l.getD j 0)) (A := A) hN (hs _ k1) (va_eqt (hs _ k2)) (fun j hj => va_eqtl (hs _ (of_decide_eq_true (List.all_eq_true.mp k3 j (List.mem_range.mpr hj))))) hA
  exact ⟨t, hT, va_Zref (hts _ k4) (hts (.initialized "TurnField$Numbers") (by decide +kernel)) ht hA⟩
theorem st_arr {args : Array Value} {s : State} {ty : FieldType} (h : (Cond.arrayClass ty).before args s = true) (hp : ∀ c : ClassId, s.vm.findClass ("[" ++ ty.toString) = some c → va_RA s c ty) : ∃ c : ClassId, ArrOfT s c ty ∧ va_RA s c ty := by
  obtain ⟨c, k, comp, h1, h2, h3⟩ := Cond.arrayClass_spec h
  exact ⟨c, fun n z => ⟨fun k h => (by cases h), k, h2, comp, h3⟩, hp c h1⟩
theorem st_K {args : Array Value} {s : State} (hts : ∀ w ∈ lw_tbl, w.before args s = true) : ∃ (D : va_G) (dA : Nat → ClassId), va_K D pt_cl (ps_tys dA) s := by
  have hT : ∀ w ∈ ps_T, w.before args s = true := fun w hw => hts w (List.mem_filter.mp hw).1
  have h0 : ∀ c : Nat, ∃ z : ClassId × (Nat → Nat), ∀ q, pt_cl[c]? = some q → u_Kn s q.1 q.2.1 q.2.2 z.1 z.2 := fun c => by
    cases hc : pt_cl[c]? with
    | none => exact ⟨(0, fun _ => 0), fun q hq => by cases hq⟩
    | some q =>
      obtain ⟨CC, T, N⟩ := q
      obtain ⟨k1, k2, -⟩ := pk_all c CC T N hc
      obtain ⟨cC, iS, hK⟩ := u_known (C := CC) (T := T) (N := N) (n := N) hT k1 (hT _ k2.1)
      exact ⟨(cC, iS), fun q hq => by cases hq; exact hK⟩
  obtain ⟨ad, had⟩ := Classical.axiomOfChoice h0
  obtain ⟨c0, a0, r0⟩ := st_arr (hts (.arrayClass .int) (by decide +kernel)) (fun c h => h)
  obtain ⟨c1, a1, r1⟩ := st_arr (hts (.arrayClass .long) (by decide +kernel)) (fun c h => h)
  obtain ⟨c2, a2, r2⟩ := st_arr (hts (.arrayClass .byte) (by decide +kernel)) (fun c h => h)
  obtain ⟨c3, a3, r3⟩ := st_arr (hts (.arrayClass .boolean) (by decide +kernel)) (fun c h => h)
  obtain ⟨p4, c4, k4, e1, e2, e3, e4, e5⟩ := Cond.arrayOver_spec (hts (.arrayOver (.object "TurnField$Position")) (by decide +kernel))
  obtain ⟨p5, c5, k5, f1, f2, f3, f4, f5⟩ := arrayOverA_spec (hts (.arrayOver (.array .long)) (by decide +kernel))
  refine ⟨(fun c => (ad c).1, fun c => (ad c).2), fun k => [c0, c1, c2, c3, c4, c5].getD k c0, fun c q hq => had c q hq, fun k q hk => ?_⟩
  match k, hk with
  | 0, hk => cases hk; exact ⟨a0, r0⟩
  | 1, hk => cases hk; exact ⟨a1, r1⟩
  | 2, hk => cases hk; exact ⟨a2, r2⟩
  | 3, hk => cases hk; exact ⟨a3, r3⟩
  | 4, hk => cases hk; exact ⟨fun n z => ⟨fun k h => (by cases h), k4, e3, p4, e4⟩, k4, p4, e3, e4, e1, e5⟩
  | 5, hk => cases hk; exact ⟨fun n z => ⟨fun k h => (by cases h), k5, f3, p5, f4⟩, f5⟩
  | k + 6, hk => simp [ps_tys] at hk
set_option maxHeartbeats 4000000 in
set_option maxRecDepth 100000 in
/-- from the entry, for every script of at most 3072 ints, the law comes to its end with true -/
theorem whole_start {p : Program} {e : Env} {s : State} {m : MethodId} {below : List Frame} {meth : Method} {c : Code} (l : Launch) (hflags : l.flags = flags0) {b L : Nat} {xs : Nat → Int32} (hL : L ≤ 3072) (C0 : lw_At p s m meth c b L xs) : W p l e room_1 s m #[Value.ref b] below meth c s.heap [] 0 0 (lw_Z below #[Value.ref b] s) (entryFrame m ([Value.ref b] : List Value).toArray 4) := by
  obtain ⟨hx, hb, hr, hml, hown, hts, hX, hbl, hlocks, hgv, hnm⟩ := id C0
  have hs := flat_of_before _ hgv
  have hA : ∀ a : Nat, a < s.heap.size → ¬ (fun q : Nat => s.heap.size ≤ q) a := fun a h => Nat.not_le.mpr h
  obtain ⟨D, dA, hK⟩ := st_K hts
  obtain ⟨adK, adV, hS1, hS2⟩ := st_strs (A := fun q : Nat => s.heap.size ≤ q) hs hts hA
  obtain ⟨tL, hTL, hZL⟩ := st_tab (A := fun q : Nat => s.heap.size ≤ q) (n := "LOW") (N := 6) (l := pm_low) hs hts hA (by decide) (by decide +kernel) (by decide +kernel) (by decide +kernel) (by decide +kernel)
  obtain ⟨tP, hTP, hZP⟩ := st_tab (A := fun q : Nat => s.heap.size ≤ q) (n := "PRIMES") (N := 7) (l := pm_prm) hs hts hA (by decide) (by decide +kernel) (by decide +kernel) (by decide +kernel) (by decide +kernel)
  have hZC : va_Z "java/lang/String" "COMPACT_STRINGS" "Z" (.int 1) (fun q : Nat => s.heap.size ≤ q) s s.heap := va_Zof (hts (.laysStatic "java/lang/String" "COMPACT_STRINGS" "Z") (by decide +kernel)) (hts (.initialized "java/lang/String") (by decide +kernel)) (va_eqi (hs (.eq (.static "java/lang/String" "COMPACT_STRINGS" "Z") (.int 1)) (by decide +kernel))) hA
  obtain ⟨nf, hnf, hZF⟩ : ∃ nf : Value, nf.category = 1 ∧ va_Z "jdk/internal/util/Preconditions" "SIOOBE_FORMATTER" "Ljava/util/function/BiFunction;" nf (fun q : Nat => s.heap.size ≤ q) s s.heap := by
    rcases va_Zqof (A := fun q : Nat => s.heap.size ≤ q) (hts (.laysStatic "jdk/internal/util/Preconditions" "SIOOBE_FORMATTER" "Ljava/util/function/BiFunction;") (by decide +kernel)) (hts (.initialized "jdk/internal/util/Preconditions") (by decide +kernel)) (hs (.isRef (.static "jdk/internal/util/Preconditions" "SIOOBE_FORMATTER" "Ljava/util/function/BiFunction;")) (by decide +kernel)) hA with h | ⟨t, h⟩
    · exact ⟨.null, rfl, h⟩
    · exact ⟨.ref t, rfl, h⟩
  obtain ⟨scr, x1, x2, x3, x4, x5⟩ := hX
  generalize hadk : (fun k : Nat => if k = 1000000 then b else if k = 1000001 then tL else if k = 1000002 then tP else if k < 1000030 then adK (k - 1000010) else adV (k - 1000030)) = adk
  have d0 : adk 1000000 = b := by rw [← hadk]; rfl
  have d1 : adk 1000001 = tL := by rw [← hadk]; rfl
  have d2 : adk 1000002 = tP := by rw [← hadk]; rfl
  have d3 : ∀ i, i < 5 → adk (1000010 + i) = adK i := fun i hi => by
    rw [← hadk]
    dsimp only
    rw [if_neg (by omega), if_neg (by omega), if_neg (by omega), if_pos (by omega), Nat.add_sub_cancel_left]
  have d4 : ∀ i, i < 5 → adk (1000030 + i) = adV i := fun i hi => by
    rw [← hadk]
    dsimp only
    rw [if_neg (by omega), if_neg (by omega), if_neg (by omega), if_neg (by omega), Nat.add_sub_cancel_left]
  have hKC : ps_KC adk nf (L, xs) (fun q : Nat => s.heap.size ≤ q) s s.heap := by
    refine ⟨?_, ?_, ?_, ?_, ?_, hZC, hZF, ?_, ?_, ?_, va_AO.of (hts (.arrayOver (.object "TurnField$Position")) (by decide +kernel)), hts (.arrayOver (.array .long)) (by decide +kernel)⟩
    · rw [d0]; exact ⟨scr, x1, x2, x3, Nat.le_of_eq x4.symm, by rw [x4], x5, hA b hbl⟩
    · rw [d1]; exact hTL
    · rw [d2]; exact hTP
    · rw [d1]; exact hZL
    · rw [d2]; exact hZP
    · refine ⟨fun i hi => ?_, fun i j hi hj q => ?_⟩
      · dsimp only; rw [d3 i hi, d4 i hi]; exact hS1.1 i hi
      · dsimp only at q; rw [d3 i hi, d3 j hj] at q; exact hS1.2 i j hi hj q
    · intro r hr
      have h1 := hS2 r hr
      obtain ⟨g1, g2⟩ := ps_sr_big r hr
      have h2 := d3 (r.2.2.2 - 1000010) (by omega)
      rw [show 1000010 + (r.2.2.2 - 1000010) = r.2.2.2 by omega] at h2
      rw [h2]
      exact h1
    · intro w hw
      have hm : ∀ w ∈ ps_nst, w ∈ lw_tbl ∧ w.onTables = true := by decide +kernel
      exact va_Nw.of (hm w hw).2 (hts w (hm w hw).1)
  have hl := lv_entry ([.ref b]) (n := 4) (Nat.le_of_ble_eq_true rfl)
  rw [lg_entry_eq]
  generalize (lg_sl ([.ref b]) ++ List.replicate (4 - (lg_sl ([.ref b])).length) Slot.unset).toArray = ls at hl ⊢
  have E : ps_E p room_1 s m #[Value.ref b] meth c md_L_law (L, xs) s.heap.size adk nf D dA 141 97098 0 0 :=
    ⟨hx, hb, hr, hml, hown, fun w hw => hts w (List.mem_filter.mp hw).1, hlocks, hnm, hK, hKC, Nat.le_refl _, hnf, by decide, by decide, by decide, ok_L_law, by decide, by decide⟩
  obtain ⟨qm_m2, wm_lays, hnt, hfr⟩ := mt_lays qm_m1
  obtain ⟨m3, hm3'⟩ := lw_main (kp := (L, xs)) hL 1000000 0 qm_m2 (st_iv hnt hfr) (by omega) (by omega)
  have hm3 : L_L_law_18 (L, xs) 1000000 0 qm_m2 = some (some (.int 1), m3) := hm3'
  have hR := ps_all_Q (p := p) (l := l) (e := e) (R := room_1) (s := s) (m := m) (below := below) (C := pm_X (L, xs) 100) (QQ := lw_Z below #[Value.ref b] s) (Q := fun r2 _ => r2 = some (.int 1)) ps_all ⟨100, ps_soundX ps_all hnf 100, by decide, by decide⟩ E
    (fun pc nx a b2 lv h v ty g0 g1 g2 g3 H locs cells slots ls I => by
      obtain ⟨pp, hd, hn, -⟩ := ps_at2 E.2.2.2.2.2.2.2.2.2.2.2.2.2.2.2.1 g0 rfl
      cases g3
      obtain ⟨i1, i2, i3, i4, i5, i6, i7, i8⟩ := I
      refine W.widen (k := 600000) (n := 7302250) (by omega) (by omega) ?_
      refine va_forget (fun q hq => i3.2.2 q hq) ?_
      exact lw_ret hx hb hr hlocks hd)
    (fun pc nx a b2 lv h v g0 g1 => absurd g1 (by decide +kernel)) (fun pc nx a b2 lv h o n g0 g1 => absurd (show ret = some (.object n) from g1) (by intro z; cases z)) (fun pc nx a b2 lv h g0 g1 => absurd g1 (by decide +kernel))
  have hloop := (lg_L_law_18 (kp := (L, xs)) 62 1000000 0 qm_m2 (some (.int 1), m3) hm3)
  have hw : pm_W (L, xs) md_L_law (pm_X (L, xs) 100) 141 97098 (fun r2 _ => r2 = some (.int 1)) 18 [(3, .int (0 : Int32)), (2, .ref 112), (1, .ref 0), (0, .ref 1000000)] [] (qm_hp qm_m2) := by
    have h1 : pm_W (L, xs) md_L_law (pm_X (L, xs) 100) (qm_hp m3).length (pm_sl (qm_hp m3)) (fun r h => r = some (.int 1) ∧ h = qm_hp m3) 18 [(0, .ref 1000000), (1, .ref 0), (2, .ref 112), (3, .int (0 : Int32))] [] (qm_hp qm_m2) := hloop
    rw [qm_hp_len, qm_hp_sl] at h1
    exact pq_sub (nx := 0) (a := 0) (b := 0) [3, 2, 1, 0] rfl (pm_mono (fun r h q => q.1) h1)
  have key := ct_law 96 wm_lays hw _ hR s.heap [] 0 0 ls ⟨?_, ?_, va_S.rf, rfl, by decide, by decide, by decide, by decide⟩
  · exact key
  · have e1 : ([(0, .ref 1000000)] : pm_L).map (fun q => (q.1, ps_cv (ps_ad s.heap.size adk) nf q.2)) = [(0, .ref b)] := by
      show [(0, Value.ref (ps_ad s.heap.size adk 1000000))] = _
      rw [ps_adk (by omega), d0]
    rw [e1]
    exact hl
  · intro k q hk
    cases hk
set_option maxHeartbeats 4000000 in
theorem lw_walk (l : Launch) (hflags : l.flags = flags0) (b : Addr) (xs : List Int32) : MetFree l x (headSpec (Jvm.Cond.code x code maxLocals ret :: tables_1) room_1) (lw_P b xs) (fun _ _ _ _ _ => True) lw_Q := by
  refine MetFree.of_bodyS (code := code) (maxLocals := maxLocals) (ret := ret) (by decide) ?_ ?_
  · intro args s m h hn
    obtain ⟨meth, c, h1, h2, h3, h4, h5, h6, -, -⟩ := Cond.code_spec hn (atoms_spec (ws := Jvm.Cond.code x code maxLocals ret :: tables_1) h _ List.mem_cons_self)
    exact ⟨meth, c, h1, h2, h3, h4, h5, h6⟩
  · intro p e s m args below meth c s₁ B hml0 hP _
    obtain ⟨rfl, hx, hbd, hgv⟩ := hP
    obtain ⟨scr, harrAt, hlist, hof, hsmall⟩ := hx
    obtain ⟨hcb, hkn, -, -⟩ := State.arrayAt?_spec harrAt
    have hown : s.vm.findClass R_law = some m.cls := findClass_of_methodNamed B.named
    have hts0 : ∀ c ∈ (Jvm.Cond.code x code maxLocals ret :: tables_1), c.before #[Value.ref b] s = true := atoms_spec (ws := Jvm.Cond.code x code maxLocals ret :: tables_1) B.pre
    have hts : ∀ w ∈ lw_tbl, w.before #[Value.ref b] s = true := k2_hts_sels lw_privs (fun w hw => hts0 w (List.mem_cons_of_mem _ hw)) lw_privs_ok
    have hml : c.maxLocals = 4 := B.maxLocals_eq (hts0 _ List.mem_cons_self)
    have X₀ : Stand p l e room_1 s m #[Value.ref b] below meth c s₁ [] 0 0 := Stand.of_body B
    have hh0 : s₁.heap = s.heap := by rw [B.state]; rfl
    have hsz : scr.slots.size = xs.length := by rw [← Array.length_toList, hlist, List.length_map]
    have hval : ∀ j : Nat, j < xs.length → scr.slots[j]? = some (.int (xs.getD j 0)) := fun j hj => by
      rw [← Array.getElem?_toList, hlist]
      simp [hj]
    have hbl : b < s.heap.size := (Array.getElem?_eq_some_iff.mp hcb).1
    have hX : va_X b xs.length (fun j => xs.getD j 0) s s.heap := ⟨scr, hcb, hof, hkn, hsz, hval⟩
    have K : W p l e room_1 s m #[Value.ref b] below meth c s₁.heap [] 0 0 (lw_Z below #[Value.ref b] s) (entryFrame m ([Value.ref b] : List Value).toArray 4) := by
      rw [hh0]
      exact whole_start l hflags hbd ⟨B.exec, B.bytes, B.returns, hml, hown, hts, hX, hbl, B.notSynchronized, hgv, (name_of_methodNamed B.named B.method).1⟩
    obtain ⟨t, a1, o, b1, b2, b3⟩ := K s₁ rfl X₀
    exact ⟨t, o, a1, b1, b2, b3⟩
