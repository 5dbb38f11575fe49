/-! private methods of AbstractStringBuilder, called on a StringBuilder: 'selects', derived -/
theorem sx_sel {C : String} {y z : MethodName} {s : State} {args : Array Value} (hsel : (Cond.selects C z z).before args s = true) (hc : z.cls = y.cls) (hy : y.cls ≠ "java/lang/invoke/MethodHandle" ∧ y.cls ≠ "java/lang/invoke/VarHandle")
    (hpriv : (Cond.privateMethod y).before args s = true) (hinst : (Cond.instanceMethod y).before args s = true) : (Cond.selects C y y).before args s = true := by
  obtain ⟨c, r, m, hcc, hr, hm, hs, k, hk, hi⟩ := Cond.selects_spec hsel
  obtain ⟨mk, methM, hnamed, hmethM, -, -⟩ := Cond.instanceMethod_spec hinst
  have hfound : s.methodFound? y.cls y.name y.desc = some mk := State.methodFound?_of_named hnamed hy
  have hcls : mk.cls = m.cls := by
    have h1 := findClass_of_methodNamed hnamed
    have h2 := findClass_of_methodNamed hm
    rw [hc] at h2
    exact Option.some.inj (h1.symm.trans h2)
  have hsel2 : selectMethod {} s.vm c mk = .method mk := selectMethod_private hmethM (Cond.privateMethod_at hpriv mk methM hnamed hmethM)
  simp only [Cond.before, Cond.holds, Cond.value, hcc, hfound, hnamed, hsel2, hcls, hk]
  simp
  exact hi
def sx_z : MethodName := ⟨"java/lang/AbstractStringBuilder", "isLatin1", "()Z"⟩
def sx_ys : List MethodName := [⟨"java/lang/AbstractStringBuilder", "ensureCapacityInternal", "(I)V"⟩, ⟨"java/lang/AbstractStringBuilder", "putStringAt", "(ILjava/lang/String;)V"⟩, ⟨"java/lang/AbstractStringBuilder", "inflateIfNeededFor", "(Ljava/lang/String;)V"⟩]
def sb_tbl : List Cond := sx_ys.map (fun y => Cond.selects "java/lang/StringBuilder" y y) ++ lw_tbl
theorem sx_0 : Cond.selects "java/lang/StringBuilder" sx_z sx_z ∈ tables_1 := by decide +kernel
theorem sx_1 : ∀ y ∈ sx_ys, Cond.privateMethod y ∈ tables_1 ∧ Cond.instanceMethod y ∈ tables_1 := by decide +kernel
theorem sb_hts {args : Array Value} {s : State} (h : ∀ w ∈ lw_tbl, w.before args s = true) : ∀ w ∈ sb_tbl, w.before args s = true := by
  intro w hw
  rcases List.mem_append.mp hw with hw | hw
  · obtain ⟨y, hy, rfl⟩ := List.mem_map.mp hw
    have hin : ∀ w ∈ tables_1, w ∈ lw_tbl := fun w hw => List.mem_append_right _ hw
    obtain ⟨h1, h2⟩ := sx_1 y hy
    refine sx_sel (h _ (hin _ sx_0)) ?_ ?_ (h _ (hin _ h1)) (h _ (hin _ h2))
    · simp only [sx_ys, List.mem_cons, List.not_mem_nil, or_false] at hy
      rcases hy with rfl | rfl | rfl <;> rfl
    · simp only [sx_ys, List.mem_cons, List.not_mem_nil, or_false] at hy
      rcases hy with rfl | rfl | rfl <;> decide
  · exact h w hw
