/-! arrays of two dimensions: the machine's rule -/
/-- the outer one, i of its elements told -/
def nm_c (cA : ClassId) (N h i : Nat) : Cell := arrV cA N (fun j => if j < i then .ref (h + 1 + j) else .null)
theorem nm_c_s (cA : ClassId) (N h i : Nat) : (nm_c cA N h i).setSlot i (.ref (h + 1 + i)) = nm_c cA N h (i + 1) := by
  unfold nm_c
  rw [arrV_store]
  congr 1
  funext j
  unfold updV
  by_cases q : j = i
  · rw [if_pos q, if_pos (by omega), q]
  · rw [if_neg q]
    show (if j < i then Value.ref (h + 1 + j) else Value.null) = _
    by_cases q2 : j < i
    · rw [if_pos q2, if_pos (by omega)]
    · rw [if_neg q2, if_neg (by omega)]
theorem nm_c_0 (cA : ClassId) (N h : Nat) : nm_c cA N h 0 = arrV cA N (fun _ => .null) := by
  unfold nm_c
  congr 1
section NMA
variable {e : Env} {E : CtlPost} {d : Bool} {acts : List Action} {t : State}
/-- a new array of one value -/
theorem nm_new {cA co : ClassId} {k : Class} {ty : FieldType} {N : Nat} {v : Value} (hk : t.vm.classes[cA]? = some k) (hkind : k.kind = .array co ty)
    (h1 : ¬ N > e.platform.arrayLengthLimit) (h2 : ¬ N * componentBytes ty > e.platform.maxHeapBytes) (hf : fits ty v = true)
    (h3 : t.heap.size < e.platform.maxCells) (h4 : t.slotsUsed + N ≤ e.platform.maxSlots) {Q : Addr → Pre} (hq : ∀ acts', Q t.heap.size d acts' (t.pushCell (arrV cA N (fun _ => v)))) :
    wp (Jvm.newArray cA N v) Q E e d acts t := by
  have a1 : ∀ i x, (Array.replicate N v)[i]? = some x → t.fitsSlot cA .none i x = true := fun i x hx => by
    rw [Array.getElem?_replicate] at hx
    by_cases q : i < N
    · rw [if_pos q] at hx
      cases hx
      simp [State.fitsSlot, State.slotType?, hk, hkind, hf]
    · rw [if_neg q] at hx; cases hx
  simp only [Jvm.newArray, Jvm.arrayFits, wp_bind', W.ask, W.ite, h1, if_false, wp_pure', W.theClass, hk, hkind, h2, W.alloc, W.stop, Option.some.injEq, exists_eq_left', Array.size_replicate]
  rw [if_neg (by omega)]
  refine ⟨h3, h4, a1, ?_⟩
  rw [arrV_new]
  exact hq _
/-- both dimensions -/
theorem nm_make {cA co cc : ClassId} {kA kC : Class} {n k : Int32} {N M : Nat} (hkA : t.vm.classes[cA]? = some kA) (hkindA : kA.kind = .array co (.array .long)) (hkC : t.vm.classes[co]? = some kC) (hkindC : kC.kind = .array cc .long)
    (hn : ¬ n < 0) (hk : ¬ k < 0) (hN : n.toNatClampNeg = N) (hM : k.toNatClampNeg = M) (hN1 : N ≤ 100) (hM1 : M ≤ 100) (hl : 100 ≤ e.platform.arrayLengthLimit) (hb : 800 ≤ e.platform.maxHeapBytes)
    (hc : t.heap.size + 1 + N ≤ e.platform.maxCells) (hs : t.slotsUsed + N + N * M ≤ e.platform.maxSlots) (I : Nat → State → Prop)
    (i0 : I 0 (t.pushCell (nm_c cA N t.heap.size 0)))
    (i1 : ∀ i s', i < N → I i s' → I (i + 1) ((s'.pushCell (arrV co M (fun _ => .long 0))).setCell t.heap.size (nm_c cA N t.heap.size (i + 1))))
    (i2 : ∀ i s', i ≤ N → I i s' → s'.heap.size = t.heap.size + 1 + i ∧ s'.heap[t.heap.size]? = some (nm_c cA N t.heap.size i) ∧ s'.vm = t.vm ∧ s'.slotsUsed = t.slotsUsed + N + i * M)
    {Q : Addr → Pre} (hq : ∀ d' acts' s', I N s' → Q t.heap.size d' acts' s') : wp (multianewarray.make cA [n, k]) Q E e d acts t := by
  have hfind : ([k].find? (· < 0)) = none := by simp [hk]
  have hNM : ∀ i, i < N → i * M + M ≤ N * M := fun i hi => by
    have := Nat.mul_le_mul_right M (show i + 1 ≤ N from hi)
    rw [Nat.succ_mul] at this
    exact this
  rw [multianewarray.make]
  simp only [wp_bind', W.ite, hn, if_false, wp_pure', W.theClass, hkA, hkindA, Option.some.injEq, exists_eq_left']
  rw [hN]
  refine nm_new hkA hkindA (by omega) (by show ¬ N * 4 > _; omega) rfl (by omega) (by have := Nat.zero_le (N * M); omega) (fun acts' => ?_)
  simp only [hfind]
  rw [ite_self, wp_bind', Std.Legacy.Range.forIn_eq_forIn_range']
  have hsz : ([:N] : Std.Legacy.Range).size = N := by simp [Std.Legacy.Range.size]
  rw [hsz]
  show wp (forIn (List.range' 0 N 1) PUnit.unit _) _ E e d _ _
  refine wp_forIn_inv (fun rest s' => ∃ i, i ≤ N ∧ rest = List.range' i (N - i) ∧ I i s') _ _ ⟨0, Nat.zero_le _, rfl, by rw [nm_c_0] at i0; exact i0⟩ ?_ ?_
  · rintro x rest s' d' acts2 Q' ⟨i, hi, hr, hI⟩ hnext
    have hlt : i < N := by
      rcases Nat.lt_or_ge i N with h | h
      · exact h
      · rw [show N - i = 0 by omega] at hr; simp at hr
    rw [show N - i = (N - (i + 1)) + 1 by omega, List.range'_succ] at hr
    obtain ⟨rfl, hr⟩ := List.cons.inj hr
    obtain ⟨f1, f2, f3, f4⟩ := i2 x s' (by omega) hI
    have hm := hNM x hlt
    simp only [wp_bind']
    rw [multianewarray.make]
    simp only [wp_bind', W.ite, hk, if_false, wp_pure', W.theClass, f3, hkC, hkindC, Option.some.injEq, exists_eq_left']
    rw [hM]
    refine nm_new (by rw [f3]; exact hkC) hkindC (by omega) (by show ¬ M * 8 > _; omega) rfl (by omega) (by omega) (fun acts3 => ?_)
    have hlt0 : t.heap.size < s'.heap.size := by omega
    simp only [wp_bind', W.writeLoc, wp_pure']
    refine ⟨nm_c cA N t.heap.size x, by rw [State.heap_pushCell_of_lt (h := hlt0)]; exact f2, by show Jvm.VmData.none ≠ _; simp, ?_, ?_, hnext _ _ _ ⟨x + 1, hlt, hr, ?_⟩⟩
    · unfold nm_c
      rw [arrV_size]
      exact hlt
    · simp [State.fitsSlot, State.slotType?, f3, nm_c, arrV, hkA, hkindA, fits]
    · rw [f1, nm_c_s]
      exact i1 x s' hlt hI
  · rintro s' d' acts2 ⟨i, hi, hr, hI⟩
    have hiN : i = N := by
      rcases Nat.lt_or_ge i N with h | h
      · rw [show N - i = (N - (i + 1)) + 1 by omega, List.range'_succ] at hr; cases hr
      · omega
    subst hiN
    simp only [wp_pure']
    exact hq _ _ _ hI
/-- both dimensions -/
theorem nm_makeZ {cA co cc : ClassId} {kA kC : Class} {n k : Int32} {N M : Nat} (hkA : t.vm.classes[cA]? = some kA) (hkindA : kA.kind = .array co (.array .boolean)) (hkC : t.vm.classes[co]? = some kC) (hkindC : kC.kind = .array cc .boolean)
    (hn : ¬ n < 0) (hk : ¬ k < 0) (hN : n.toNatClampNeg = N) (hM : k.toNatClampNeg = M) (hN1 : N ≤ 100) (hM1 : M ≤ 100) (hl : 100 ≤ e.platform.arrayLengthLimit) (hb : 800 ≤ e.platform.maxHeapBytes)
    (hc : t.heap.size + 1 + N ≤ e.platform.maxCells) (hs : t.slotsUsed + N + N * M ≤ e.platform.maxSlots) (I : Nat → State → Prop)
    (i0 : I 0 (t.pushCell (nm_c cA N t.heap.size 0)))
    (i1 : ∀ i s', i < N → I i s' → I (i + 1) ((s'.pushCell (arrV co M (fun _ => .int 0))).setCell t.heap.size (nm_c cA N t.heap.size (i + 1))))
    (i2 : ∀ i s', i ≤ N → I i s' → s'.heap.size = t.heap.size + 1 + i ∧ s'.heap[t.heap.size]? = some (nm_c cA N t.heap.size i) ∧ s'.vm = t.vm ∧ s'.slotsUsed = t.slotsUsed + N + i * M)
    {Q : Addr → Pre} (hq : ∀ d' acts' s', I N s' → Q t.heap.size d' acts' s') : wp (multianewarray.make cA [n, k]) Q E e d acts t := by
  have hfind : ([k].find? (· < 0)) = none := by simp [hk]
  have hNM : ∀ i, i < N → i * M + M ≤ N * M := fun i hi => by
    have := Nat.mul_le_mul_right M (show i + 1 ≤ N from hi)
    rw [Nat.succ_mul] at this
    exact this
  rw [multianewarray.make]
  simp only [wp_bind', W.ite, hn, if_false, wp_pure', W.theClass, hkA, hkindA, Option.some.injEq, exists_eq_left']
  rw [hN]
  refine nm_new hkA hkindA (by omega) (by show ¬ N * 4 > _; omega) rfl (by omega) (by have := Nat.zero_le (N * M); omega) (fun acts' => ?_)
  simp only [hfind]
  rw [ite_self, wp_bind', Std.Legacy.Range.forIn_eq_forIn_range']
  have hsz : ([:N] : Std.Legacy.Range).size = N := by simp [Std.Legacy.Range.size]
  rw [hsz]
  show wp (forIn (List.range' 0 N 1) PUnit.unit _) _ E e d _ _
  refine wp_forIn_inv (fun rest s' => ∃ i, i ≤ N ∧ rest = List.range' i (N - i) ∧ I i s') _ _ ⟨0, Nat.zero_le _, rfl, by rw [nm_c_0] at i0; exact i0⟩ ?_ ?_
  · rintro x rest s' d' acts2 Q' ⟨i, hi, hr, hI⟩ hnext
    have hlt : i < N := by
      rcases Nat.lt_or_ge i N with h | h
      · exact h
      · rw [show N - i = 0 by omega] at hr; simp at hr
    rw [show N - i = (N - (i + 1)) + 1 by omega, List.range'_succ] at hr
    obtain ⟨rfl, hr⟩ := List.cons.inj hr
    obtain ⟨f1, f2, f3, f4⟩ := i2 x s' (by omega) hI
    have hm := hNM x hlt
    simp only [wp_bind']
    rw [multianewarray.make]
    simp only [wp_bind', W.ite, hk, if_false, wp_pure', W.theClass, f3, hkC, hkindC, Option.some.injEq, exists_eq_left']
    rw [hM]
    refine nm_new (by rw [f3]; exact hkC) hkindC (by omega) (by show ¬ M * 1 > _; omega) rfl (by omega) (by omega) (fun acts3 => ?_)
    have hlt0 : t.heap.size < s'.heap.size := by omega
    simp only [wp_bind', W.writeLoc, wp_pure']
    refine ⟨nm_c cA N t.heap.size x, by rw [State.heap_pushCell_of_lt (h := hlt0)]; exact f2, by show Jvm.VmData.none ≠ _; simp, ?_, ?_, hnext _ _ _ ⟨x + 1, hlt, hr, ?_⟩⟩
    · unfold nm_c
      rw [arrV_size]
      exact hlt
    · simp [State.fitsSlot, State.slotType?, f3, nm_c, arrV, hkA, hkindA, fits]
    · rw [f1, nm_c_s]
      exact i1 x s' hlt hI
  · rintro s' d' acts2 ⟨i, hi, hr, hI⟩
    have hiN : i = N := by
      rcases Nat.lt_or_ge i N with h | h
      · rw [show N - i = (N - (i + 1)) + 1 by omega, List.range'_succ] at hr; cases hr
      · omega
    subst hiN
    simp only [wp_pure']
    exact hq _ _ _ hI
end NMA
section NMB
variable {p : Program} {l : Launch} {e : Env} {R : Room} {s : State} {m : MethodId} {args : Array Value} {below : List Frame} {meth : Method} {c : Code} {H : Heap} {locs : List Loc} {cells slots : Nat} {Q : State → Prop}
theorem nm_W {cc : ByteArray} (hexec : p.tables.exec = Jvm.exec) (hb : c.code = cc) {own : String} {index : Nat} (hown : s.vm.findClass own = some m.cls) (hclink : (Jvm.Cond.classLink own index "[[J").before args s = true) (hover : ps_AOA s) (harr : (Jvm.Cond.arrayClass .long).before args s = true)
    {g : JFrame} (hg : g.method = m) (hdg : decode cc g.pc = .ok (.multianewarray index 2, 4)) {n k : Int32} {N M : Nat} {rest : List Value} (hstack : g.stack = .int k :: .int n :: rest) (hn : ¬ n < 0) (hk : ¬ k < 0) (hN : n.toNatClampNeg = N) (hM : k.toNatClampNeg = M) (hN1 : N ≤ 100) (hM1 : M ≤ 100)
    (hcells : cells + (1 + N) ≤ R.cells) (hslots : slots + (N + N * M) ≤ R.slots)
    (kk : ∀ (H1 : Heap) (cA co : ClassId), s.vm.findClass "[[J" = some cA → s.vm.findClass "[J" = some co → H1.size = H.size + 1 + N → (∀ q, q < H.size → H1[q]? = H[q]?) → H1[H.size]? = some (nm_c cA N H.size N) → (∀ j, j < N → H1[H.size + 1 + j]? = some (arrV co M (fun _ => .long 0))) →
      W p l e R s m args below meth c H1 locs (cells + (1 + N)) (slots + (N + N * M)) Q { g with pc := g.pc + 4, stack := .ref H.size :: rest }) : W p l e R s m args below meth c H locs cells slots Q g := by
  intro T hT X
  subst hT; subst hb; subst hg
  have hpl : e.platform.magicAccessors = ({} : Platform).magicAccessors := by rw [X.admits.platform]
  obtain ⟨co, cA, kA, hco, -, hkA, hkindA, hnameA⟩ := arrayOverA_spec (show (Jvm.Cond.arrayOver (.array .long)).holds #[] s none s [] = true from hover)
  obtain ⟨co', kC, cc, hco', hkC, hkindC⟩ := Cond.arrayClass_spec harr
  have eco : co' = co := Option.some.inj (hco'.symm.trans hco)
  subst eco
  obtain ⟨c0, hfc0, hcl⟩ := Cond.classLink_spec hown hclink e.platform hpl
  have ec0 : c0 = cA := Option.some.inj (hfc0.symm.trans hnameA)
  subst ec0
  obtain ⟨hg₁, hwarm₁, -⟩ := State.classEntry (e := e) X.warmed hcl
  generalize T.vm.noted g.method.cls index (.cls c0) = vm₁ at hg₁ hwarm₁
  have hal : s.vm.Alike vm₁ := hwarm₁.alike
  obtain ⟨kA₁, hkA₁, heA⟩ := hal.2.2 _ _ hkA
  obtain ⟨kC₁, hkC₁, heC⟩ := hal.2.2 _ _ hkC
  have hkindA₁ : kA₁.kind = .array co' (.array .long) := by rw [heA]; exact hkindA
  have hkindC₁ : kC₁.kind = .array cc .long := by rw [heC]; exact hkindC
  have X₁ := X.noted hwarm₁
  obtain ⟨hr1, hr2⟩ := X.roomAbove hcells hslots
  have hl1 : 100 ≤ e.platform.arrayLengthLimit := by rw [Launch.admits_arrayLengthLimit X.admits]; decide
  have hb1 : 800 ≤ e.platform.maxHeapBytes := by rw [Launch.admits_maxHeapBytes X.admits]; decide
  have hgrow : s.heap.size ≤ T.heap.size := X.heapGrown
  -- what holds while the rows are made
  let J : Nat → State → Prop := fun i T1 => Stand p l e R s g.method args below meth c T1 locs (cells + (1 + i)) (slots + (N + i * M)) ∧ T1.heap.size = T.heap.size + 1 + i ∧ T1.heap[T.heap.size]? = some (nm_c c0 N T.heap.size i) ∧ T1.vm = vm₁ ∧ T1.slotsUsed = T.slotsUsed + N + i * M ∧ (∀ q, q < T.heap.size → T1.heap[q]? = T.heap[q]?) ∧ ∀ j, j < i → T1.heap[T.heap.size + 1 + j]? = some (arrV co' M (fun _ => .long 0))
  have j0 : J 0 ((T.setVm vm₁).pushCell (nm_c c0 N T.heap.size 0)) := by
    have hp := X₁.pushed (nm_c c0 N T.heap.size 0)
    have ez : (nm_c c0 N T.heap.size 0).slots.size = N := arrV_size _ _ _
    rw [ez] at hp
    refine ⟨?_, by simp [State.pushCell], by simp, rfl, ?_, fun q hq => ?_, fun j hj => absurd hj (Nat.not_lt_zero _)⟩
    · simpa using hp
    · show T.slotsUsed + _ = _
      rw [ez]; omega
    · exact State.heap_pushCell_of_lt _ _ hq
  have j1 : ∀ i T1, i < N → J i T1 → J (i + 1) ((T1.pushCell (arrV co' M (fun _ => .long 0))).setCell T.heap.size (nm_c c0 N T.heap.size (i + 1))) := by
    rintro i T1 hi ⟨a1, a2, a3, a4, a5, a6, a7⟩
    have hlt0 : T.heap.size < T1.heap.size := by omega
    have hcell : (T1.pushCell (arrV co' M (fun _ => .long 0))).heap[T.heap.size]? = some (nm_c c0 N T.heap.size i) := by rw [State.heap_pushCell_of_lt (h := hlt0)]; exact a3
    have hp := (a1.pushed (arrV co' M (fun _ => .long 0))).stored hcell i (.ref (T.heap.size + 1 + i))
    rw [arrV_size, nm_c_s] at hp
    have hp := hp.dropFresh (J := [⟨T.heap.size, i⟩]) (fun x hx => by rw [List.mem_singleton.mp hx]; exact hgrow)
    refine ⟨?_, ?_, State.heap_setCell_self hcell, a4, ?_, fun q hq => ?_, fun j hj => ?_⟩
    · have e1 : cells + (1 + i) + 1 = cells + (1 + (i + 1)) := by omega
      have e2 : slots + (N + i * M) + M = slots + (N + (i + 1) * M) := by rw [Nat.succ_mul]; omega
      rw [e1, e2] at hp
      exact hp
    · simp [State.setCell, State.pushCell]
      omega
    · show T1.slotsUsed + _ = _
      rw [arrV_size, a5, Nat.succ_mul]; omega
    · rw [State.heap_setCell_other (show T.heap.size ≠ q by omega), State.heap_pushCell_of_lt _ _ (show q < T1.heap.size by omega)]
      exact a6 q hq
    · rw [State.heap_setCell_other (show T.heap.size ≠ T.heap.size + 1 + j by omega)]
      by_cases q : j = i
      · rw [q, ← a2]
        exact State.heap_pushCell_size _ _
      · rw [State.heap_pushCell_of_lt _ _ (show T.heap.size + 1 + j < T1.heap.size by omega)]
        exact a7 j (by omega)
  have run : ∀ i, i ≤ N → ∀ T1, J i T1 → True := fun _ _ _ _ => trivial
  have step : ∃ T1, J N T1 ∧ ∀ target, Steps p.tables e below (T1.setTop { g with pc := g.pc + 4, stack := .ref T.heap.size :: rest }) target → Steps p.tables e below (T.setTop g) target := by
    -- the end of the rows is one state
    let F : Nat → State := fun i => Nat.rec ((T.setVm vm₁).pushCell (nm_c c0 N T.heap.size 0)) (fun i T1 => (T1.pushCell (arrV co' M (fun _ => .long 0))).setCell T.heap.size (nm_c c0 N T.heap.size (i + 1))) i
    have hF : ∀ i, i ≤ N → J i (F i) := fun i => by
      induction i with
      | zero => intro _; exact j0
      | succ i ih => intro h; exact j1 i (F i) (by omega) (ih (by omega))
    refine ⟨F N, hF N (Nat.le_refl _), fun target hrest => ?_⟩
    jvm_step X.here [hexec, hdg]
    simp only [multianewarray.sem, wp_bind', W.resolveClassAt_links (State.method?_setTop g X.here.top) hg₁]
    rw [W.popN, if_neg (by decide)]
    refine ⟨g, State.topJava?_setTop' (s := T.setVm vm₁) g X.here.top, [.int n, .int k], rest, rfl, hstack, ?_⟩
    simp only [List.mapM_cons, List.mapM_nil, wp_bind', wp_pure']
    have eS : ((T.setTop g).setVm vm₁).setTop { g with stack := rest } = (T.setVm vm₁).setTop { g with stack := rest } := by
      show ((T.setVm vm₁).setTop g).setTop _ = _
      rw [State.setTop_setTop]
    rw [eS]
    refine nm_make (kA := kA₁) (kC := kC₁) (co := co') (cc := cc) (N := N) (M := M) hkA₁ hkindA₁ hkC₁ hkindC₁ hn hk hN hM hN1 hM1 hl1 hb1 (by show T.heap.size + 1 + _ ≤ _; omega) (by show T.slotsUsed + _ + _ ≤ _; omega) (fun i s' => s' = (F i).setTop { g with stack := rest }) rfl (fun i s' hi h => by rw [h]; rfl) (fun i s' hi h => ?_) (fun d' acts' s' h => ?_)
    · obtain ⟨a1, a2, a3, a4, a5, a6, a7⟩ := hF i hi
      rw [h]
      exact ⟨a2, a3, a4, a5⟩
    · have XF := (hF N (Nat.le_refl _)).1
      rw [h]
      simp only [wp_bind', W.mark, W.pushRef, State.topJava?_setTop' _ XF.here.top, Option.some.injEq, exists_eq_left', State.setTop_setTop]
      intro acts
      simp [jvm, XF.here.top]
      exact hrest
  obtain ⟨T1, ⟨a1, a2, a3, a4, a5, a6, a7⟩, st⟩ := step
  obtain ⟨t', b1, b2⟩ := kk T1.heap c0 co' hnameA hco a2 a6 a3 a7 T1 rfl a1
  exact ⟨t', st t' b1, b2⟩
theorem nm_WZ {cc : ByteArray} (hexec : p.tables.exec = Jvm.exec) (hb : c.code = cc) {own : String} {index : Nat} (hown : s.vm.findClass own = some m.cls) (hclink : (Jvm.Cond.classLink own index "[[Z").before args s = true) (hover : ps_AOZ s) (harr : (Jvm.Cond.arrayClass .boolean).before args s = true)
    {g : JFrame} (hg : g.method = m) (hdg : decode cc g.pc = .ok (.multianewarray index 2, 4)) {n k : Int32} {N M : Nat} {rest : List Value} (hstack : g.stack = .int k :: .int n :: rest) (hn : ¬ n < 0) (hk : ¬ k < 0) (hN : n.toNatClampNeg = N) (hM : k.toNatClampNeg = M) (hN1 : N ≤ 100) (hM1 : M ≤ 100)
    (hcells : cells + (1 + N) ≤ R.cells) (hslots : slots + (N + N * M) ≤ R.slots)
    (kk : ∀ (H1 : Heap) (cA co : ClassId), s.vm.findClass "[[Z" = some cA → s.vm.findClass "[Z" = some co → H1.size = H.size + 1 + N → (∀ q, q < H.size → H1[q]? = H[q]?) → H1[H.size]? = some (nm_c cA N H.size N) → (∀ j, j < N → H1[H.size + 1 + j]? = some (arrV co M (fun _ => .int 0))) →
      W p l e R s m args below meth c H1 locs (cells + (1 + N)) (slots + (N + N * M)) Q { g with pc := g.pc + 4, stack := .ref H.size :: rest }) : W p l e R s m args below meth c H locs cells slots Q g := by
  intro T hT X
  subst hT; subst hb; subst hg
  have hpl : e.platform.magicAccessors = ({} : Platform).magicAccessors := by rw [X.admits.platform]
  obtain ⟨co, cA, kA, hco, -, hkA, hkindA, hnameA⟩ := arrayOverA_spec (show (Jvm.Cond.arrayOver (.array .boolean)).holds #[] s none s [] = true from hover)
  obtain ⟨co', kC, cc, hco', hkC, hkindC⟩ := Cond.arrayClass_spec harr
  have eco : co' = co := Option.some.inj (hco'.symm.trans hco)
  subst eco
  obtain ⟨c0, hfc0, hcl⟩ := Cond.classLink_spec hown hclink e.platform hpl
  have ec0 : c0 = cA := Option.some.inj (hfc0.symm.trans hnameA)
  subst ec0
  obtain ⟨hg₁, hwarm₁, -⟩ := State.classEntry (e := e) X.warmed hcl
  generalize T.vm.noted g.method.cls index (.cls c0) = vm₁ at hg₁ hwarm₁
  have hal : s.vm.Alike vm₁ := hwarm₁.alike
  obtain ⟨kA₁, hkA₁, heA⟩ := hal.2.2 _ _ hkA
  obtain ⟨kC₁, hkC₁, heC⟩ := hal.2.2 _ _ hkC
  have hkindA₁ : kA₁.kind = .array co' (.array .boolean) := by rw [heA]; exact hkindA
  have hkindC₁ : kC₁.kind = .array cc .boolean := by rw [heC]; exact hkindC
  have X₁ := X.noted hwarm₁
  obtain ⟨hr1, hr2⟩ := X.roomAbove hcells hslots
  have hl1 : 100 ≤ e.platform.arrayLengthLimit := by rw [Launch.admits_arrayLengthLimit X.admits]; decide
  have hb1 : 800 ≤ e.platform.maxHeapBytes := by rw [Launch.admits_maxHeapBytes X.admits]; decide
  have hgrow : s.heap.size ≤ T.heap.size := X.heapGrown
  -- what holds while the rows are made
  let J : Nat → State → Prop := fun i T1 => Stand p l e R s g.method args below meth c T1 locs (cells + (1 + i)) (slots + (N + i * M)) ∧ T1.heap.size = T.heap.size + 1 + i ∧ T1.heap[T.heap.size]? = some (nm_c c0 N T.heap.size i) ∧ T1.vm = vm₁ ∧ T1.slotsUsed = T.slotsUsed + N + i * M ∧ (∀ q, q < T.heap.size → T1.heap[q]? = T.heap[q]?) ∧ ∀ j, j < i → T1.heap[T.heap.size + 1 + j]? = some (arrV co' M (fun _ => .int 0))
  have j0 : J 0 ((T.setVm vm₁).pushCell (nm_c c0 N T.heap.size 0)) := by
    have hp := X₁.pushed (nm_c c0 N T.heap.size 0)
    have ez : (nm_c c0 N T.heap.size 0).slots.size = N := arrV_size _ _ _
    rw [ez] at hp
    refine ⟨?_, by simp [State.pushCell], by simp, rfl, ?_, fun q hq => ?_, fun j hj => absurd hj (Nat.not_lt_zero _)⟩
    · simpa using hp
    · show T.slotsUsed + _ = _
      rw [ez]; omega
    · exact State.heap_pushCell_of_lt _ _ hq
  have j1 : ∀ i T1, i < N → J i T1 → J (i + 1) ((T1.pushCell (arrV co' M (fun _ => .int 0))).setCell T.heap.size (nm_c c0 N T.heap.size (i + 1))) := by
    rintro i T1 hi ⟨a1, a2, a3, a4, a5, a6, a7⟩
    have hlt0 : T.heap.size < T1.heap.size := by omega
    have hcell : (T1.pushCell (arrV co' M (fun _ => .int 0))).heap[T.heap.size]? = some (nm_c c0 N T.heap.size i) := by rw [State.heap_pushCell_of_lt (h := hlt0)]; exact a3
    have hp := (a1.pushed (arrV co' M (fun _ => .int 0))).stored hcell i (.ref (T.heap.size + 1 + i))
    rw [arrV_size, nm_c_s] at hp
    have hp := hp.dropFresh (J := [⟨T.heap.size, i⟩]) (fun x hx => by rw [List.mem_singleton.mp hx]; exact hgrow)
    refine ⟨?_, ?_, State.heap_setCell_self hcell, a4, ?_, fun q hq => ?_, fun j hj => ?_⟩
    · have e1 : cells + (1 + i) + 1 = cells + (1 + (i + 1)) := by omega
      have e2 : slots + (N + i * M) + M = slots + (N + (i + 1) * M) := by rw [Nat.succ_mul]; omega
      rw [e1, e2] at hp
      exact hp
    · simp [State.setCell, State.pushCell]
      omega
    · show T1.slotsUsed + _ = _
      rw [arrV_size, a5, Nat.succ_mul]; omega
    · rw [State.heap_setCell_other (show T.heap.size ≠ q by omega), State.heap_pushCell_of_lt _ _ (show q < T1.heap.size by omega)]
      exact a6 q hq
    · rw [State.heap_setCell_other (show T.heap.size ≠ T.heap.size + 1 + j by omega)]
      by_cases q : j = i
      · rw [q, ← a2]
        exact State.heap_pushCell_size _ _
      · rw [State.heap_pushCell_of_lt _ _ (show T.heap.size + 1 + j < T1.heap.size by omega)]
        exact a7 j (by omega)
  have run : ∀ i, i ≤ N → ∀ T1, J i T1 → True := fun _ _ _ _ => trivial
  have step : ∃ T1, J N T1 ∧ ∀ target, Steps p.tables e below (T1.setTop { g with pc := g.pc + 4, stack := .ref T.heap.size :: rest }) target → Steps p.tables e below (T.setTop g) target := by
    -- the end of the rows is one state
    let F : Nat → State := fun i => Nat.rec ((T.setVm vm₁).pushCell (nm_c c0 N T.heap.size 0)) (fun i T1 => (T1.pushCell (arrV co' M (fun _ => .int 0))).setCell T.heap.size (nm_c c0 N T.heap.size (i + 1))) i
    have hF : ∀ i, i ≤ N → J i (F i) := fun i => by
      induction i with
      | zero => intro _; exact j0
      | succ i ih => intro h; exact j1 i (F i) (by omega) (ih (by omega))
    refine ⟨F N, hF N (Nat.le_refl _), fun target hrest => ?_⟩
    jvm_step X.here [hexec, hdg]
    simp only [multianewarray.sem, wp_bind', W.resolveClassAt_links (State.method?_setTop g X.here.top) hg₁]
    rw [W.popN, if_neg (by decide)]
    refine ⟨g, State.topJava?_setTop' (s := T.setVm vm₁) g X.here.top, [.int n, .int k], rest, rfl, hstack, ?_⟩
    simp only [List.mapM_cons, List.mapM_nil, wp_bind', wp_pure']
    have eS : ((T.setTop g).setVm vm₁).setTop { g with stack := rest } = (T.setVm vm₁).setTop { g with stack := rest } := by
      show ((T.setVm vm₁).setTop g).setTop _ = _
      rw [State.setTop_setTop]
    rw [eS]
    refine nm_makeZ (kA := kA₁) (kC := kC₁) (co := co') (cc := cc) (N := N) (M := M) hkA₁ hkindA₁ hkC₁ hkindC₁ hn hk hN hM hN1 hM1 hl1 hb1 (by show T.heap.size + 1 + _ ≤ _; omega) (by show T.slotsUsed + _ + _ ≤ _; omega) (fun i s' => s' = (F i).setTop { g with stack := rest }) rfl (fun i s' hi h => by rw [h]; rfl) (fun i s' hi h => ?_) (fun d' acts' s' h => ?_)
    · obtain ⟨a1, a2, a3, a4, a5, a6, a7⟩ := hF i hi
      rw [h]
      exact ⟨a2, a3, a4, a5⟩
    · have XF := (hF N (Nat.le_refl _)).1
      rw [h]
      simp only [wp_bind', W.mark, W.pushRef, State.topJava?_setTop' _ XF.here.top, Option.some.injEq, exists_eq_left', State.setTop_setTop]
      intro acts
      simp [jvm, XF.here.top]
      exact hrest
  obtain ⟨T1, ⟨a1, a2, a3, a4, a5, a6, a7⟩, st⟩ := step
  obtain ⟨t', b1, b2⟩ := kk T1.heap c0 co' hnameA hco a2 a6 a3 a7 T1 rfl a1
  exact ⟨t', st t' b1, b2⟩
end NMB
