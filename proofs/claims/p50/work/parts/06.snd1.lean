/-! what the machine's states hold of a pure state -/
def ps_sws (A : Nat → Prop) (adk : Nat → Nat) (U : State) : Prop := ∀ r ∈ ps_sr, vk_R r.1 r.2.1 r.2.2.1 (adk r.2.2.2) U
def ps_AOA (U : State) : Prop := (Jvm.Cond.arrayOver (.array .long)).before #[] U = true
def ps_AOZ (U : State) : Prop := (Jvm.Cond.arrayOver (.array .boolean)).before #[] U = true
def ps_cbl : List (String × String) := [("[I", "java/lang/Cloneable"), ("[Z", "java/lang/Cloneable")]
/-- given things: the script, tables, String constants, links to nest mates -/
def ps_KC (adk : Nat → Nat) (nf : Value) (kp : pm_K) (A : Nat → Prop) (U : State) (H : Heap) : Prop :=
  va_T .int (adk 1000000) kp.1 (fun j => .int (kp.2 j)) A U H ∧
  va_T .long (adk 1000001) 6 (fun j => .long (pm_low.getD j 0)) A U H ∧
  va_T .byte (adk 1000002) 100 (fun j => .int (pm_ones.getD j 0)) A U H ∧
  va_Z "TurnField$Numbers" "LOW" "[J" (.ref (adk 1000001)) A U H ∧
  va_Z "java/lang/Integer" "DigitOnes" "[B" (.ref (adk 1000002)) A U H ∧
  va_Z "java/lang/String" "COMPACT_STRINGS" "Z" (.int 1) A U H ∧
  va_Z "jdk/internal/util/Preconditions" "SIOOBE_FORMATTER" "Ljava/util/function/BiFunction;" nf A U H ∧
  vk_S 9 [2, 5, 5, 4, 5, 1, 0, 2, 6] pm_wds (fun i => adk (1000010 + i)) (fun i => adk (1000030 + i)) A U H ∧
  ps_sws A adk U ∧ (∀ w ∈ ps_nst, va_Nw w U) ∧ va_AO "TurnField$Position" U ∧ ps_AOA U ∧
  va_T .byte (adk 1000003) 100 (fun j => .int (pm_tens.getD j 0)) A U H ∧
  va_Z "java/lang/Integer" "DigitTens" "[B" (.ref (adk 1000003)) A U H ∧
  (∀ w ∈ ps_nsf, va_Nw w U) ∧ va_AO "java/lang/String" U ∧ ps_AOZ U ∧ (∀ q ∈ ps_cbl, va_Nw (.castable q.1 q.2) U) ∧ (∀ y ∈ ps_fcs, va_Fw "java/lang/StringBuilder" ⟨"java/lang/CharSequence", y.name, y.desc⟩ y U)
theorem ps_AOA.moved {u U : State} (hvm : u.vm.Alike U.vm) (h : ps_AOA u) : ps_AOA U := over_moved hvm h
theorem ps_AOZ.moved {u U : State} (hvm : u.vm.Alike U.vm) (h : ps_AOZ u) : ps_AOZ U := over_moved hvm h
theorem ps_KC.go {adk : Nat → Nat} {nf : Value} {kp : pm_K} {A : Nat → Prop} {s U : State} {H H1 : Heap} (hW : s.WarmedH U.vm) (hq : ∀ a : Nat, a < H.size → ¬ A a → H1[a]? = H[a]?) (h : ps_KC adk nf kp A s H) : ps_KC adk nf kp A U H1 := by
  obtain ⟨h1, h2, h3, h4, h5, h6, h7, h8, h9, h10, h11, h12, h13, h14, h15, h16, h17, h18, h19⟩ := h
  have hv := hW.alike
  refine ⟨(h1.moved hv).kept hq, (h2.moved hv).kept hq, (h3.moved hv).kept hq, (h4.moved hv).kept hq, (h5.moved hv).kept hq, (h6.moved hv).kept hq, (h7.moved hv).kept hq, (h8.moved hv).kept hq, fun r hr => (h9 r hr).warm hW, fun w hw => ?_, h11.moved hv, h12.moved hv, (h13.moved hv).kept hq, (h14.moved hv).kept hq, fun w hw => ?_, h16.moved hv, h17.moved hv, fun q hq => (h18 q hq).warmC hW, fun y hy => (h19 y hy).moved ⟨(by decide : "java/lang/CharSequence" ≠ "java/lang/invoke/MethodHandle"), (by decide : "java/lang/CharSequence" ≠ "java/lang/invoke/VarHandle")⟩ hv⟩
  · have h := h10 w hw
    simp only [ps_nst, List.mem_cons, List.not_mem_nil, or_false] at hw
    rcases hw with rfl | rfl | rfl | rfl | rfl | rfl | rfl | rfl | rfl | rfl | rfl | rfl <;> exact va_Nw.warmM hW h
  · have h := h15 w hw
    simp only [ps_nsf, List.mem_cons, List.not_mem_nil, or_false] at hw
    rcases hw with rfl | rfl | rfl | rfl <;> exact va_Nw.warmF hW h
section PSV
variable {p : Program} {l : Launch} {e : Env} {R : Room} {s : State} {m : MethodId} {args : Array Value} {below : List Frame} {meth : Method} {c : Code} {QQ : State → Prop} {md : pm_M} {kp : pm_K} {base : Nat} {adk : Nat → Nat} {nf : Value} {D : va_G} {dA : Nat → ClassId} {hb sb h0 s0 : Nat} {C : pm_C} {Q : Option Value → pm_H → Prop}
/-- what stays through a method's run -/
def ps_E (p : Program) (R : Room) (s : State) (m : MethodId) (args : Array Value) (meth : Method) (c : Code) (md : pm_M) (kp : pm_K) (base : Nat) (adk : Nat → Nat) (nf : Value) (D : va_G) (dA : Nat → ClassId) (hb sb h0 s0 : Nat) : Prop :=
  p.tables.exec = Jvm.exec ∧ c.code = md.2.1 ∧ meth.sig.returnType = pm_ret md ∧ c.maxLocals = md.2.2.1 ∧ s.vm.findClass md.1.cls = some m.cls ∧ (∀ w ∈ ps_T, w.before args s = true) ∧ meth.locks = false ∧ meth.name = md.1.name ∧
  va_K D pt_cl (ps_tys dA) s ∧ ps_KC adk nf kp (fun q => base ≤ q) s s.heap ∧ base ≤ s.heap.size ∧ nf.category = 1 ∧ hb ≤ R.cells + h0 ∧ sb ≤ R.slots + s0 ∧ hb ≤ 100000 ∧ ps_ok md = true ∧ 1 ≤ R.frames ∧ 30 ≤ R.locals
/-- what the machine's state holds of the pure one -/
def ps_In (s : State) (md : pm_M) (base : Nat) (adk : Nat → Nat) (nf : Value) (D : va_G) (dA : Nat → ClassId) (hb sb h0 s0 : Nat) (lv : pm_L) (h : pm_H) (H : Heap) (locs : List Loc) (cells slots : Nat) (ls : Array Slot) : Prop :=
  lv_has ls md.2.2.1 (lv.map (fun q => (q.1, ps_cv (ps_ad base adk) nf q.2))) ∧ va_P D pt_cl (ps_cw dA (ps_ad base adk) nf h) H ∧ va_S (fun q => base ≤ q) s.heap H locs ∧ H.size = base + h.length ∧ h.length ≤ hb ∧ pm_sl h ≤ sb ∧ cells + h0 ≤ h.length ∧ slots + s0 ≤ pm_sl h
def ps_PP (p : Program) (l : Launch) (e : Env) (R : Room) (s : State) (m : MethodId) (args : Array Value) (below : List Frame) (meth : Method) (c : Code) (QQ : State → Prop) (md : pm_M) (base : Nat) (adk : Nat → Nat) (nf : Value) (D : va_G) (dA : Nat → ClassId) (hb sb h0 s0 : Nat) : pm_P := fun pc lv st h =>
  ∀ (H : Heap) (locs : List Loc) (cells slots : Nat) (ls : Array Slot), ps_In s md base adk nf D dA hb sb h0 s0 lv h H locs cells slots ls → W p l e R s m args below meth c H locs cells slots QQ (F0 m pc ls (st.map (ps_cv (ps_ad base adk) nf)))
theorem ps_D {h : pm_H} {A : Nat → Prop} (hl : h.length ≤ 1000000) (hA : ∀ q, base ≤ q → A q) : va_D A (ps_cw dA (ps_ad base adk) nf h) := by
  have key : ∀ (k : Nat) (q : Nat × va_E), (ps_cw dA (ps_ad base adk) nf h)[k]? = some q → k < h.length ∧ q.1 = base + k := by
    intro k q hq
    unfold ps_cw at hq
    rw [List.getElem?_mapIdx] at hq
    cases hk : h[k]? with
    | none => rw [hk] at hq; cases hq
    | some x =>
      rw [hk] at hq
      cases hq
      have h1 := (List.getElem?_eq_some_iff.mp hk).1
      refine ⟨h1, ?_⟩
      unfold ps_ad
      exact if_pos (Nat.lt_of_lt_of_le h1 hl)
  refine ⟨fun i j x y hi hj hxy => ?_, fun k q hk => ?_⟩
  · have h1 := key i x hi
    have h2 := key j y hj
    omega
  · have h1 := key k q hk
    rw [h1.2]
    exact hA _ (by omega)
theorem ps_cv_cat (hnf : nf.category = 1) (ad : Nat → Nat) (v : Value) : (ps_cv ad nf v).category = v.category := by
  cases v <;> first | rfl | exact hnf
theorem ps_cats (hnf : nf.category = 1) (ad : Nat → Nat) (st : List Value) : ((st.map (ps_cv ad nf)).map fun v => v.category).sum = pm_cat st := by
  induction st with
  | nil => rfl
  | cons v r ih => simp only [List.map_cons, List.sum_cons, pm_cat, ih, ps_cv_cat hnf]
theorem ps_lvat {ls : Array Slot} {nL : Nat} {lv : pm_L} {ad : Nat → Nat} (h : lv_has ls nL (lv.map (fun q => (q.1, ps_cv ad nf q.2)))) {j k : Nat} {v : Value} (g : lv[j]? = some (k, v)) : ls[k]? = some (.val (ps_cv ad nf v)) :=
  lv_at h j (by rw [List.getElem?_map, g]; rfl)
theorem ps_beq (a b : Nat) : Nat.beq a b = (a == b) := by
  rw [Bool.eq_iff_iff]
  simp
theorem ps_filt (hnf : nf.category = 1) (ad : Nat → Nat) (lv : pm_L) (k : Nat) : (lv.filter (pm_k1 k)).map (fun q => (q.1, ps_cv ad nf q.2)) = (lv.map (fun q => (q.1, ps_cv ad nf q.2))).filter (fun q => !(q.1 == k) && !(q.1 + 1 == k && q.2.category == 2)) := by
  rw [List.filter_map]
  congr 1
  apply List.filter_congr
  intro q _
  simp only [pm_k1, Function.comp, ps_cv_cat hnf, ps_beq]
theorem ps_filt2 (hnf : nf.category = 1) (ad : Nat → Nat) (lv : pm_L) (k : Nat) : (lv.filter (pm_k2 k)).map (fun q => (q.1, ps_cv ad nf q.2)) = (lv.map (fun q => (q.1, ps_cv ad nf q.2))).filter (fun q => !(q.1 == k) && (!(q.1 == k + 1) && !(q.1 + 1 == k && q.2.category == 2))) := by
  rw [List.filter_map]
  congr 1
  apply List.filter_congr
  intro q _
  simp only [pm_k2, Function.comp, ps_cv_cat hnf, ps_beq]
theorem ps_cst (E : ps_E p R s m args meth c md kp base adk nf D dA hb sb h0 s0) : pr_cst kp md C hb sb Q (ps_PP p l e R s m args below meth c QQ md base adk nf D dA hb sb h0 s0) := by
  obtain ⟨hx, hbb, hr, hml, hown, hts, hlk, hnm, hK, hKC, hbs, hnf, hRc, hRs, hh, hok, hfr, hlo⟩ := E
  intro pc nx a b lv st h i v g0 g1 g2 H locs cells slots ls I
  unfold pm_cst at g1
  split at g1
  · obtain ⟨pp, hd, hn, -⟩ := ps_at2 hok g0 rfl
    cases g1
    subst hn
    exact lv_iconst hx hbb hd rfl (g2 H locs cells slots ls I)
  · obtain ⟨pp, hd, hn, -⟩ := ps_at2 hok g0 rfl
    cases g1
    subst hn
    exact lv_bipush hx hbb hd rfl (g2 H locs cells slots ls I)
  · obtain ⟨pp, hd, hn, -⟩ := ps_at2 hok g0 rfl
    cases g1
    subst hn
    exact lv_sipush hx hbb hd rfl (g2 H locs cells slots ls I)
  · obtain ⟨pp, hd, hn, -⟩ := ps_at2 hok g0 rfl
    cases g1
    subst hn
    exact lv_lconst hx hbb hd rfl (g2 H locs cells slots ls I)
  · cases g1
theorem ps_ld (E : ps_E p R s m args meth c md kp base adk nf D dA hb sb h0 s0) : pr_ld kp md C hb sb Q (ps_PP p l e R s m args below meth c QQ md base adk nf D dA hb sb h0 s0) := by
  obtain ⟨hx, hbb, hr, hml, hown, hts, hlk, hnm, hK, hKC, hbs, hnf, hRc, hRs, hh, hok, hfr, hlo⟩ := E
  intro pc nx a b lv st h i v k j g0 g1 g2 g3 H locs cells slots ls I
  have hl := ps_lvat I.1 g2
  unfold pm_ld at g1
  split at g1
  · obtain ⟨pp, hd, hn, -⟩ := ps_at2 hok g0 rfl
    cases g1
    subst hn
    exact lv_iload hx hbb hd hl (g3 H locs cells slots ls I)
  · obtain ⟨pp, hd, hn, -⟩ := ps_at2 hok g0 rfl
    cases g1
    subst hn
    exact lv_iload_n hx hbb hd rfl hl (g3 H locs cells slots ls I)
  · obtain ⟨pp, hd, hn, -⟩ := ps_at2 hok g0 rfl
    cases g1
    subst hn
    exact lv_lload hx hbb hd hl (g3 H locs cells slots ls I)
  · obtain ⟨pp, hd, hn, -⟩ := ps_at2 hok g0 rfl
    cases g1
    subst hn
    exact lv_lload_n hx hbb hd rfl hl (g3 H locs cells slots ls I)
  · obtain ⟨pp, hd, hn, -⟩ := ps_at2 hok g0 rfl
    cases g1
    subst hn
    exact lv_aload hx hbb hd hl (g3 H locs cells slots ls I)
  · obtain ⟨pp, hd, hn, -⟩ := ps_at2 hok g0 rfl
    cases g1
    subst hn
    exact lv_aload_n hx hbb hd rfl hl (g3 H locs cells slots ls I)
  · cases g1
theorem ps_sto1 (hnf : nf.category = 1) {k : Nat} {v : Value} {lv lv1 : pm_L} (g : pm_sto k v lv = some lv1) (ad : Nat → Nat) : (∃ x, v = .long x ∧ lv1.map (fun q => (q.1, ps_cv ad nf q.2)) = (k, Value.long x) :: (lv.map (fun q => (q.1, ps_cv ad nf q.2))).filter (fun q => !(q.1 == k) && (!(q.1 == k + 1) && !(q.1 + 1 == k && q.2.category == 2)))) ∨
    lv1.map (fun q => (q.1, ps_cv ad nf q.2)) = (k, ps_cv ad nf v) :: (lv.map (fun q => (q.1, ps_cv ad nf q.2))).filter (fun q => !(q.1 == k) && !(q.1 + 1 == k && q.2.category == 2)) := by
  unfold pm_sto at g
  split at g
  · rw [ps_flt_eq] at g
    cases g
    refine Or.inl ⟨_, rfl, ?_⟩
    rw [List.map_cons, ps_filt2 hnf]
    rfl
  · rw [ps_flt_eq] at g
    cases g
    refine Or.inr ?_
    rw [List.map_cons, ps_filt hnf]
  · rw [ps_flt_eq] at g
    cases g
    refine Or.inr ?_
    rw [List.map_cons, ps_filt hnf]
  · cases g
theorem ps_stoi (hnf : nf.category = 1) {k : Nat} {v : Value} {lv lv1 : pm_L} (g : pm_sto k v lv = some lv1) (hv : ∀ x, ¬ v = .long x) (ad : Nat → Nat) : (k, ps_cv ad nf v) :: (lv.map (fun q => (q.1, ps_cv ad nf q.2))).filter (fun q => !(q.1 == k) && !(q.1 + 1 == k && q.2.category == 2)) = lv1.map (fun q => (q.1, ps_cv ad nf q.2)) := by
  rcases ps_sto1 hnf g ad with ⟨x, h, -⟩ | h
  · exact absurd h (hv x)
  · exact h.symm
theorem ps_stol (hnf : nf.category = 1) {k : Nat} {x : Int64} {lv lv1 : pm_L} (g : pm_sto k (.long x) lv = some lv1) (ad : Nat → Nat) : (k, Value.long x) :: (lv.map (fun q => (q.1, ps_cv ad nf q.2))).filter (fun q => !(q.1 == k) && (!(q.1 == k + 1) && !(q.1 + 1 == k && q.2.category == 2))) = lv1.map (fun q => (q.1, ps_cv ad nf q.2)) := by
  unfold pm_sto at g
  dsimp only at g
  rw [ps_flt_eq] at g
  cases g
  rw [List.map_cons, ps_filt2 hnf]
  rfl
theorem ps_sto (E : ps_E p R s m args meth c md kp base adk nf D dA hb sb h0 s0) : pr_sto kp md C hb sb Q (ps_PP p l e R s m args below meth c QQ md base adk nf D dA hb sb h0 s0) := by
  obtain ⟨hx, hbb, hr, hml, hown, hts, hlk, hnm, hK, hKC, hbs, hnf, hRc, hRs, hh, hok, hfr, hlo⟩ := E
  intro pc nx a b lv st h i v k lv1 g0 g1 g2 g3 H locs cells slots ls I
  obtain ⟨I1, I2⟩ := I
  unfold pm_st at g1
  split at g1
  · obtain ⟨pp, hd, hn, hw⟩ := ps_at2 hok g0 rfl
    cases g1
    subst hn
    exact lv_istore hx hbb hd I1 (Nat.le_of_ble_eq_true hw) (ps_stoi hnf g2 (fun x q => by cases q) _) (fun ls1 I3 => g3 H locs cells slots ls1 ⟨I3, I2⟩)
  · obtain ⟨pp, hd, hn, hw⟩ := ps_at2 hok g0 rfl
    cases g1
    subst hn
    exact lv_istore_n hx hbb hd rfl I1 (Nat.le_of_ble_eq_true hw) (ps_stoi hnf g2 (fun x q => by cases q) _) (fun ls1 I3 => g3 H locs cells slots ls1 ⟨I3, I2⟩)
  · obtain ⟨pp, hd, hn, hw⟩ := ps_at2 hok g0 rfl
    cases g1
    subst hn
    exact lv_lstore hx hbb hd I1 (Nat.le_of_ble_eq_true hw) (ps_stol hnf g2 _) (fun ls1 I3 => g3 H locs cells slots ls1 ⟨I3, I2⟩)
  · obtain ⟨pp, hd, hn, hw⟩ := ps_at2 hok g0 rfl
    cases g1
    subst hn
    exact lv_lstore_n hx hbb hd rfl I1 (Nat.le_of_ble_eq_true hw) (ps_stol hnf g2 _) (fun ls1 I3 => g3 H locs cells slots ls1 ⟨I3, I2⟩)
  · obtain ⟨pp, hd, hn, hw⟩ := ps_at2 hok g0 rfl
    cases g1
    subst hn
    exact lv_astore hx hbb hd I1 (Nat.le_of_ble_eq_true hw) (ps_stoi hnf g2 (fun x q => by cases q) _) (fun ls1 I3 => g3 H locs cells slots ls1 ⟨I3, I2⟩)
  · obtain ⟨pp, hd, hn, hw⟩ := ps_at2 hok g0 rfl
    cases g1
    subst hn
    exact lv_astore_n hx hbb hd rfl I1 (Nat.le_of_ble_eq_true hw) (ps_stoi hnf g2 (fun x q => by cases q) _) (fun ls1 I3 => g3 H locs cells slots ls1 ⟨I3, I2⟩)
  · cases g1
theorem ps_inc (E : ps_E p R s m args meth c md kp base adk nf D dA hb sb h0 s0) : pr_inc kp md C hb sb Q (ps_PP p l e R s m args below meth c QQ md base adk nf D dA hb sb h0 s0) := by
  obtain ⟨hx, hbb, hr, hml, hown, hts, hlk, hnm, hK, hKC, hbs, hnf, hRc, hRs, hh, hok, hfr, hlo⟩ := E
  intro pc nx a b lv st h k n x lv1 j g0 g1 g2 g3 H locs cells slots ls I
  obtain ⟨I1, I2⟩ := I
  obtain ⟨pp, hd, hn, hw⟩ := ps_at2 hok g0 rfl
  subst hn
  exact lv_iinc (k := j) hx hbb hd I1 (by rw [List.getElem?_map, g1]; rfl) rfl (Nat.le_of_ble_eq_true hw) (ps_stoi hnf g2 (fun x q => by cases q) _) (fun ls1 I3 => g3 H locs cells slots ls1 ⟨I3, I2⟩)
theorem ps_sub (E : ps_E p R s m args meth c md kp base adk nf D dA hb sb h0 s0) : pr_sub kp md C hb sb Q (ps_PP p l e R s m args below meth c QQ md base adk nf D dA hb sb h0 s0) := by
  intro pc nx a b lv st h ks lv1 g0 g1 H locs cells slots ls I
  obtain ⟨I1, I2⟩ := I
  obtain ⟨t, h1, h2⟩ := ps_pck_in lv ks some lv1 g0
  cases h1
  refine g1 H locs cells slots ls ⟨⟨I1.1, I1.2.1, fun q hq => ?_⟩, I2⟩
  obtain ⟨z, hz, rfl⟩ := List.mem_map.mp hq
  exact I1.2.2 _ (List.mem_map.mpr ⟨z, h2 z hz, rfl⟩)
theorem ps_bop (E : ps_E p R s m args meth c md kp base adk nf D dA hb sb h0 s0) : pr_bop kp md C hb sb Q (ps_PP p l e R s m args below meth c QQ md base adk nf D dA hb sb h0 s0) := by
  obtain ⟨hx, hbb, hr, hml, hown, hts, hlk, hnm, hK, hKC, hbs, hnf, hRc, hRs, hh, hok, hfr, hlo⟩ := E
  intro pc nx a b lv st h i v x y g0 g1 g2 H locs cells slots ls I
  unfold pm_bop at g1
  split at g1
  · obtain ⟨pp, hd, hn, -⟩ := ps_at2 hok g0 rfl
    cases g1
    subst hn
    exact lv_iadd hx hbb hd (g2 H locs cells slots ls I)
  · obtain ⟨pp, hd, hn, -⟩ := ps_at2 hok g0 rfl
    cases g1
    subst hn
    exact lv_isub hx hbb hd (g2 H locs cells slots ls I)
  · obtain ⟨pp, hd, hn, -⟩ := ps_at2 hok g0 rfl
    cases g1
    subst hn
    exact lv_imul hx hbb hd (g2 H locs cells slots ls I)
  · obtain ⟨pp, hd, hn, -⟩ := ps_at2 hok g0 rfl
    cases g1
    subst hn
    exact lv_iand hx hbb hd (g2 H locs cells slots ls I)
  · obtain ⟨pp, hd, hn, -⟩ := ps_at2 hok g0 rfl
    cases g1
    subst hn
    exact lv_ior hx hbb hd (g2 H locs cells slots ls I)
  · obtain ⟨pp, hd, hn, -⟩ := ps_at2 hok g0 rfl
    cases g1
    subst hn
    exact lv_ixor hx hbb hd (g2 H locs cells slots ls I)
  · obtain ⟨pp, hd, hn, -⟩ := ps_at2 hok g0 rfl
    cases g1
    subst hn
    exact lv_ishl hx hbb hd (g2 H locs cells slots ls I)
  · obtain ⟨pp, hd, hn, -⟩ := ps_at2 hok g0 rfl
    cases g1
    subst hn
    exact lv_ishr hx hbb hd (g2 H locs cells slots ls I)
  · obtain ⟨pp, hd, hn, -⟩ := ps_at2 hok g0 rfl
    cases g1
    subst hn
    exact lv_iushr hx hbb hd rfl (g2 H locs cells slots ls I)
  · obtain ⟨pp, hd, hn, -⟩ := ps_at2 hok g0 rfl
    cases g1
    subst hn
    exact lv_ladd hx hbb hd (g2 H locs cells slots ls I)
  · obtain ⟨pp, hd, hn, -⟩ := ps_at2 hok g0 rfl
    cases g1
    subst hn
    exact lv_lsub hx hbb hd (g2 H locs cells slots ls I)
  · obtain ⟨pp, hd, hn, -⟩ := ps_at2 hok g0 rfl
    cases g1
    subst hn
    exact lv_lmul hx hbb hd (g2 H locs cells slots ls I)
  · obtain ⟨pp, hd, hn, -⟩ := ps_at2 hok g0 rfl
    cases g1
    subst hn
    exact lv_land hx hbb hd (g2 H locs cells slots ls I)
  · obtain ⟨pp, hd, hn, -⟩ := ps_at2 hok g0 rfl
    cases g1
    subst hn
    exact lv_lor hx hbb hd (g2 H locs cells slots ls I)
  · obtain ⟨pp, hd, hn, -⟩ := ps_at2 hok g0 rfl
    cases g1
    subst hn
    exact lv_lxor hx hbb hd (g2 H locs cells slots ls I)
  · obtain ⟨pp, hd, hn, -⟩ := ps_at2 hok g0 rfl
    cases g1
    subst hn
    exact lv_lshl hx hbb hd rfl (g2 H locs cells slots ls I)
  · obtain ⟨pp, hd, hn, -⟩ := ps_at2 hok g0 rfl
    cases g1
    subst hn
    exact lv_lshr hx hbb hd rfl (g2 H locs cells slots ls I)
  · obtain ⟨pp, hd, hn, -⟩ := ps_at2 hok g0 rfl
    cases g1
    subst hn
    exact lv_lushr hx hbb hd rfl (g2 H locs cells slots ls I)
  · obtain ⟨pp, hd, hn, -⟩ := ps_at2 hok g0 rfl
    cases g1
    subst hn
    exact W.lcmp hx hbb hd (g2 H locs cells slots ls I)
  · cases g1
theorem ps_dop (E : ps_E p R s m args meth c md kp base adk nf D dA hb sb h0 s0) : pr_dop kp md C hb sb Q (ps_PP p l e R s m args below meth c QQ md base adk nf D dA hb sb h0 s0) := by
  obtain ⟨hx, hbb, hr, hml, hown, hts, hlk, hnm, hK, hKC, hbs, hnf, hRc, hRs, hh, hok, hfr, hlo⟩ := E
  intro pc nx a b lv st h i v x y cc g0 g1 g2 g3 H locs cells slots ls I
  unfold pm_dop at g1
  split at g1
  · obtain ⟨pp, hd, hn, -⟩ := ps_at2 hok g0 rfl
    cases g1
    subst hn
    exact lv_idiv hx hbb hd g2 (g3 H locs cells slots ls I)
  · obtain ⟨pp, hd, hn, -⟩ := ps_at2 hok g0 rfl
    cases g1
    subst hn
    exact lv_irem hx hbb hd g2 (g3 H locs cells slots ls I)
  · obtain ⟨pp, hd, hn, -⟩ := ps_at2 hok g0 rfl
    cases g1
    subst hn
    exact lv_ldiv hx hbb hd g2 (g3 H locs cells slots ls I)
  · obtain ⟨pp, hd, hn, -⟩ := ps_at2 hok g0 rfl
    cases g1
    subst hn
    exact lv_lrem hx hbb hd g2 (g3 H locs cells slots ls I)
  · cases g1
theorem ps_uop (E : ps_E p R s m args meth c md kp base adk nf D dA hb sb h0 s0) : pr_uop kp md C hb sb Q (ps_PP p l e R s m args below meth c QQ md base adk nf D dA hb sb h0 s0) := by
  obtain ⟨hx, hbb, hr, hml, hown, hts, hlk, hnm, hK, hKC, hbs, hnf, hRc, hRs, hh, hok, hfr, hlo⟩ := E
  intro pc nx a b lv st h i v x g0 g1 g2 H locs cells slots ls I
  unfold pm_uop at g1
  split at g1
  · obtain ⟨pp, hd, hn, -⟩ := ps_at2 hok g0 rfl
    cases g1
    subst hn
    exact lv_ineg hx hbb hd (g2 H locs cells slots ls I)
  · obtain ⟨pp, hd, hn, -⟩ := ps_at2 hok g0 rfl
    cases g1
    subst hn
    exact lv_lneg hx hbb hd (g2 H locs cells slots ls I)
  · obtain ⟨pp, hd, hn, -⟩ := ps_at2 hok g0 rfl
    cases g1
    subst hn
    exact lv_i2l hx hbb hd rfl (g2 H locs cells slots ls I)
  · obtain ⟨pp, hd, hn, -⟩ := ps_at2 hok g0 rfl
    cases g1
    subst hn
    exact lv_l2i hx hbb hd rfl (g2 H locs cells slots ls I)
  · obtain ⟨pp, hd, hn, -⟩ := ps_at2 hok g0 rfl
    cases g1
    subst hn
    exact lv_i2b hx hbb hd rfl (g2 H locs cells slots ls I)
  · obtain ⟨pp, hd, hn, -⟩ := ps_at2 hok g0 rfl
    cases g1
    subst hn
    exact lv_i2c hx hbb hd rfl (g2 H locs cells slots ls I)
  · cases g1
theorem ps_sop (E : ps_E p R s m args meth c md kp base adk nf D dA hb sb h0 s0) : pr_sop kp md C hb sb Q (ps_PP p l e R s m args below meth c QQ md base adk nf D dA hb sb h0 s0) := by
  obtain ⟨hx, hbb, hr, hml, hown, hts, hlk, hnm, hK, hKC, hbs, hnf, hRc, hRs, hh, hok, hfr, hlo⟩ := E
  intro pc nx a b lv st h i st1 g0 g1 g2 H locs cells slots ls I
  unfold pm_sop at g1
  split at g1
  · obtain ⟨pp, hd, hn, -⟩ := ps_at2 hok g0 rfl
    subst hn
    rename_i v r
    cases hc : Nat.beq v.category 1 with
    | false => rw [hc] at g1; cases g1
    | true =>
      rw [hc] at g1
      cases g1
      exact lv_dup hx hbb hd (by rw [ps_cv_cat hnf]; exact Nat.eq_of_beq_eq_true hc) (g2 H locs cells slots ls I)
  · obtain ⟨pp, hd, hn, -⟩ := ps_at2 hok g0 rfl
    subst hn
    rename_i v r
    cases hc : Nat.beq v.category 1 with
    | false => rw [hc] at g1; cases g1
    | true =>
      rw [hc] at g1
      cases g1
      exact lv_pop hx hbb hd (by rw [ps_cv_cat hnf]; exact Nat.eq_of_beq_eq_true hc) (g2 H locs cells slots ls I)
  · obtain ⟨pp, hd, hn, -⟩ := ps_at2 hok g0 rfl
    subst hn
    rename_i v w r
    cases hc : (Nat.beq v.category 1 && Nat.beq w.category 1) with
    | false => rw [hc] at g1; cases g1
    | true =>
      rw [hc] at g1
      cases g1
      obtain ⟨q1, q2⟩ := Bool.and_eq_true_iff.mp hc
      exact lv_dup_x1 hx hbb hd (by rw [ps_cv_cat hnf]; exact Nat.eq_of_beq_eq_true q1) (by rw [ps_cv_cat hnf]; exact Nat.eq_of_beq_eq_true q2) (g2 H locs cells slots ls I)
  · obtain ⟨pp, hd, hn, -⟩ := ps_at2 hok g0 rfl
    subst hn
    rename_i v r
    cases hc : Nat.beq v.category 2 with
    | true =>
      rw [hc] at g1
      cases g1
      exact lv_dup2_2 hx hbb hd (by rw [ps_cv_cat hnf]; exact Nat.eq_of_beq_eq_true hc) (g2 H locs cells slots ls I)
    | false =>
      rw [hc] at g1
      cases r with
      | nil => cases g1
      | cons w r =>
        dsimp only [cond_false] at g1
        cases hd1 : (Nat.beq v.category 1 && Nat.beq w.category 1) with
        | false => rw [hd1] at g1; cases g1
        | true =>
          rw [hd1] at g1
          cases g1
          obtain ⟨q1, q2⟩ := Bool.and_eq_true_iff.mp hd1
          exact lv_dup2_11 hx hbb hd (by rw [ps_cv_cat hnf]; exact Nat.eq_of_beq_eq_true q1) (by rw [ps_cv_cat hnf]; exact Nat.eq_of_beq_eq_true q2) (g2 H locs cells slots ls I)
  · cases g1
theorem ps_inn (E : ps_E p R s m args meth c md kp base adk nf D dA hb sb h0 s0) : pr_inn kp md C hb sb Q (ps_PP p l e R s m args below meth c QQ md base adk nf D dA hb sb h0 s0) := by
  obtain ⟨hx, hbb, hr, hml, hown, hts, hlk, hnm, hK, hKC, hbs, hnf, hRc, hRs, hh, hok, hfr, hlo⟩ := E
  intro pc nx a b lv st h n o g0 g1 H locs cells slots ls I
  obtain ⟨pp, hd, hn, hw⟩ := ps_at2 hok g0 rfl
  subst hn
  exact lv_ifnonnull hx hbb hd (of_decide_eq_true hw) (g1 H locs cells slots ls I)
theorem ps_goto (E : ps_E p R s m args meth c md kp base adk nf D dA hb sb h0 s0) : pr_goto kp md C hb sb Q (ps_PP p l e R s m args below meth c QQ md base adk nf D dA hb sb h0 s0) := by
  obtain ⟨hx, hbb, hr, hml, hown, hts, hlk, hnm, hK, hKC, hbs, hnf, hRc, hRs, hh, hok, hfr, hlo⟩ := E
  intro pc nx a b lv st h n g0 g1 H locs cells slots ls I
  obtain ⟨pp, hd, hn, hw⟩ := ps_at2 hok g0 rfl
  exact lv_goto hx hbb hd (of_decide_eq_true hw) (g1 H locs cells slots ls I)
theorem ps_ifc (E : ps_E p R s m args meth c md kp base adk nf D dA hb sb h0 s0) : pr_ifc kp md C hb sb Q (ps_PP p l e R s m args below meth c QQ md base adk nf D dA hb sb h0 s0) := by
  obtain ⟨hx, hbb, hr, hml, hown, hts, hlk, hnm, hK, hKC, hbs, hnf, hRc, hRs, hh, hok, hfr, hlo⟩ := E
  intro pc nx a b lv st h cc n x g0 g1 g2 H locs cells slots ls I
  cases cc
  · obtain ⟨pp, hd, hn, hw⟩ := ps_at2 hok g0 rfl
    subst hn
    exact lv_if_eq hx hbb hd (of_decide_eq_true hw) (fun q => g1 q H locs cells slots ls I) (fun q => g2 q H locs cells slots ls I)
  · obtain ⟨pp, hd, hn, hw⟩ := ps_at2 hok g0 rfl
    subst hn
    exact lv_if_ne hx hbb hd (of_decide_eq_true hw) (fun q => g1 q H locs cells slots ls I) (fun q => g2 (fun z => z q) H locs cells slots ls I)
  · obtain ⟨pp, hd, hn, hw⟩ := ps_at2 hok g0 rfl
    subst hn
    exact lv_if_lt hx hbb hd (of_decide_eq_true hw) (fun q => g1 q H locs cells slots ls I) (fun q => g2 q H locs cells slots ls I)
  · obtain ⟨pp, hd, hn, hw⟩ := ps_at2 hok g0 rfl
    subst hn
    exact lv_if_ge hx hbb hd (of_decide_eq_true hw) (fun q => g1 q H locs cells slots ls I) (fun q => g2 q H locs cells slots ls I)
  · obtain ⟨pp, hd, hn, hw⟩ := ps_at2 hok g0 rfl
    subst hn
    exact lv_if_gt hx hbb hd (of_decide_eq_true hw) (fun q => g1 q H locs cells slots ls I) (fun q => g2 q H locs cells slots ls I)
  · obtain ⟨pp, hd, hn, hw⟩ := ps_at2 hok g0 rfl
    subst hn
    exact lv_if_le hx hbb hd (of_decide_eq_true hw) (fun q => g1 q H locs cells slots ls I) (fun q => g2 q H locs cells slots ls I)
theorem ps_icm (E : ps_E p R s m args meth c md kp base adk nf D dA hb sb h0 s0) : pr_icm kp md C hb sb Q (ps_PP p l e R s m args below meth c QQ md base adk nf D dA hb sb h0 s0) := by
  obtain ⟨hx, hbb, hr, hml, hown, hts, hlk, hnm, hK, hKC, hbs, hnf, hRc, hRs, hh, hok, hfr, hlo⟩ := E
  intro pc nx a b lv st h cc n x y g0 g1 g2 H locs cells slots ls I
  cases cc
  · obtain ⟨pp, hd, hn, hw⟩ := ps_at2 hok g0 rfl
    subst hn
    exact lv_icmp_eq hx hbb hd (of_decide_eq_true hw) (fun q => g1 q H locs cells slots ls I) (fun q => g2 q H locs cells slots ls I)
  · obtain ⟨pp, hd, hn, hw⟩ := ps_at2 hok g0 rfl
    subst hn
    exact lv_icmp_ne hx hbb hd (of_decide_eq_true hw) (fun q => g1 q H locs cells slots ls I) (fun q => g2 (fun z => z q) H locs cells slots ls I)
  · obtain ⟨pp, hd, hn, hw⟩ := ps_at2 hok g0 rfl
    subst hn
    exact lv_icmp_lt hx hbb hd (of_decide_eq_true hw) (fun q => g1 q H locs cells slots ls I) (fun q => g2 q H locs cells slots ls I)
  · obtain ⟨pp, hd, hn, hw⟩ := ps_at2 hok g0 rfl
    subst hn
    exact lv_icmp_ge hx hbb hd (of_decide_eq_true hw) (fun q => g1 q H locs cells slots ls I) (fun q => g2 q H locs cells slots ls I)
  · obtain ⟨pp, hd, hn, hw⟩ := ps_at2 hok g0 rfl
    subst hn
    exact lv_icmp_gt hx hbb hd (of_decide_eq_true hw) (fun q => g1 q H locs cells slots ls I) (fun q => g2 q H locs cells slots ls I)
  · obtain ⟨pp, hd, hn, hw⟩ := ps_at2 hok g0 rfl
    subst hn
    exact lv_icmp_le hx hbb hd (of_decide_eq_true hw) (fun q => g1 q H locs cells slots ls I) (fun q => g2 q H locs cells slots ls I)
theorem ps_tso (E : ps_E p R s m args meth c md kp base adk nf D dA hb sb h0 s0) : pr_tso kp md C hb sb Q (ps_PP p l e R s m args below meth c QQ md base adk nf D dA hb sb h0 s0) := by
  obtain ⟨hx, hbb, hr, hml, hown, hts, hlk, hnm, hK, hKC, hbs, hnf, hRc, hRs, hh, hok, hfr, hlo⟩ := E
  intro pc nx a b lv st h d lo hi os x t g0 g1 g2 g3 H locs cells slots ls I
  obtain ⟨pp, hd, -, -⟩ := ps_at1 hok g0
  exact lv_tableOut hx hbb hd g1 g2 (g3 H locs cells slots ls I)
theorem ps_tsi (E : ps_E p R s m args meth c md kp base adk nf D dA hb sb h0 s0) : pr_tsi kp md C hb sb Q (ps_PP p l e R s m args below meth c QQ md base adk nf D dA hb sb h0 s0) := by
  obtain ⟨hx, hbb, hr, hml, hown, hts, hlk, hnm, hK, hKC, hbs, hnf, hRc, hRs, hh, hok, hfr, hlo⟩ := E
  intro pc nx a b lv st h d lo hi off os x t g0 g1 g2 g3 g4 g5 H locs cells slots ls I
  obtain ⟨pp, hd, -, -⟩ := ps_at1 hok g0
  exact lv_tableIn hx hbb hd g1 g2 g3 g4 (g5 H locs cells slots ls I)
theorem ps_lsw (E : ps_E p R s m args meth c md kp base adk nf D dA hb sb h0 s0) : pr_lsw kp md C hb sb Q (ps_PP p l e R s m args below meth c QQ md base adk nf D dA hb sb h0 s0) := by
  obtain ⟨hx, hbb, hr, hml, hown, hts, hlk, hnm, hK, hKC, hbs, hnf, hRc, hRs, hh, hok, hfr, hlo⟩ := E
  intro pc nx a b lv st h d ps x t g0 g1 g2 g3 H locs cells slots ls I
  obtain ⟨pp, hd, -, -⟩ := ps_at1 hok g0
  exact lv_lookup hx hbb hd g1 rfl g2 (g3 H locs cells slots ls I)
end PSV
