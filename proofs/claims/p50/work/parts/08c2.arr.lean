/-! ARRAYS THAT ARE CLONED AND COPIED, arrays of Strings and of arrays -/
section NMC
variable {p : Program} {l : Launch} {e : Env} {R : Room} {s : State} {m : MethodId} {args : Array Value} {below : List Frame} {meth : Method} {c : Code} {H : Heap} {locs : List Loc} {cells slots : Nat} {Q : State → Prop} {cc : ByteArray} {pc : Nat} {ls : Array Slot} {rest : List Value} {a : Nat}
/-- a clone: the new cell is the heap's last -/
theorem nm_clone (hexec : p.tables.exec = Jvm.exec) (hb : c.code = cc) (hml : c.maxLocals = ls.size) {own ad : String} {index : Nat} (hown : s.vm.findClass own = some m.cls)
    (hlink : (Cond.methodLink own index ⟨ad, "clone", "()Ljava/lang/Object;"⟩).before args s = true) (hsame : (Cond.sameMethod ad "java/lang/Object" "clone" "()Ljava/lang/Object;").before args s = true)
    (hnat : (Cond.native ps_ocl).before args s = true) (hinst : (Cond.instanceMethod ps_ocl).before args s = true) (hsel : (Cond.selects ad ⟨ad, "clone", "()Ljava/lang/Object;"⟩ ps_ocl).before args s = true) (hcl : va_Nw (.castable ad "java/lang/Cloneable") s)
    {cA : ClassId} {x : vp_A} {ty : FieldType} (ha : H[a]? = some (vp_cell cA x)) (hty : ArrOfT s cA ty) (hnm : s.vm.findClass ad = some cA) (hfit : ∀ (i : Nat) (v : Value), (vp_cell cA x).slots[i]? = some v → fits ty v = true)
    (hframes : 1 ≤ R.frames) (hlocals : (rest.map fun v => v.category).sum + 14 ≤ R.locals) (hcells : cells + 1 ≤ R.cells) (hslots : slots + x.1 ≤ R.slots) (hdg : decode cc pc = .ok (.invokevirtual index, 3))
    (kk : W p l e R s m args below meth c (H.push (vp_cell cA x)) locs (cells + 1) (slots + x.1) Q (F0 m (pc + 3) ls (.ref H.size :: rest))) : W p l e R s m args below meth c H locs cells slots Q (F0 m pc ls (.ref a :: rest)) := by
  have hsz : (vp_cell cA x).slots.size = x.1 := by
    obtain ⟨n, f | f | f | f | f⟩ := x <;> exact arrV_size _ _ _
  have hvm : (vp_cell cA x).vm = .none := by
    obtain ⟨n, f | f | f | f | f⟩ := x <;> rfl
  have hcA : (vp_cell cA x).cls = cA := by
    obtain ⟨n, f | f | f | f | f⟩ := x <;> rfl
  have hE : ({ cls := (vp_cell cA x).cls, slots := (vp_cell cA x).slots } : Cell) = vp_cell cA x := by
    obtain ⟨n, f | f | f | f | f⟩ := x <;> rfl
  obtain ⟨c0, t0, f1, f2, f3⟩ := Cond.castable_spec (va_Nw.use (A := args) rfl hcl)
  have e0 : c0 = cA := Option.some.inj (f1.symm.trans hnm)
  subst e0
  intro T hT X
  obtain ⟨-, kA, hkA, comp, hkind⟩ := State.isArrayOf_alike X.warmed.alike (hty 0 (fun _ => .null))
  obtain ⟨-, kS, hkS, compS, hkindS⟩ := hty 0 (fun _ => .null)
  obtain ⟨vm', X', st⟩ := X.cloneArray hexec hown hlink hsame hnat hinst hsel (a := a) (cell := vp_cell c0 x) (by rw [hT]; exact ha) (fun k h => by rw [hvm] at h; cases h) (by rw [hvm]; exact fun h => by cases h) (by rw [hcA]; exact hnm) f2 (by rw [hcA]; exact f3)
    (fun i v hv => by
      rw [hcA]
      have hk' : T.vm.classes[c0]? = some kA := hkA
      simpa [State.fitsSlot, State.slotType?, hk', hkind] using hfit i v hv)
    (g := F0 m pc ls (.ref a :: rest)) rfl (by rw [hml]) rfl (by rw [hb]; exact hdg) hframes (by show 2 * 0 + _ + 14 ≤ _; omega) hcells (by rw [hsz]; exact hslots) (hloader := by rw [hcA]; exact Vm.clonesLoader_of_array hkS hkindS)
  rw [hE, hsz] at X'
  obtain ⟨t, b1, b2⟩ := kk ((T.setVm vm').pushCell (vp_cell c0 x)) (by rw [← hT]; rfl) X'
  refine ⟨t, st t ?_, b2⟩
  rw [hE, hT]
  exact b1
/-- bytes of a given array, put into one of ours -/
theorem nm_copy (hexec : p.tables.exec = Jvm.exec) (hb : c.code = cc) (hml : c.maxLocals = ls.size) {own : String} {index : Nat} (hown : s.vm.findClass own = some m.cls) (hlink : (Cond.methodLink own index arraycopyName).before args s = true) (hnat : (Cond.native arraycopyName).before args s = true) (hstat : (Cond.static arraycopyName).before args s = true) (hini : (Cond.initialized "java/lang/System").before args s = true)
    {A : Nat → Prop} (hS : va_S A s.heap H locs) {b0 n0 : Nat} {f : Nat → Int32} (hX : va_T .byte b0 n0 (fun j => .int (f j)) A s s.heap) {c1 : ClassId} {n1 : Nat} {g : Nat → Int32} (ha1 : H[a]? = some (vp_cell c1 (n1, .inl g))) (ht1 : ArrOfT s c1 .byte) (hA : A a)
    {sp dp n : Int32} (h1 : ¬ sp < 0) (h2 : ¬ dp < 0) (h3 : ¬ n < 0) (h4 : sp.toNatClampNeg + n.toNatClampNeg ≤ n0) (h5 : dp.toNatClampNeg + n.toNatClampNeg ≤ n1) (hfit : ∀ i : Nat, i < n.toNatClampNeg → fits .byte (.int (f (sp.toNatClampNeg + i))) = true)
    (hframes : 1 ≤ R.frames) (hlocals : (rest.map fun v => v.category).sum + (nativeFrameWords "java/lang/System" "arraycopy" 5 + 11) ≤ R.locals) (hdg : decode cc pc = .ok (.invokestatic index, 3))
    (kk : ∀ (H1 : Heap) (locs1 : List Loc), H1.size = H.size → H1[a]? = some (vp_cell c1 (n1, .inl (va_cpy f g sp.toNatClampNeg dp.toNatClampNeg n.toNatClampNeg))) → (∀ q, q ≠ a → H1[q]? = H[q]?) → (∀ x ∈ locs1, A x.base) → W p l e R s m args below meth c H1 locs1 cells slots Q (F0 m (pc + 3) ls rest)) : W p l e R s m args below meth c H locs cells slots Q (F0 m pc ls (.int n :: .int dp :: .ref a :: .int sp :: .ref b0 :: rest)) := by
  have nn : ∀ z : Int32, ¬ z < 0 → z.toInt = (z.toNatClampNeg : Int) := by
    intro z hz
    have hz0 : (0 : Int) ≤ z.toInt := by
      have := Int32.not_lt.mp hz
      simpa using Int32.le_iff_toInt_le.mp this
    show z.toInt = ((z.toInt.toNat : Nat) : Int)
    omega
  intro T hT X
  obtain ⟨scr, hs1, hs2, hs3, hs4, -, hs5, hs7⟩ := hX
  have hc0 : H[b0]? = some scr := by rw [hS.2.1 b0 (Array.getElem?_eq_some_iff.mp hs1).1 hs7]; exact hs1
  obtain ⟨hs6, k0, hk0, cm0, hkk0⟩ := hs2
  obtain ⟨-, k1, hk1, cm1, hkk1⟩ := ht1 n1 (fun j => .int (g j))
  obtain ⟨vm', X', step⟩ := X.arraycopy hexec hown hlink hnat hstat hini (src := b0) (dst := a) (cs := scr) (cd := vp_cell c1 (n1, .inl g)) (srcPos := sp) (destPos := dp) (n := n) (by rw [hT]; exact hc0) (by rw [hT]; exact ha1)
    hs6 (fun _ h => by cases h) hs3 (fun h => by cases h) hk0 hk1 hkk0 hkk1 (by simp [refKind]) h1 h2 h3
    (by rw [nn sp h1, nn n h3]; omega)
    (by rw [nn dp h2, nn n h3]; show ¬ _ > ((arrV c1 n1 (fun j => .int (g j))).slots.size : Int); rw [arrV_size]; omega)
    (fun vm₁ _ i hi => by
      have e : scr.slots.getD (sp.toNatClampNeg + i) .null = .int (f (sp.toNatClampNeg + i)) := by
        rw [Array.getD_eq_getD_getElem?, hs5 _ (by omega)]
        rfl
      exact ⟨by rw [e]; exact hfit i hi, by rw [e]; exact trivial⟩)
    (g := F0 m pc ls (.int n :: .int dp :: .ref a :: .int sp :: .ref b0 :: rest)) rfl (by rw [hml]) (rest := rest) rfl (by rw [hb]; exact hdg) hframes (by show 2 * 0 + _ + _ ≤ _; omega)
  have e1 : copied scr (vp_cell c1 (n1, .inl g)) sp dp n = vp_cell c1 (n1, .inl (va_cpy f g sp.toNatClampNeg dp.toNatClampNeg n.toNatClampNeg)) := va_copiedX (fun z => .int z) scr c1 f g hs5 h4
  rw [e1] at X' step
  have hl : a < H.size := (Array.getElem?_eq_some_iff.mp ha1).1
  obtain ⟨t, a1, b1⟩ := kk (H.setIfInBounds a (vp_cell c1 (n1, .inl (va_cpy f g sp.toNatClampNeg dp.toNatClampNeg n.toNatClampNeg)))) _ (by simp) (by simp [Array.getElem?_setIfInBounds, hl]) (fun q hq => by simp [Array.getElem?_setIfInBounds, Ne.symm hq]) (fun x hx => by
      rcases List.mem_append.mp hx with h | h
      · exact hS.2.2 x h
      · obtain ⟨z, -, hz⟩ := List.mem_map.mp h
        rw [← hz]
        exact hA) _ (by rw [← hT]; rfl) X'
  exact ⟨t, step t a1, b1⟩
end NMC
section PSA
variable {p : Program} {l : Launch} {e : Env} {R : Room} {s : State} {m : MethodId} {args : Array Value} {below : List Frame} {meth : Method} {c : Code} {QQ : State → Prop} {md : pm_M} {kp : pm_K} {base : Nat} {adk : Nat → Nat} {nf : Value} {D : va_G} {dA : Nat → ClassId} {hb sb h0 s0 : Nat} {C : pm_C} {Q : Option Value → pm_H → Prop}
theorem ps_cca (E : ps_E p R s m args meth c md kp base adk nf D dA hb sb h0 s0) : pr_cca kp md C hb sb Q (ps_PP p l e R s m args below meth c QQ md base adk nf D dA hb sb h0 s0) := by
  obtain ⟨hx, hbb, hr, hml, hown, hts, hlk, hnm, hK, hKC, hbs, hnf, hRc, hRs, hh, hok, hfr, hlo⟩ := E
  intro pc nx a b lv st h n o x g0 g1 g2 g3 H locs cells slots ls I
  obtain ⟨pp, hd, hn, hw⟩ := ps_at2 hok g0 rfl
  subst hn
  have he := ps_cw_at (dA := dA) (ad := ps_ad base adk) (nf := nf) g2
  have hw : ps_w pp (.classLink md.1.cls n (bif Nat.beq a 0 then "[I" else "[Z")) = true := hw
  rcases g1 with rfl | rfl
  · exact va_castA hx hbb hown (hts _ (ps_w_in hw)) I.2.1 o he (hK.2 0 _ rfl).2 hd (g3 H locs cells slots ls I)
  · exact va_castA hx hbb hown (hts _ (ps_w_in hw)) I.2.1 o he (hK.2 3 _ rfl).2 hd (g3 H locs cells slots ls I)
theorem ps_aak (E : ps_E p R s m args meth c md kp base adk nf D dA hb sb h0 s0) : pr_aak kp md C hb sb Q (ps_PP p l e R s m args below meth c QQ md base adk nf D dA hb sb h0 s0) := by
  obtain ⟨hx, hbb, hr, hml, hown, hts, hlk, hnm, hK, hKC, hbs, hnf, hRc, hRs, hh, hok, hfr, hlo⟩ := E
  intro pc nx a b lv st h o n r f j g0 g1 g2 r1 r2 g4 H locs cells slots ls I
  obtain ⟨pp, hd, hn, -⟩ := ps_at2 hok g0 rfl
  subst hn
  have he := ps_cw_at (dA := dA) (ad := ps_ad base adk) (nf := nf) g1
  have hD : va_D (fun q => base ≤ q) (ps_cw dA (ps_ad base adk) nf h) := ps_D (by have := I.2.2.2.2.1; omega) (fun q z => z)
  have hlt : j.toNatClampNeg < n := Nat.not_le.mp fun q => g2 (Or.inr q)
  have hj : ¬ j < 0 := fun q => g2 (Or.inl q)
  obtain ⟨i, rfl⟩ : ∃ i, r = 1000010 + i := ⟨r - 1000010, by omega⟩
  obtain ⟨cellV, v1, v2, v3⟩ := vk_recv hKC.2.2.2.2.2.2.2.1 (show i < 9 by omega) I.2.2.1
  obtain ⟨kV, hkV, -⟩ := Vm.findClass_spec v3
  obtain ⟨kA, comp, q1, q2, q3, -⟩ := (hK.2 7 _ rfl).2
  obtain ⟨kE, hkE, -⟩ := Vm.findClass_spec q3
  have ec : comp = cellV.cls := Option.some.inj (q3.symm.trans v3)
  rw [List.map_cons, List.map_cons, List.map_cons, ps_cvk (show 1000000 ≤ 1000010 + i by omega)]
  refine W.aast hx hbb (I.2.1 o _ he) (fun q h => by cases h) (fun h => by cases h) q1 q2 rfl hkE ⟨hj, by show _ < (arrV _ _ _).slots.size; rw [arrV_size]; exact hlt⟩ v1 (fun q h => by rw [h] at v2; cases v2) hkV (by rw [ec]; exact va_asg _ _) rfl rfl hd fun H1 e1 z1 oq => ?_
  refine g4 H1 _ cells slots ls (ps_Iset I g1 (by rfl) ?_ ?_ z1)
  · rw [ps_cw_set]
    refine I.2.1.set hD he ?_ oq
    show H1[_]? = some (vp_cell _ _)
    rw [e1]
    dsimp only [ps_ca]
    rw [vp_cell_q, vp_cell_q, arrV_store]
    congr 2
    funext q
    by_cases hq : q = j.toNatClampNeg
    · subst hq
      have e9 : ps_ad base adk (1000010 + i) = adk (1000010 + i) := ps_adk (by omega)
      simp [updV, va_up, va_rf, e9]
    · simp [updV, va_up, hq]
  · exact I.2.2.1.put z1 oq (hD.2 o _ he)
theorem ps_aam (E : ps_E p R s m args meth c md kp base adk nf D dA hb sb h0 s0) : pr_aam kp md C hb sb Q (ps_PP p l e R s m args below meth c QQ md base adk nf D dA hb sb h0 s0) := by
  obtain ⟨hx, hbb, hr, hml, hown, hts, hlk, hnm, hK, hKC, hbs, hnf, hRc, hRs, hh, hok, hfr, hlo⟩ := E
  intro pc nx a b lv st h o n r f j x g0 g1 g2 g3 g4 H locs cells slots ls I
  obtain ⟨pp, hd, hn, -⟩ := ps_at2 hok g0 rfl
  subst hn
  have he := ps_cw_at (dA := dA) (ad := ps_ad base adk) (nf := nf) g1
  have hv := ps_cw_at (dA := dA) (ad := ps_ad base adk) (nf := nf) g3
  have hD : va_D (fun q => base ≤ q) (ps_cw dA (ps_ad base adk) nf h) := ps_D (by have := I.2.2.2.2.1; omega) (fun q z => z)
  have hlt : j.toNatClampNeg < n := Nat.not_le.mp fun q => g2 (Or.inr q)
  have hj : ¬ j < 0 := fun q => g2 (Or.inl q)
  have hover : ps_AOZ s := hKC.2.2.2.2.2.2.2.2.2.2.2.2.2.2.2.2.1
  obtain ⟨co, cA, kA, hco, -, hkA, hkindA, hnameA⟩ := arrayOverA_spec (show (Jvm.Cond.arrayOver (.array .boolean)).holds #[] s none s [] = true from hover)
  have e6 : cA = dA 6 := by
    have h1 : s.vm.findClass "[[Z" = some (dA 6) := (hK.2 6 _ rfl).2
    exact Option.some.inj (hnameA.symm.trans h1)
  subst e6
  have e3 : co = dA 3 := by
    have h1 : s.vm.findClass "[Z" = some (dA 3) := (hK.2 3 _ rfl).2
    exact Option.some.inj (hco.symm.trans h1)
  subst e3
  obtain ⟨-, k3, hk3, cm3, hkk3⟩ := (hK.2 3 _ rfl).1 0 (fun _ => .null)
  have hcv : (vp_cell (dA 3) (ps_ca (ps_ad base adk) x)).vm = .none ∧ (vp_cell (dA 3) (ps_ca (ps_ad base adk) x)).cls = dA 3 := by
    obtain ⟨n, f | f | f | f | f⟩ := x <;> exact ⟨rfl, rfl⟩
  refine W.aast hx hbb (I.2.1 o _ he) (fun q h => by cases h) (fun h => by cases h) hkA hkindA rfl hk3 ⟨hj, by show _ < (arrV _ _ _).slots.size; rw [arrV_size]; exact hlt⟩ (I.2.1 r _ hv) (fun q h => by rw [hcv.1] at h; cases h) (by rw [hcv.2]; exact hk3) (by rw [hcv.2]; exact va_asg _ _) rfl rfl hd fun H1 e1 z1 oq => ?_
  refine g4 H1 _ cells slots ls (ps_Iset I g1 (by rfl) ?_ ?_ z1)
  · rw [ps_cw_set]
    refine I.2.1.set hD he ?_ oq
    show H1[_]? = some (vp_cell _ _)
    rw [e1]
    dsimp only [ps_ca]
    rw [vp_cell_q, vp_cell_q, arrV_store]
    congr 2
    funext q
    by_cases hq : q = j.toNatClampNeg
    · subst hq
      simp [updV, va_up, va_rf]
    · simp [updV, va_up, hq]
  · exact I.2.2.1.put z1 oq (hD.2 o _ he)
theorem ps_clo (E : ps_E p R s m args meth c md kp base adk nf D dA hb sb h0 s0) : pr_clo kp md C hb sb Q (ps_PP p l e R s m args below meth c QQ md base adk nf D dA hb sb h0 s0) := by
  obtain ⟨hx, hbb, hr, hml, hown, hts, hlk, hnm, hK, hKC, hbs, hnf, hRc, hRs, hh, hok, hfr, hlo⟩ := E
  intro pc nx a b lv st h n o N f g0 g1 g2 ga g3 gc g4 g5 g6 g7 H locs cells slots ls I
  obtain ⟨pp, hd, hn, hw⟩ := ps_at2 hok g0 rfl
  subst hn
  subst g1
  obtain ⟨i1, i2, i3, i4, i5, i6, i7, i8⟩ := I
  have he := ps_cw_at (dA := dA) (ad := ps_ad base adk) (nf := nf) g3
  have hat := i2 o _ he
  have hcst := hKC.2.2.2.2.2.2.2.2.2.2.2.2.2.2.2.2.2.1
  have hw : ps_w pp (.methodLink md.1.cls n ⟨(bif Nat.beq b 0 then "[I" else "[Z"), "clone", "()Ljava/lang/Object;"⟩) = true := hw
  obtain ⟨⟨w1, w2⟩, ⟨w3, w4⟩, ⟨w5, w6⟩⟩ := ps_clw
  have fin : ∀ (H1 : Heap), H1 = H.push (vp_cell (dA b) (N, .inl f)) → W p l e R s m args below meth c H1 locs (cells + 1) (slots + N) QQ (F0 m (pc + 3) ls (.ref H.size :: st.map (ps_cv (ps_ad base adk) nf))) := by
    intro H1 hH1
    have z1 : H1.size = H.size + 1 := by rw [hH1, Array.size_push]
    have e1 : H1[H.size]? = some (vp_cell (dA b) (N, .inl f)) := by rw [hH1, Array.getElem?_push_size]
    have o1 : ∀ q : Nat, q < H.size → H1[q]? = H[q]? := fun q hq => by rw [hH1, Array.getElem?_push, if_neg (Nat.ne_of_lt hq)]
    have hk : ∀ (k : Nat) (x : Nat × va_E), (ps_cw dA (ps_ad base adk) nf h)[k]? = some x → H1[x.1]? = H[x.1]? := fun k x hx => o1 x.1 ((i2 k x hx).lt)
    have e7 : ps_ad base adk h.length = H.size := by rw [ps_adh (by omega), i4]
    have key := g7 H1 locs (cells + 1) (slots + N) ls ⟨i1, ?_, ⟨Nat.le_trans i3.1 (by omega), fun x h1 h2 => (o1 x (Nat.lt_of_lt_of_le h1 i3.1)).trans (i3.2.1 x h1 h2), i3.2.2⟩, ?_, ?_, ?_, ?_, ?_⟩
    · rw [List.map_cons, show ps_cv (ps_ad base adk) nf (.ref h.length) = .ref H.size by show Value.ref _ = _; rw [e7]] at key
      exact key
    · rw [ps_cw_app, e7]
      refine (i2.kept hk).app (fun k x hx => ?_)
      have hz : k < 1 := (List.getElem?_eq_some_iff.mp hx).1
      rw [show k = 0 by omega] at hx
      cases hx
      exact e1
    · rw [z1, i4, List.length_append]; show _ = base + (h.length + 1); omega
    · rw [List.length_append]; exact g4
    · rw [ps_sl_app]; show _ + (N + 0) ≤ _; omega
    · rw [List.length_append]; show _ ≤ h.length + 1; omega
    · rw [ps_sl_app]; show _ ≤ _ + (N + 0); omega
  have hcat : ((st.map (ps_cv (ps_ad base adk) nf)).map fun v => v.category).sum + 14 ≤ R.locals := by rw [ps_cats hnf]; omega
  have hrd : ∀ (cA : ClassId) (i : Nat) (v : Value), (vp_cell cA (N, .inl f)).slots[i]? = some v → i < N ∧ v = .int (f i) := by
    intro cA i v hv
    have hv2 : (arrV cA N (fun k => .int (f k))).slots[i]? = some v := hv
    by_cases hi : i < N
    · rw [arrV_read _ _ hi] at hv2
      exact ⟨hi, (Option.some.inj hv2).symm⟩
    · rw [Array.getElem?_eq_none (by rw [arrV_size]; omega)] at hv2
      cases hv2
  rcases g2 with rfl | ⟨rfl, hz⟩
  · exact nm_clone hx hbb (by rw [hml]; exact i1.1.symm) hown (hts _ (ps_w_in hw)) (hts _ w3) (hts _ w1) (hts _ w2) (hts _ w4) (hcst ("[I", "java/lang/Cloneable") (by decide)) (x := (N, .inl f)) hat (hK.2 0 _ rfl).1 (hK.2 0 _ rfl).2 (fun i v hv => by rw [(hrd _ i v hv).2]; rfl) hfr hcat (by omega) (by show slots + N ≤ _; omega) hd (fin _ rfl)
  · exact nm_clone hx hbb (by rw [hml]; exact i1.1.symm) hown (hts _ (ps_w_in hw)) (hts _ w5) (hts _ w1) (hts _ w2) (hts _ w6) (hcst ("[Z", "java/lang/Cloneable") (by decide)) (x := (N, .inl f)) hat (hK.2 3 _ rfl).1 (hK.2 3 _ rfl).2 (fun i v hv => by
      obtain ⟨hi, rfl⟩ := hrd _ i v hv
      rcases hz i hi with q | q <;> rw [q] <;> rfl) hfr hcat (by omega) (by show slots + N ≤ _; omega) hd (fin _ rfl)
theorem ps_acp (E : ps_E p R s m args meth c md kp base adk nf D dA hb sb h0 s0) : pr_acp kp md C hb sb Q (ps_PP p l e R s m args below meth c QQ md base adk nf D dA hb sb h0 s0) := by
  obtain ⟨hx, hbb, hr, hml, hown, hts, hlk, hnm, hK, hKC, hbs, hnf, hRc, hRs, hh, hok, hfr, hlo⟩ := E
  intro pc nx a b lv st h n o b0 n0 n1 f g sp dp k g0 g1 g2 g3 g4 g5 g6 g7 g8 gc g9 H locs cells slots ls I
  obtain ⟨pp, hd, hn, hw⟩ := ps_at2 hok g0 rfl
  subst hn
  subst g1
  have hw : ps_w pp (.methodLink md.1.cls n arraycopyName) = true := hw
  have he := ps_cw_at (dA := dA) (ad := ps_ad base adk) (nf := nf) g3
  have hD : va_D (fun q => base ≤ q) (ps_cw dA (ps_ad base adk) nf h) := ps_D (by have := I.2.2.2.2.1; omega) (fun q z => z)
  have hloc : ((st.map (ps_cv (ps_ad base adk) nf)).map fun v => v.category).sum + (nativeFrameWords "java/lang/System" "arraycopy" 5 + 11) ≤ R.locals := by
    rw [ps_cats hnf]
    have : nativeFrameWords "java/lang/System" "arraycopy" 5 + 11 ≤ 22 := by decide +kernel
    omega
  obtain ⟨w1, w2, w3⟩ := ps_sy
  have main : ∀ (hX : va_T .byte (adk b0) n0 (fun j => .int (f j)) (fun q => base ≤ q) s s.heap) (hf : ∀ i, i < n0 → fits .byte (.int (f i)) = true) (hbig : 1000000 ≤ b0), W p l e R s m args below meth c H locs cells slots QQ (F0 m pc ls (List.map (ps_cv (ps_ad base adk) nf) (.int k :: .int dp :: .ref o :: .int sp :: .ref b0 :: st))) := by
    intro hX hf hbig
    simp only [List.map_cons]
    rw [ps_cvk hbig]
    refine nm_copy hx hbb (by rw [hml]; exact I.1.1.symm) hown (hts _ (ps_w_in hw)) (hts _ w2) (hts _ w1) (hts _ w3) I.2.2.1 hX (I.2.1 o _ he) (hK.2 2 _ rfl).1 (hD.2 o _ he) g4 g5 g6 g7 g8 (fun i hi => hf _ (by omega)) hfr hloc hd (fun H1 locs1 z1 e1 oq hl1 => ?_)
    refine g9 H1 locs1 cells slots ls (ps_Iset I g3 (by rfl) ?_ ⟨by rw [z1]; exact I.2.2.1.1, fun q q1 q2 => ?_, hl1⟩ z1)
    · rw [ps_cw_set]
      exact I.2.1.set hD he e1 oq
    · rw [oq q (fun z => q2 (by rw [z]; exact hD.2 o _ he))]
      exact I.2.2.1.2.1 q q1 q2
  rcases ps_kar g2 with ⟨-, e, -⟩ | ⟨-, e, -⟩ | ⟨rfl, -, rfl, e⟩ | ⟨rfl, -, rfl, e⟩ | ⟨i, hi, rfl, -, rfl, e⟩
  · cases e
  · cases e
  · cases e
    have hall : (List.range 100).all (fun i => fits .byte (.int (pm_ones.getD i 0))) = true := by decide +kernel
    exact main hKC.2.2.1 (fun i hi => List.all_eq_true.mp hall i (List.mem_range.mpr hi)) (by omega)
  · cases e
    have hall : (List.range 100).all (fun i => fits .byte (.int (pm_tens.getD i 0))) = true := by decide +kernel
    exact main hKC.2.2.2.2.2.2.2.2.2.2.2.2.1 (fun i hi => List.all_eq_true.mp hall i (List.mem_range.mpr hi)) (by omega)
  · cases e
    have hall : (List.range 9).all (fun i => (List.range 6).all (fun j => fits .byte (.int ((pm_wds.getD i []).getD j 0)))) = true := by decide +kernel
    have h6 : (List.range 9).all (fun i => Nat.ble ([2, 5, 5, 4, 5, 1, 0, 2, 6].getD i 0) 6) = true := by decide +kernel
    have h6i := Nat.le_of_ble_eq_true (List.all_eq_true.mp h6 i (List.mem_range.mpr hi))
    exact main (hKC.2.2.2.2.2.2.2.1.1 i hi).2.2.2 (fun j hj => List.all_eq_true.mp (List.all_eq_true.mp hall i (List.mem_range.mpr hi)) j (List.mem_range.mpr (by omega))) (by omega)
end PSA
