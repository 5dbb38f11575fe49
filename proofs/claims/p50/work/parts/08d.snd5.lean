/-! CALLS, ENDS, THE WHOLE -/
noncomputable def ps_Pc (base : Nat) (adk : Nat → Nat) (nf : Value) (D : va_G) (dA : Nat → ClassId) (kp : pm_K) (as : List Value) (h : pm_H) : Array Value → State → Prop :=
  va_Pc (as.map (ps_cv (ps_ad base adk) nf)) (fun U => U.heap.size = base + h.length ∧ va_P D pt_cl (ps_cw dA (ps_ad base adk) nf h) U.heap ∧ va_K D pt_cl (ps_tys dA) U ∧ ps_KC adk nf kp (fun q => base ≤ q) U U.heap)
def ps_Qc (base : Nat) (adk : Nat → Nat) (nf : Value) (D : va_G) (dA : Nat → ClassId) (r : Option Value) (h1 : pm_H) : Array Value → State → Outcome → State → Prop := fun _ st oc t =>
  oc = .returned (r.map (ps_cv (ps_ad base adk) nf)) ∧ va_P D pt_cl (ps_cw dA (ps_ad base adk) nf h1) t.heap ∧ t.heap.size = base + h1.length ∧ va_F (fun q => base ≤ q) st t
def ps_rm (d : Nat) (h h1 : pm_H) : Room := { frames := d, cells := h1.length - h.length, slots := pm_sl h1 - pm_sl h, locals := 60 * d }
theorem ps_blind {base : Nat} {adk : Nat → Nat} {nf : Value} {D : va_G} {dA : Nat → ClassId} {kp : pm_K} {as : List Value} {h : pm_H} : FrameBlind (ps_Pc base adk nf D dA kp as h) := fun a U g mk q => by
  obtain ⟨q0, q1, q2, q3, q4⟩ := q
  exact ⟨q0, q1, q2, va_K.moved (u := U) (U := U.calling g mk a) (Vm.Alike.refl U.vm) q3, ps_KC.go (s := U) (U := U.calling g mk a) (State.WarmedH.refl U) (fun _ _ _ => rfl) q4⟩
/-- what is known of a relation of calls -/
def ps_CS (l : Launch) (kp : pm_K) (base : Nat) (adk : Nat → Nat) (nf : Value) (D : va_G) (dA : Nat → ClassId) (d : Nat) (C : pm_C) : Prop := ps_CL C ∧ ∀ (k : Nat) (as : List Value) (h : pm_H) (r : Option Value) (h1 : pm_H), C k as h r h1 → ∀ m2, pt_M[k]? = some m2 → (ps_ok m2 && ps_mok m2) = true →
  h1.length ≤ 100000 →
  Met l m2.1 (.code m2.1 m2.2.1 m2.2.2.1 (pm_ret m2) :: ps_T) (ps_rm d h h1) (ps_Pc base adk nf D dA kp as h) (ps_Qc base adk nf D dA r h1) (h1.length - h.length) (pm_sl h1 - pm_sl h) (fun q => base ≤ q)
theorem ps_T_good {m2 : pm_M} (hok : (ps_ok m2 && ps_mok m2) = true) : GoodIn ps_T (.code m2.1 m2.2.1 m2.2.2.1 (pm_ret m2) :: ps_T) := by
  have hg : ∀ w ∈ ps_T, w ∈ ps_T ∧ ((w.onTables && w.keeps) = true ∨ ∃ ty, w = .arrayClass ty) := fun w hw => ⟨hw, good_of_word (List.mem_filter.mp hw).2⟩
  intro w hw
  rcases List.mem_cons.mp hw with rfl | h
  · refine hg _ ?_
    obtain ⟨-, h2⟩ := Bool.and_eq_true_iff.mp hok
    unfold ps_mok at h2
    split at h2
    · simp only [Bool.and_eq_true] at h2
      exact ps_w_in h2.1.1.1.1.1
    · cases h2
  · exact hg w h
/-- the words of a method -/
theorem ps_mw2 {m2 : pm_M} (hok : (ps_ok m2 && ps_mok m2) = true) : Jvm.Cond.code m2.1 m2.2.1 m2.2.2.1 (pm_ret m2) ∈ ps_T ∧ Jvm.Cond.initialized m2.1.cls ∈ ps_T ∧ (m2.1.cls ≠ "java/lang/invoke/MethodHandle" ∧ m2.1.cls ≠ "java/lang/invoke/VarHandle") ∧ plainName m2.1.cls = true ∧ m2.2.2.1 ≤ 40 ∧
    (pm_kind m2 = 1 → Jvm.Cond.static m2.1 ∈ ps_T) ∧ (pm_kind m2 = 2 → Jvm.Cond.instanceMethod m2.1 ∈ ps_T ∧ m2.1.name = "<init>" ∧ pm_ret m2 = none) ∧ (pm_kind m2 = 0 → Jvm.Cond.instanceMethod m2.1 ∈ ps_T ∧ Jvm.Cond.selects m2.1.cls m2.1 m2.1 ∈ ps_T) ∧
    (pm_kind m2 = 3 → Jvm.Cond.instanceMethod m2.1 ∈ ps_T ∧ Jvm.Cond.selects "java/lang/StringBuilder" m2.1 m2.1 ∈ ps_T ∧ Jvm.Cond.sameMethod m2.1.cls m2.1.cls m2.1.name m2.1.desc ∈ ps_T) ∧
    (pm_kind m2 = 4 → Jvm.Cond.instanceMethod m2.1 ∈ ps_T ∧ m2.1.name ≠ "<init>" ∧ m2.1.cls = "java/lang/AbstractStringBuilder" ∧ Jvm.Cond.sameMethod m2.1.cls m2.1.cls m2.1.name m2.1.desc ∈ ps_T) ∧
    (pm_kind m2 = 5 → Jvm.Cond.instanceMethod m2.1 ∈ ps_T ∧ Jvm.Cond.selects "java/lang/StringBuilder" ⟨"java/lang/CharSequence", m2.1.name, m2.1.desc⟩ m2.1 ∈ ps_T ∧ m2.1 ∈ ps_fcs) := by
  obtain ⟨-, h2⟩ := Bool.and_eq_true_iff.mp hok
  unfold ps_mok at h2
  split at h2
  · rename_i k p1 p2 p3 p4 p5 hk
    simp only [Bool.and_eq_true] at h2
    obtain ⟨⟨⟨⟨⟨a1, a2⟩, a3⟩, a4⟩, a5⟩, a6⟩ := h2
    have e : pm_kind m2 = k := by unfold pm_kind; rw [hk]; rfl
    rw [e]
    refine ⟨ps_w_in a1, ps_w_in a2, of_decide_eq_true a3, a4, Nat.le_of_ble_eq_true a5, fun q => ?_, fun q => ?_, fun q => ?_, fun q => ?_, fun q => ?_, fun q => ?_⟩
    · subst q; exact ps_w_in a6
    · subst q
      dsimp only [Nat.beq, cond_true, cond_false] at a6
      simp only [Bool.and_eq_true] at a6
      exact ⟨ps_w_in a6.1.1, of_decide_eq_true a6.1.2, of_decide_eq_true a6.2⟩
    · subst q
      dsimp only [Nat.beq, cond_true, cond_false] at a6
      simp only [Bool.and_eq_true] at a6
      exact ⟨ps_w_in a6.1, ps_w_in a6.2⟩
    · subst q
      dsimp only [Nat.beq, cond_true, cond_false] at a6
      simp only [Bool.and_eq_true] at a6
      exact ⟨ps_w_in a6.1.1, ps_w_in a6.1.2, ps_w_in a6.2⟩
    · subst q
      dsimp only [Nat.beq, cond_true, cond_false] at a6
      simp only [Bool.and_eq_true] at a6
      exact ⟨ps_w_in a6.1.1.1, of_decide_eq_true a6.1.1.2, of_decide_eq_true a6.1.2, ps_w_in a6.2⟩
    · subst q
      dsimp only [Nat.beq, cond_true, cond_false] at a6
      simp only [Bool.and_eq_true] at a6
      refine ⟨ps_w_in a6.1.1, ps_w_in a6.1.2, ?_⟩
      obtain ⟨y, y1, y2⟩ := List.any_eq_true.mp a6.2
      have y2 := of_decide_eq_true y2
      rw [← y2]
      exact y1
  · cases h2
theorem ps_goodU {l : List Cond} {m2 : pm_M} (hok : (ps_ok m2 && ps_mok m2) = true) (h : ∀ w ∈ l, w ∈ ps_T) : GoodIn ps_T (l ++ (Jvm.Cond.code m2.1 m2.2.1 m2.2.2.1 (pm_ret m2) :: ps_T)) := fun w hw =>
  (List.mem_append.mp hw).elim (fun q => ⟨h w q, good_of_word (List.mem_filter.mp (h w q)).2⟩) (ps_T_good hok w)
section PSZ
variable {p : Program} {l : Launch} {e : Env} {R : Room} {s : State} {m : MethodId} {args : Array Value} {below : List Frame} {meth : Method} {c : Code} {QQ : State → Prop} {md : pm_M} {kp : pm_K} {base : Nat} {adk : Nat → Nat} {nf : Value} {D : va_G} {dA : Nat → ClassId} {hb sb h0 s0 : Nat} {C : pm_C} {Q : Option Value → pm_H → Prop}
theorem ps_callg {H : Heap} {locs : List Loc} {cells slots mc ms pc : Nat} {ls : Array Slot} {st0 rest : List Value} {a : Array Value} {r : Option Value} {h1 : pm_H} (hbs : base ≤ s.heap.size)
    (hr : va_Run p l e R s m args below meth c H locs cells slots mc ms (F0 m pc ls st0) rest (ps_Qc base adk nf D dA r h1 a) (fun q => base ≤ q)) (hS : va_S (fun q => base ≤ q) s.heap H locs)
    (kk : ∀ (H1 : Heap) (locs1 : List Loc), va_P D pt_cl (ps_cw dA (ps_ad base adk) nf h1) H1 → H1.size = base + h1.length → va_S (fun q => base ≤ q) s.heap H1 locs1 → W p l e R s m args below meth c H1 locs1 (cells + mc) (slots + ms) QQ (F0 m (pc + 3) ls ((r.map (ps_cv (ps_ad base adk) nf)).toList ++ rest))) :
    W p l e R s m args below meth c H locs cells slots QQ (F0 m pc ls st0) := by
  intro T hT X
  obtain ⟨v, st₀, t, T', L, q0, X', hL, e1, e2, ⟨hv, hp, hz, hzz, hk⟩, st⟩ := hr T hT X
  cases hv
  rw [q0] at hzz hk
  obtain ⟨t2, a1, b1⟩ := kk T'.heap (locs ++ L) (by rw [e1]; exact hp) (by rw [e1]; exact hz)
    ⟨Nat.le_trans hS.1 (by rw [e1]; exact hzz), fun q h1 h2 => by rw [e1, hk q (Nat.lt_of_lt_of_le h1 hS.1) h2]; exact hS.2.1 q h1 h2, fun q hq => by
      rcases List.mem_append.mp hq with h | h
      · exact hS.2.2 q h
      · exact hL q h⟩ T' rfl X'
  exact ⟨t2, st t2 a1, b1⟩
theorem ps_callg5 {H : Heap} {locs : List Loc} {cells slots mc ms pc : Nat} {ls : Array Slot} {st0 rest : List Value} {a : Array Value} {r : Option Value} {h1 : pm_H} (hbs : base ≤ s.heap.size)
    (hr : va_Run5 p l e R s m args below meth c H locs cells slots mc ms (F0 m pc ls st0) rest (ps_Qc base adk nf D dA r h1 a) (fun q => base ≤ q)) (hS : va_S (fun q => base ≤ q) s.heap H locs)
    (kk : ∀ (H1 : Heap) (locs1 : List Loc), va_P D pt_cl (ps_cw dA (ps_ad base adk) nf h1) H1 → H1.size = base + h1.length → va_S (fun q => base ≤ q) s.heap H1 locs1 → W p l e R s m args below meth c H1 locs1 (cells + mc) (slots + ms) QQ (F0 m (pc + 5) ls ((r.map (ps_cv (ps_ad base adk) nf)).toList ++ rest))) :
    W p l e R s m args below meth c H locs cells slots QQ (F0 m pc ls st0) := by
  intro T hT X
  obtain ⟨v, st₀, t, T', L, q0, X', hL, e1, e2, ⟨hv, hp, hz, hzz, hk⟩, st⟩ := hr T hT X
  cases hv
  rw [q0] at hzz hk
  obtain ⟨t2, a1, b1⟩ := kk T'.heap (locs ++ L) (by rw [e1]; exact hp) (by rw [e1]; exact hz)
    ⟨Nat.le_trans hS.1 (by rw [e1]; exact hzz), fun q h1 h2 => by rw [e1, hk q (Nat.lt_of_lt_of_le h1 hS.1) h2]; exact hS.2.1 q h1 h2, fun q hq => by
      rcases List.mem_append.mp hq with h | h
      · exact hS.2.2 q h
      · exact hL q h⟩ T' rfl X'
  exact ⟨t2, st t2 a1, b1⟩
theorem ps_pu (ad : Nat → Nat) (r : Option Value) (rest : List Value) : (r.map (ps_cv ad nf)).toList ++ rest.map (ps_cv ad nf) = (pm_pu r rest).map (ps_cv ad nf) := by
  cases r <;> rfl
theorem ps_kst {k n : Nat} (h : pm_knd k n) : ∃ m2, pt_M[k]? = some m2 ∧ pm_kind m2 = n := by
  unfold pm_knd at h
  cases hk : pt_M[k]? with
  | none => rw [hk] at h; cases h
  | some m2 => rw [hk] at h; exact ⟨m2, rfl, Option.some.inj h⟩
theorem ps_okk (hall : ∀ md ∈ pt_M, ps_own md) {k n : Nat} {m2 : pm_M} (h : pt_M[k]? = some m2) (hn : pm_kind m2 = n + 1 ∨ m2.2.2.2.2.2.1 ≠ []) : (ps_ok m2 && ps_mok m2) = true := by
  rcases hall m2 (List.mem_of_getElem? h) with q | q
  · exact q
  · rcases hn with hn | hn
    · unfold pm_kind at hn
      rw [q.1] at hn
      cases hn
    · exact absurd q.1 hn
theorem ps_room {h h1 : pm_H} {cells slots : Nat} (hbh : h1.length ≤ hb) (hsb : pm_sl h1 ≤ sb) (i7 : cells + h0 ≤ h.length) (i8 : slots + s0 ≤ pm_sl h) (e1 : h.length ≤ h1.length) (e2 : pm_sl h ≤ pm_sl h1) (hRc : hb ≤ R.cells + h0) (hRs : sb ≤ R.slots + s0) :
    cells + (h1.length - h.length) ≤ R.cells ∧ slots + (pm_sl h1 - pm_sl h) ≤ R.slots := by omega
theorem ps_lawk {a : Nat} {m2 : pm_M} (h : pt_M[a]? = some m2) (z : m2.2.2.2.2.2.1 = []) : pm_mci a = none := by
  have hl : (List.range pt_M.length).all (fun k => match pt_M[k]? with
      | some q => (match q.2.2.2.2.2.1 with
        | [] => decide (pm_mci k = none) && decide (q.1.cls = "TurnFieldLaw")
        | _ => true)
      | none => true) = true := by decide +kernel
  have h1 := List.all_eq_true.mp hl a (List.mem_range.mpr (List.getElem?_eq_some_iff.mp h).1)
  rw [h] at h1
  dsimp only at h1
  rw [z] at h1
  exact of_decide_eq_true (Bool.and_eq_true_iff.mp h1).1
theorem ps_lawc {a : Nat} {m2 : pm_M} (h : pt_M[a]? = some m2) (z : m2.2.2.2.2.2.1 = []) : m2.1.cls = "TurnFieldLaw" := by
  have hl : pt_M.all (fun q => match q.2.2.2.2.2.1 with
        | [] => decide (q.1.cls = "TurnFieldLaw")
        | _ => true) = true := by decide +kernel
  have h1 := List.all_eq_true.mp hl m2 (List.mem_of_getElem? h)
  rw [z] at h1
  exact of_decide_eq_true h1
theorem ps_small {a : Nat} {m2 : pm_M} (h : pt_M[a]? = some m2) : a < 1000 := by
  have h1 := (List.getElem?_eq_some_iff.mp h).1
  have h2 : pt_M.length < 1000 := by decide +kernel
  omega
theorem ps_nbeq {a k : Nat} (h : a < k) : Nat.beq a k = false := by
  rw [Bool.eq_false_iff]
  exact fun q => by have := Nat.eq_of_beq_eq_true q; omega
/-- behind a call all stands as before, over the new heap -/
theorem ps_back {h h1 : pm_H} {H H1 : Heap} {locs locs1 : List Loc} {cells slots : Nat} {ls : Array Slot} {lv : pm_L} (I : ps_In s md base adk nf D dA hb sb h0 s0 lv h H locs cells slots ls) (e1 : h.length ≤ h1.length) (e2 : pm_sl h ≤ pm_sl h1) (b1 : h1.length ≤ hb) (b2 : pm_sl h1 ≤ sb)
    (hP : va_P D pt_cl (ps_cw dA (ps_ad base adk) nf h1) H1) (hz : H1.size = base + h1.length) (hS : va_S (fun q => base ≤ q) s.heap H1 locs1) : ps_In s md base adk nf D dA hb sb h0 s0 lv h1 H1 locs1 (cells + (h1.length - h.length)) (slots + (pm_sl h1 - pm_sl h)) ls := by
  obtain ⟨i1, i2, i3, i4, i5, i6, i7, i8⟩ := I
  exact ⟨i1, hP, hS, hz, b1, b2, by omega, by omega⟩
theorem ps_pre {h : pm_H} {H : Heap} {locs : List Loc} {cells slots : Nat} {ls : Array Slot} {lv : pm_L} {as : List Value} (I : ps_In s md base adk nf D dA hb sb h0 s0 lv h H locs cells slots ls) (hK : va_K D pt_cl (ps_tys dA) s) (hKC : ps_KC adk nf kp (fun q => base ≤ q) s s.heap) (hbs : base ≤ s.heap.size) : ∀ U : State, U.heap = H → s.WarmedH U.vm → ps_Pc base adk nf D dA kp as h (as.map (ps_cv (ps_ad base adk) nf)).toArray U := fun U hU hW => by
  obtain ⟨i1, i2, i3, i4, i5, i6, i7, i8⟩ := I
  refine ⟨rfl, by rw [hU]; exact i4, by rw [hU]; exact i2, va_K.moved hW.alike hK, ?_⟩
  refine ps_KC.go hW (fun a ha hn => ?_) hKC
  rw [hU]
  exact i3.2.1 a ha hn
theorem ps_cls (hall : ∀ md ∈ pt_M, ps_own md) (hCS : ∃ d, ps_CS l kp base adk nf D dA d C ∧ d + 1 ≤ R.frames ∧ 59 + 60 * d ≤ R.locals) (E : ps_E p R s m args meth c md kp base adk nf D dA hb sb h0 s0) : pr_cls kp md C hb sb Q (ps_PP p l e R s m args below meth c QQ md base adk nf D dA hb sb h0 s0) := by
  obtain ⟨hx, hbb, hr, hml, hown, hts, hlk, hnm, hK, hKC, hbs, hnf, hRc, hRs, hh, hok, hfr, hlo⟩ := E
  obtain ⟨d, ⟨hCL, hCM⟩, hd1, hd2⟩ := hCS
  intro pc nx a b lv st h i n as rest r h1 g0 g1 g2 g3 g4 g5 g6 g7 H locs cells slots ls I
  subst g1
  obtain ⟨pp, hd, hn, hw⟩ := ps_at2 hok g0 rfl
  subst hn
  obtain ⟨m2, hm, hk⟩ := ps_kst g2
  have hok2 := ps_okk hall (n := 0) hm (Or.inl hk)
  obtain ⟨l1, l2, l3⟩ := hCL _ _ _ _ _ g6
  have hb2 : h1.length ≤ hb ∧ pm_sl h1 ≤ sb := by
    rcases g5 with z | z
    · have := l3 z
      have h5 := I.2.2.2.2.1
      have h6 := I.2.2.2.2.2.1
      omega
    · exact z.2
  have hM := hCM _ _ _ _ _ g6 m2 hm hok2 (by omega)
  obtain ⟨w1, w2, w3, w4, w5, w6, -⟩ := ps_mw2 hok2
  have w6 := w6 hk
  have hsm := ps_small hm
  simp only [ps_wok, ps_nbeq (show a < 1001 by omega), ps_nbeq (show a < 1002 by omega), ps_nbeq (show a < 1004 by omega), cond_false, hm] at hw
  obtain ⟨k1, k2⟩ := Bool.and_eq_true_iff.mp hw
  have k2 := of_decide_eq_true k2
  obtain ⟨t, e1, e2, e3⟩ := ps_spl_eq _ _ _ _ _ g3
  have hroom := ps_room hb2.1 hb2.2 I.2.2.2.2.2.2.1 I.2.2.2.2.2.2.2 l1 l2 hRc hRs
  refine ps_callg hbs (va_runS (As := as.map (ps_cv (ps_ad base adk) nf)) (rest := rest.map (ps_cv (ps_ad base adk) nf)) (n := b) ⟨hx, hbb, hml, hown, hts⟩ hM
    ⟨callB_of b hts (ps_T_good hok2) rfl rfl rfl (hts _ w2) (hts _ (ps_w_in k1)) ⟨w3.1, w3.2, k2⟩ ⟨hd1, by show 8 + (m2.2.2.1 + 11) + 60 * d ≤ R.locals; omega⟩, hts _ w6⟩ ⟨ps_blind, ps_pre I hK hKC hbs⟩ rfl
    (by rw [List.length_map, e1, List.append_nil]; exact e3) I.1.1 (by show st.map _ = _; rw [e2, e1, List.append_nil, List.map_append, List.map_reverse]) (lv_room (by rw [ps_cats hnf]; exact g4)) hd hroom) I.2.2.1 (fun H1 locs1 q1 q2 q3 => ?_)
  rw [ps_pu]
  exact g7 H1 locs1 _ _ ls (ps_back I l1 l2 hb2.1 hb2.2 q1 q2 q3)
theorem ps_cl0 {k : Nat} {q : List Value} {as rest : List Value} {o : Nat} {b : Nat} {st : List Value} (g : pm_spl b st [] = some (.ref o :: as, rest)) : ∃ b1, b = b1 + 1 ∧ as.length = b1 ∧ st = as.reverse ++ .ref o :: rest := by
  obtain ⟨t, e1, e2, e3⟩ := ps_spl_eq _ _ _ _ _ g
  rw [List.append_nil] at e1
  subst e1
  refine ⟨as.length, by rw [← e3]; rfl, rfl, ?_⟩
  rw [e2]
  simp
theorem ps_mci {a ci : Nat} {m2 : pm_M} (hm : pt_M[a]? = some m2) (g : pm_mci a = some ci) : ∃ T N, pt_cl[ci]? = some (m2.1.cls, T, N) := by
  unfold pm_mci at g
  rw [hm] at g
  dsimp only at g
  obtain ⟨hlt, hp, -⟩ := List.findIdx?_eq_some_iff_getElem.mp g
  refine ⟨(pt_cl[ci]).2.1, (pt_cl[ci]).2.2, ?_⟩
  rw [List.getElem?_eq_getElem hlt]
  have hp : (pt_cl[ci]).1 = m2.1.cls := by simpa using hp
  rw [← hp]
theorem ps_clv (hall : ∀ md ∈ pt_M, ps_own md) (hCS : ∃ d, ps_CS l kp base adk nf D dA d C ∧ d + 1 ≤ R.frames ∧ 59 + 60 * d ≤ R.locals) (E : ps_E p R s m args meth c md kp base adk nf D dA hb sb h0 s0) : pr_clv kp md C hb sb Q (ps_PP p l e R s m args below meth c QQ md base adk nf D dA hb sb h0 s0) := by
  obtain ⟨hx, hbb, hr, hml, hown, hts, hlk, hnm, hK, hKC, hbs, hnf, hRc, hRs, hh, hok, hfr, hlo⟩ := E
  obtain ⟨d, ⟨hCL, hCM⟩, hd1, hd2⟩ := hCS
  intro pc nx a b lv st h i n o ci as rest fs r h1 g0 g1 g2 g3 g4 g5 g6 g7 g8 H locs cells slots ls I
  obtain ⟨l1, l2, l3⟩ := hCL _ _ _ _ _ g7
  have hb2 : h1.length ≤ hb ∧ pm_sl h1 ≤ sb := by
    rcases g6 with z | z
    · have := l3 z
      have h5 := I.2.2.2.2.1
      have h6 := I.2.2.2.2.2.1
      omega
    · exact z.2
  obtain ⟨b1, eb, el, est⟩ := ps_cl0 (k := 0) (q := []) g2
  have hroom := ps_room hb2.1 hb2.2 I.2.2.2.2.2.2.1 I.2.2.2.2.2.2.2 l1 l2 hRc hRs
  have hstk : st.map (ps_cv (ps_ad base adk) nf) = (as.map (ps_cv (ps_ad base adk) nf)).reverse ++ .ref (ps_ad base adk o) :: rest.map (ps_cv (ps_ad base adk) nf) := by
    rw [est]
    simp [ps_cv]
  rcases g1 with ⟨rfl, g1⟩ | ⟨rfl, g1⟩
  · obtain ⟨pp, hd, hn, hw⟩ := ps_at2 hok g0 rfl
    subst hn
    obtain ⟨m2, hm, hk⟩ := ps_kst g1
    have hok2 : (ps_ok m2 && ps_mok m2) = true := ps_okk hall (n := 0) hm (Or.inr (fun z => by
      have hq := ps_lawk hm z
      rw [hq] at g5
      cases g5))
    have hM := hCM _ _ _ _ _ g7 m2 hm hok2 (by omega)
    obtain ⟨w1, w2, w3, w4, w5, -, -, w6, -⟩ := ps_mw2 hok2
    have w6 := w6 hk
    have hsm := ps_small hm
    simp only [ps_wok, ps_nbeq (show a < 1003 by omega), cond_false, hm] at hw
    obtain ⟨k1, k2⟩ := Bool.and_eq_true_iff.mp hw
    have k2 := of_decide_eq_true k2
    obtain ⟨TT, NN, hcl⟩ := ps_mci hm g5
    refine ps_callg hbs (va_runV (C := m2.1.cls) (b := ps_ad base adk o) (As := as.map (ps_cv (ps_ad base adk) nf)) (rest := rest.map (ps_cv (ps_ad base adk) nf)) (n := b1) ⟨hx, hbb, hml, hown, hts⟩ hM
      ⟨callB_of b1 hts (ps_T_good hok2) rfl rfl rfl (hts _ w2) (hts _ (ps_w_in k1)) ⟨w3.1, w3.2, by rw [eb, Nat.add_sub_cancel] at k2; exact k2⟩ ⟨hd1, by show 8 + (m2.2.2.1 + 11) + 60 * d ≤ R.locals; omega⟩, hts _ w6.1, hts _ w6.2⟩
      ⟨ps_blind, va_recv hK I.2.1 hcl (ps_cw_at g4), ps_pre I hK hKC hbs⟩ rfl (by rw [List.length_map]; exact el) I.1.1 hstk (lv_room (by rw [ps_cats hnf]; exact g3)) hd hroom) I.2.2.1 (fun H1 locs1 q1 q2 q3 => ?_)
    rw [ps_pu]
    exact g8 H1 locs1 _ _ ls (ps_back I l1 l2 hb2.1 hb2.2 q1 q2 q3)
  · obtain ⟨pp, hd, hn, hw⟩ := ps_at2 hok g0 rfl
    subst hn
    obtain ⟨m2, hm, hk⟩ := ps_kst g1
    have hok2 := ps_okk hall (n := 1) hm (Or.inl hk)
    have hM := hCM _ _ _ _ _ g7 m2 hm hok2 (by omega)
    obtain ⟨w1, w2, w3, w4, w5, -, w6, -⟩ := ps_mw2 hok2
    obtain ⟨w6, w7, w8⟩ := w6 hk
    have hsm := ps_small hm
    simp only [ps_wok, ps_nbeq (show a < 1000 by omega), cond_false, hm] at hw
    obtain ⟨k1, k2⟩ := Bool.and_eq_true_iff.mp hw
    have k2 := of_decide_eq_true k2
    rw [eb, Nat.add_sub_cancel] at k2
    rw [w8] at hM
    have hG := ps_T_good hok2
    rw [w8] at hG
    rcases Bool.or_eq_true_iff.mp k1 with k1 | k1
    · refine ps_callg hbs (va_runI (b := ps_ad base adk o) (As := as.map (ps_cv (ps_ad base adk) nf)) (rest := rest.map (ps_cv (ps_ad base adk) nf)) (n := b1) ⟨hx, hbb, hml, hown, hts⟩ hM
        ⟨callB_of b1 hts hG rfl rfl rfl (hts _ w2) (hts _ (ps_w_in k1)) ⟨w3.1, w3.2, k2⟩ ⟨hd1, by show 8 + (m2.2.2.1 + 11) + 60 * d ≤ R.locals; omega⟩, w7, hts _ w6⟩
        ⟨ps_blind, ps_pre (as := .ref o :: as) I hK hKC hbs⟩ rfl (by rw [List.length_map]; exact el) I.1.1 hstk (lv_room (by rw [ps_cats hnf]; exact g3)) hd hroom) I.2.2.1 (fun H1 locs1 q1 q2 q3 => ?_)
      rw [ps_pu]
      exact g8 H1 locs1 _ _ ls (ps_back I l1 l2 hb2.1 hb2.2 q1 q2 q3)
    · obtain ⟨w, z1, z2⟩ := List.any_eq_true.mp k1
      obtain ⟨host, z2⟩ : ∃ host, w = Jvm.Cond.methodLinkNest md.1.cls n m2.1 host := by
        rcases Bool.or_eq_true_iff.mp z2 with z2 | z2
        · exact ⟨_, of_decide_eq_true z2⟩
        · exact ⟨_, of_decide_eq_true z2⟩
      subst z2
      have hnest := hKC.2.2.2.2.2.2.2.2.2.1 _ z1
      refine ps_callg hbs (va_runIN (host := host) (b := ps_ad base adk o) (As := as.map (ps_cv (ps_ad base adk) nf)) (rest := rest.map (ps_cv (ps_ad base adk) nf)) (n := b1) ⟨hx, hbb, hml, hown, hts⟩ hM
        ⟨va_cnB b1 hts hG rfl rfl rfl hnest (hts _ w2) ⟨w3.1, w3.2, k2⟩ ⟨hd1, by show 8 + (m2.2.2.1 + 11) + 60 * d ≤ R.locals; omega⟩, w7, hts _ w6⟩
        ⟨ps_blind, ps_pre (as := .ref o :: as) I hK hKC hbs⟩ rfl (by rw [List.length_map]; exact el) I.1.1 hstk (lv_room (by rw [ps_cats hnf]; exact g3)) hd hroom) I.2.2.1 (fun H1 locs1 q1 q2 q3 => ?_)
      rw [ps_pu]
      exact g8 H1 locs1 _ _ ls (ps_back I l1 l2 hb2.1 hb2.2 q1 q2 q3)
theorem ps_clk (hall : ∀ md ∈ pt_M, ps_own md) (hCS : ∃ d, ps_CS l kp base adk nf D dA d C ∧ d + 1 ≤ R.frames ∧ 59 + 60 * d ≤ R.locals) (E : ps_E p R s m args meth c md kp base adk nf D dA hb sb h0 s0) : pr_clk kp md C hb sb Q (ps_PP p l e R s m args below meth c QQ md base adk nf D dA hb sb h0 s0) := by
  obtain ⟨hx, hbb, hr, hml, hown, hts, hlk, hnm, hK, hKC, hbs, hnf, hRc, hRs, hh, hok, hfr, hlo⟩ := E
  obtain ⟨d, ⟨hCL, hCM⟩, hd1, hd2⟩ := hCS
  intro pc nx a b lv st h n o as rest r h1 g0 g1 gs g2 g3 o1 o2 g6 g7 g8 H locs cells slots ls I
  obtain ⟨l1, l2, l3⟩ := hCL _ _ _ _ _ g7
  have hb2 : h1.length ≤ hb ∧ pm_sl h1 ≤ sb := by
    have := l3 g6
    have h5 := I.2.2.2.2.1
    have h6 := I.2.2.2.2.2.1
    omega
  obtain ⟨b1, eb, el, est⟩ := ps_cl0 (k := 0) (q := []) g2
  have hroom := ps_room hb2.1 hb2.2 I.2.2.2.2.2.2.1 I.2.2.2.2.2.2.2 l1 l2 hRc hRs
  have hstk : st.map (ps_cv (ps_ad base adk) nf) = (as.map (ps_cv (ps_ad base adk) nf)).reverse ++ .ref (ps_ad base adk o) :: rest.map (ps_cv (ps_ad base adk) nf) := by
    rw [est]
    simp [ps_cv]
  obtain ⟨pp, hd, hn, hw⟩ := ps_at2 hok g0 rfl
  subst hn
  obtain ⟨m2, hm, hk⟩ := ps_kst g1
  have hcs : m2.1.cls = "java/lang/String" := by
    unfold pm_mst at gs
    rw [hm] at gs
    simpa using gs
  have hok2 : (ps_ok m2 && ps_mok m2) = true := ps_okk hall (n := 0) hm (Or.inr (fun z => by
    have hq := ps_lawc hm z
    rw [hcs] at hq
    exact absurd hq (by decide)))
  have hM := hCM _ _ _ _ _ g7 m2 hm hok2 (by omega)
  obtain ⟨w1, w2, w3, w4, w5, -, -, w6, -⟩ := ps_mw2 hok2
  have w6 := w6 hk
  have hsm := ps_small hm
  simp only [ps_wok, ps_nbeq (show a < 1003 by omega), cond_false, hm] at hw
  obtain ⟨k1, k2⟩ := Bool.and_eq_true_iff.mp hw
  have k2 := of_decide_eq_true k2
  obtain ⟨j, rfl⟩ : ∃ j, o = 1000010 + j := ⟨o - 1000010, by omega⟩
  have hj : j < 9 := by omega
  have had : ps_ad base adk (1000010 + j) = adk (1000010 + j) := ps_adk (by omega)
  have hrec := vk_recv hKC.2.2.2.2.2.2.2.1 hj I.2.2.1
  rw [← hcs] at hrec
  refine ps_callg hbs (va_runV (C := m2.1.cls) (b := ps_ad base adk (1000010 + j)) (As := as.map (ps_cv (ps_ad base adk) nf)) (rest := rest.map (ps_cv (ps_ad base adk) nf)) (n := b1) ⟨hx, hbb, hml, hown, hts⟩ hM
    ⟨callB_of b1 hts (ps_T_good hok2) rfl rfl rfl (hts _ w2) (hts _ (ps_w_in k1)) ⟨w3.1, w3.2, by rw [eb, Nat.add_sub_cancel] at k2; exact k2⟩ ⟨hd1, by show 8 + (m2.2.2.1 + 11) + 60 * d ≤ R.locals; omega⟩, hts _ w6.1, hts _ w6.2⟩
    ⟨ps_blind, by rw [had]; exact hrec, ps_pre I hK hKC hbs⟩ rfl (by rw [List.length_map]; exact el) I.1.1 hstk (lv_room (by rw [ps_cats hnf]; exact g3)) hd hroom) I.2.2.1 (fun H1 locs1 q1 q2 q3 => ?_)
  rw [ps_pu]
  exact g8 H1 locs1 _ _ ls (ps_back I l1 l2 hb2.1 hb2.2 q1 q2 q3)
/-- a method of AbstractStringBuilder on a StringBuilder -/
theorem ps_clu (hall : ∀ md ∈ pt_M, ps_own md) (hCS : ∃ d, ps_CS l kp base adk nf D dA d C ∧ d + 1 ≤ R.frames ∧ 59 + 60 * d ≤ R.locals) (E : ps_E p R s m args meth c md kp base adk nf D dA hb sb h0 s0) : pr_clu kp md C hb sb Q (ps_PP p l e R s m args below meth c QQ md base adk nf D dA hb sb h0 s0) := by
  obtain ⟨hx, hbb, hr, hml, hown, hts, hlk, hnm, hK, hKC, hbs, hnf, hRc, hRs, hh, hok, hfr, hlo⟩ := E
  obtain ⟨d, ⟨hCL, hCM⟩, hd1, hd2⟩ := hCS
  intro pc nx a b lv st h n o as rest fs r h1 g0 g1 g2 g3 g4 g5 g6 g7 H locs cells slots ls I
  obtain ⟨l1, l2, l3⟩ := hCL _ _ _ _ _ g6
  have hb2 : h1.length ≤ hb ∧ pm_sl h1 ≤ sb := by
    rcases g5 with z | z
    · have := l3 z
      have h5 := I.2.2.2.2.1
      have h6 := I.2.2.2.2.2.1
      omega
    · exact z.2
  obtain ⟨b1, eb, el, est⟩ := ps_cl0 (k := 0) (q := []) g2
  have hroom := ps_room hb2.1 hb2.2 I.2.2.2.2.2.2.1 I.2.2.2.2.2.2.2 l1 l2 hRc hRs
  have hstk : st.map (ps_cv (ps_ad base adk) nf) = (as.map (ps_cv (ps_ad base adk) nf)).reverse ++ .ref (ps_ad base adk o) :: rest.map (ps_cv (ps_ad base adk) nf) := by
    rw [est]
    simp [ps_cv]
  obtain ⟨pp, hd, hn, hw⟩ := ps_at2 hok g0 rfl
  subst hn
  obtain ⟨m2, hm, hk⟩ := ps_kst g1
  have hok2 := ps_okk hall (n := 2) hm (Or.inl hk)
  have hM := hCM _ _ _ _ _ g6 m2 hm hok2 (by omega)
  obtain ⟨w1, w2, w3, w4, w5, -, -, -, w6, -⟩ := ps_mw2 hok2
  obtain ⟨w6, w7, w8⟩ := w6 hk
  have hsm := ps_small hm
  simp only [ps_wok, ps_nbeq (show a < 1003 by omega), cond_false, hm] at hw
  obtain ⟨k1, k2⟩ := Bool.and_eq_true_iff.mp hw
  have k2 := of_decide_eq_true k2
  rw [eb, Nat.add_sub_cancel] at k2
  have hG : GoodIn ps_T (va_wsU md.1.cls n "java/lang/StringBuilder" m2.1.cls m2.1 m2.1 (.code m2.1 m2.2.1 m2.2.2.1 (pm_ret m2) :: ps_T)) := by
    unfold va_wsU
    refine ps_goodU hok2 (fun w hw => ?_)
    simp only [List.mem_cons, List.not_mem_nil, or_false] at hw
    rcases hw with rfl | rfl | rfl | rfl | rfl
    · exact ps_w_in k1
    · exact w8
    · exact w7
    · exact w6
    · exact w2
  refine ps_callg hbs (va_runU (x := m2.1) (y := m2.1) (C := "java/lang/StringBuilder") (owner := m2.1.cls) (b := ps_ad base adk o) (As := as.map (ps_cv (ps_ad base adk) nf)) (rest := rest.map (ps_cv (ps_ad base adk) nf)) (n := b1) ⟨hx, hbb, hml, hown, hts⟩ hM
    (va_cwU b1 hts hG rfl rfl rfl rfl ⟨w3.1, w3.2, k2⟩ ⟨hd1, by show 8 + (m2.2.2.1 + 11) + 60 * d ≤ R.locals; omega⟩)
    ⟨ps_blind, va_recv (q := ("java/lang/StringBuilder", pt_T12, 4)) hK I.2.1 rfl (ps_cw_at g4), ps_pre I hK hKC hbs⟩ rfl (by rw [List.length_map]; exact el) I.1.1 hstk (lv_room (by rw [ps_cats hnf]; exact g3)) hd hroom) I.2.2.1 (fun H1 locs1 q1 q2 q3 => ?_)
  rw [ps_pu]
  exact g7 H1 locs1 _ _ ls (ps_back I l1 l2 hb2.1 hb2.2 q1 q2 q3)
/-- super -/
theorem ps_csu (hall : ∀ md ∈ pt_M, ps_own md) (hCS : ∃ d, ps_CS l kp base adk nf D dA d C ∧ d + 1 ≤ R.frames ∧ 59 + 60 * d ≤ R.locals) (E : ps_E p R s m args meth c md kp base adk nf D dA hb sb h0 s0) : pr_csu kp md C hb sb Q (ps_PP p l e R s m args below meth c QQ md base adk nf D dA hb sb h0 s0) := by
  obtain ⟨hx, hbb, hr, hml, hown, hts, hlk, hnm, hK, hKC, hbs, hnf, hRc, hRs, hh, hok, hfr, hlo⟩ := E
  obtain ⟨d, ⟨hCL, hCM⟩, hd1, hd2⟩ := hCS
  intro pc nx a b lv st h n o as rest fs r h1 g0 g1 g2 g3 g4 g5 g6 g7 H locs cells slots ls I
  obtain ⟨l1, l2, l3⟩ := hCL _ _ _ _ _ g6
  have hb2 : h1.length ≤ hb ∧ pm_sl h1 ≤ sb := by
    rcases g5 with z | z
    · have := l3 z
      have h5 := I.2.2.2.2.1
      have h6 := I.2.2.2.2.2.1
      omega
    · exact z.2
  obtain ⟨b1, eb, el, est⟩ := ps_cl0 (k := 0) (q := []) g2
  have hroom := ps_room hb2.1 hb2.2 I.2.2.2.2.2.2.1 I.2.2.2.2.2.2.2 l1 l2 hRc hRs
  have hstk : st.map (ps_cv (ps_ad base adk) nf) = (as.map (ps_cv (ps_ad base adk) nf)).reverse ++ .ref (ps_ad base adk o) :: rest.map (ps_cv (ps_ad base adk) nf) := by
    rw [est]
    simp [ps_cv]
  obtain ⟨pp, hd, hn, hw⟩ := ps_at2 hok g0 rfl
  subst hn
  rcases g1 with ⟨g1, gc⟩ | g1
  · obtain ⟨m2, hm, hk⟩ := ps_kst g1
    have hok2 := ps_okk hall (n := 3) hm (Or.inl hk)
    have hM := hCM _ _ _ _ _ g6 m2 hm hok2 (by omega)
    obtain ⟨w1, w2, w3, w4, w5, -, -, -, -, w6, -⟩ := ps_mw2 hok2
    obtain ⟨w6, w7, w8, w9⟩ := w6 hk
    have hsm := ps_small hm
    simp only [ps_wok, ps_nbeq (show a < 1000 by omega), cond_false, hm] at hw
    obtain ⟨k1, k2⟩ := Bool.and_eq_true_iff.mp hw
    have k2 := of_decide_eq_true k2
    rw [eb, Nat.add_sub_cancel] at k2
    have k1 : ps_w pp (.methodLink md.1.cls n m2.1) = true := by
      rcases Bool.or_eq_true_iff.mp k1 with k1 | k1
      · exact k1
      · obtain ⟨w, z1, z2⟩ := List.any_eq_true.mp k1
        exfalso
        have hn : ps_nst.all (fun w => match w with
          | .methodLinkNest _ _ y _ => decide (y.name = "<init>")
          | _ => true) = true := by decide +kernel
        have hz := List.all_eq_true.mp hn w z1
        rcases Bool.or_eq_true_iff.mp z2 with z2 | z2
        · rw [of_decide_eq_true z2] at hz; exact w7 (of_decide_eq_true hz)
        · rw [of_decide_eq_true z2] at hz; exact w7 (of_decide_eq_true hz)
    have hG : GoodIn ps_T (va_wsSU md.1.cls n m2.1 (.code m2.1 m2.2.1 m2.2.2.1 (pm_ret m2) :: ps_T)) := by
      unfold va_wsSU
      refine ps_goodU hok2 (fun w hw => ?_)
      simp only [List.mem_cons, List.not_mem_nil, or_false] at hw
      rcases hw with rfl | rfl | rfl | rfl | rfl
      · exact ps_w_in k1
      · exact w9
      · rw [gc, w8]; exact ps_sup
      · exact w6
      · exact w2
    refine ps_callg hbs (va_runSU (y := m2.1) (C := "java/lang/StringBuilder") (cC := D.1 12) (b := ps_ad base adk o) (As := as.map (ps_cv (ps_ad base adk) nf)) (rest := rest.map (ps_cv (ps_ad base adk) nf)) (n := b1) (hK.1 12 _ rfl).2 ⟨hx, hbb, hml, hown, hts⟩ hM
      (va_cwSU b1 hts hG rfl rfl rfl ⟨w7, k2⟩ ⟨hd1, by show 8 + (m2.2.2.1 + 11) + 60 * d ≤ R.locals; omega⟩)
      ⟨ps_blind, va_recv (q := ("java/lang/StringBuilder", pt_T12, 4)) hK I.2.1 rfl (ps_cw_at g4), ps_pre I hK hKC hbs⟩ rfl (by rw [List.length_map]; exact el) I.1.1 hstk (lv_room (by rw [ps_cats hnf]; exact g3)) hd hroom) I.2.2.1 (fun H1 locs1 q1 q2 q3 => ?_)
    rw [ps_pu]
    exact g7 H1 locs1 _ _ ls (ps_back I l1 l2 hb2.1 hb2.2 q1 q2 q3)
  · obtain ⟨m2, hm, hk⟩ := ps_kst g1
    have hok2 := ps_okk hall (n := 1) hm (Or.inl hk)
    have hM := hCM _ _ _ _ _ g6 m2 hm hok2 (by omega)
    obtain ⟨w1, w2, w3, w4, w5, -, w6, -⟩ := ps_mw2 hok2
    obtain ⟨w6, w7, w8⟩ := w6 hk
    have hsm := ps_small hm
    simp only [ps_wok, ps_nbeq (show a < 1000 by omega), cond_false, hm] at hw
    obtain ⟨k1, k2⟩ := Bool.and_eq_true_iff.mp hw
    have k2 := of_decide_eq_true k2
    rw [eb, Nat.add_sub_cancel] at k2
    rw [w8] at hM
    have hG := ps_T_good hok2
    rw [w8] at hG
    rcases Bool.or_eq_true_iff.mp k1 with k1 | k1
    · refine ps_callg hbs (va_runI (b := ps_ad base adk o) (As := as.map (ps_cv (ps_ad base adk) nf)) (rest := rest.map (ps_cv (ps_ad base adk) nf)) (n := b1) ⟨hx, hbb, hml, hown, hts⟩ hM
        ⟨callB_of b1 hts hG rfl rfl rfl (hts _ w2) (hts _ (ps_w_in k1)) ⟨w3.1, w3.2, k2⟩ ⟨hd1, by show 8 + (m2.2.2.1 + 11) + 60 * d ≤ R.locals; omega⟩, w7, hts _ w6⟩
        ⟨ps_blind, ps_pre (as := .ref o :: as) I hK hKC hbs⟩ rfl (by rw [List.length_map]; exact el) I.1.1 hstk (lv_room (by rw [ps_cats hnf]; exact g3)) hd hroom) I.2.2.1 (fun H1 locs1 q1 q2 q3 => ?_)
      rw [ps_pu]
      exact g7 H1 locs1 _ _ ls (ps_back I l1 l2 hb2.1 hb2.2 q1 q2 q3)
    · obtain ⟨w, z1, z2⟩ := List.any_eq_true.mp k1
      obtain ⟨host, z2⟩ : ∃ host, w = Jvm.Cond.methodLinkNest md.1.cls n m2.1 host := by
        rcases Bool.or_eq_true_iff.mp z2 with z2 | z2
        · exact ⟨_, of_decide_eq_true z2⟩
        · exact ⟨_, of_decide_eq_true z2⟩
      subst z2
      have hnest := hKC.2.2.2.2.2.2.2.2.2.1 _ z1
      refine ps_callg hbs (va_runIN (host := host) (b := ps_ad base adk o) (As := as.map (ps_cv (ps_ad base adk) nf)) (rest := rest.map (ps_cv (ps_ad base adk) nf)) (n := b1) ⟨hx, hbb, hml, hown, hts⟩ hM
        ⟨va_cnB b1 hts hG rfl rfl rfl hnest (hts _ w2) ⟨w3.1, w3.2, k2⟩ ⟨hd1, by show 8 + (m2.2.2.1 + 11) + 60 * d ≤ R.locals; omega⟩, w7, hts _ w6⟩
        ⟨ps_blind, ps_pre (as := .ref o :: as) I hK hKC hbs⟩ rfl (by rw [List.length_map]; exact el) I.1.1 hstk (lv_room (by rw [ps_cats hnf]; exact g3)) hd hroom) I.2.2.1 (fun H1 locs1 q1 q2 q3 => ?_)
      rw [ps_pu]
      exact g7 H1 locs1 _ _ ls (ps_back I l1 l2 hb2.1 hb2.2 q1 q2 q3)
/-- by the interface -/
theorem ps_clf (hall : ∀ md ∈ pt_M, ps_own md) (hCS : ∃ d, ps_CS l kp base adk nf D dA d C ∧ d + 1 ≤ R.frames ∧ 59 + 60 * d ≤ R.locals) (E : ps_E p R s m args meth c md kp base adk nf D dA hb sb h0 s0) : pr_clf kp md C hb sb Q (ps_PP p l e R s m args below meth c QQ md base adk nf D dA hb sb h0 s0) := by
  obtain ⟨hx, hbb, hr, hml, hown, hts, hlk, hnm, hK, hKC, hbs, hnf, hRc, hRs, hh, hok, hfr, hlo⟩ := E
  obtain ⟨d, ⟨hCL, hCM⟩, hd1, hd2⟩ := hCS
  intro pc nx a b lv st h n cnt o as rest fs r h1 g0 g1 g2 g3 g4 g5 g6 g7 H locs cells slots ls I
  obtain ⟨l1, l2, l3⟩ := hCL _ _ _ _ _ g6
  have hb2 : h1.length ≤ hb ∧ pm_sl h1 ≤ sb := by
    rcases g5 with z | z
    · have := l3 z
      have h5 := I.2.2.2.2.1
      have h6 := I.2.2.2.2.2.1
      omega
    · exact z.2
  obtain ⟨b1, eb, el, est⟩ := ps_cl0 (k := 0) (q := []) g2
  have hroom := ps_room hb2.1 hb2.2 I.2.2.2.2.2.2.1 I.2.2.2.2.2.2.2 l1 l2 hRc hRs
  have hstk : st.map (ps_cv (ps_ad base adk) nf) = (as.map (ps_cv (ps_ad base adk) nf)).reverse ++ .ref (ps_ad base adk o) :: rest.map (ps_cv (ps_ad base adk) nf) := by
    rw [est]
    simp [ps_cv]
  obtain ⟨pp, hd, hn, hw⟩ := ps_at2 hok g0 rfl
  subst hn
  obtain ⟨m2, hm, hk⟩ := ps_kst g1
  have hok2 := ps_okk hall (n := 4) hm (Or.inl hk)
  have hM := hCM _ _ _ _ _ g6 m2 hm hok2 (by omega)
  obtain ⟨w1, w2, w3, w4, w5, -, -, -, -, -, w6⟩ := ps_mw2 hok2
  obtain ⟨w6, w7, w8⟩ := w6 hk
  simp only [ps_wok, hm] at hw
  obtain ⟨k1, k2⟩ := Bool.and_eq_true_iff.mp hw
  have k2 := of_decide_eq_true k2
  rw [eb, Nat.add_sub_cancel] at k2
  have hF := hKC.2.2.2.2.2.2.2.2.2.2.2.2.2.2.2.2.2.2 _ w8
  have hG : GoodIn ps_T (va_wsF md.1.cls n "java/lang/StringBuilder" ⟨"java/lang/CharSequence", m2.1.name, m2.1.desc⟩ m2.1 (.code m2.1 m2.2.1 m2.2.2.1 (pm_ret m2) :: ps_T)) := by
    unfold va_wsF
    refine ps_goodU hok2 (fun w hw => ?_)
    simp only [List.mem_cons, List.not_mem_nil, or_false] at hw
    rcases hw with rfl | rfl | rfl | rfl
    · exact ps_w_in k1
    · exact w7
    · exact w6
    · exact w2
  refine ps_callg5 hbs (va_runF (x := ⟨"java/lang/CharSequence", m2.1.name, m2.1.desc⟩) (y := m2.1) (C := "java/lang/StringBuilder") (cC := D.1 12) (b := ps_ad base adk o) (As := as.map (ps_cv (ps_ad base adk) nf)) (rest := rest.map (ps_cv (ps_ad base adk) nf)) (n := b1) (hK.1 12 _ rfl).2 ⟨hx, hbb, hml, hown, hts⟩ hM
    (va_cwF b1 hts hG rfl rfl rfl hF ⟨(by decide : "java/lang/CharSequence" ≠ "java/lang/invoke/MethodHandle"), (by decide : "java/lang/CharSequence" ≠ "java/lang/invoke/VarHandle"), k2⟩ ⟨hd1, by show 8 + (m2.2.2.1 + 11) + 60 * d ≤ R.locals; omega⟩)
    ⟨ps_blind, va_recv (q := ("java/lang/StringBuilder", pt_T12, 4)) hK I.2.1 rfl (ps_cw_at g4), ps_pre I hK hKC hbs⟩ rfl (by rw [List.length_map]; exact el) I.1.1 hstk (lv_room (by rw [ps_cats hnf]; exact g3)) hd hroom) I.2.2.1 (fun H1 locs1 q1 q2 q3 => ?_)
  rw [ps_pu]
  exact g7 H1 locs1 _ _ ls (ps_back I l1 l2 hb2.1 hb2.2 q1 q2 q3)
section RET
variable {rr : Option Value} {hh1 : pm_H} {mc ms : Nat}
theorem ps_irt (hmc : hh1.length ≤ mc + h0) (hms : pm_sl hh1 ≤ ms + s0) (E : ps_E p R s m args meth c md kp base adk nf D dA hb sb h0 s0) : pr_irt kp md C hb sb (fun r2 h2 => r2 = rr ∧ h2 = hh1) (ps_PP p l e R s m args below meth c (MQ below (ps_Qc base adk nf D dA rr hh1) args s mc ms (fun q => base ≤ q)) md base adk nf D dA hb sb h0 s0) := by
  obtain ⟨hx, hbb, hr, hml, hown, hts, hlk, hnm, hK, hKC, hbs, hnf, hRc, hRs, hh, hok, hfr, hlo⟩ := E
  intro pc nx a b lv h v ty g0 g1 g2 g3 H locs cells slots ls I
  obtain ⟨pp, hd, hn, -⟩ := ps_at2 hok g0 rfl
  obtain ⟨e1, e2⟩ := g3
  subst e1
  subst e2
  obtain ⟨i1, i2, i3, i4, i5, i6, i7, i8⟩ := I
  refine W.widen (k := mc) (n := ms) (by omega) (by omega) ?_
  exact W.zret hx hbb (hr.trans g1) g2 (fun t ht hW => ⟨rfl, by rw [ht]; exact i2, by rw [ht]; exact i4, i3.F ht⟩) i3.2.2 hd hlk
theorem ps_lrt (hmc : hh1.length ≤ mc + h0) (hms : pm_sl hh1 ≤ ms + s0) (E : ps_E p R s m args meth c md kp base adk nf D dA hb sb h0 s0) : pr_lrt kp md C hb sb (fun r2 h2 => r2 = rr ∧ h2 = hh1) (ps_PP p l e R s m args below meth c (MQ below (ps_Qc base adk nf D dA rr hh1) args s mc ms (fun q => base ≤ q)) md base adk nf D dA hb sb h0 s0) := by
  obtain ⟨hx, hbb, hr, hml, hown, hts, hlk, hnm, hK, hKC, hbs, hnf, hRc, hRs, hh, hok, hfr, hlo⟩ := E
  intro pc nx a b lv h v g0 g1 g3 H locs cells slots ls I
  obtain ⟨pp, hd, hn, -⟩ := ps_at2 hok g0 rfl
  obtain ⟨e1, e2⟩ := g3
  subst e1
  subst e2
  obtain ⟨i1, i2, i3, i4, i5, i6, i7, i8⟩ := I
  refine W.widen (k := mc) (n := ms) (by omega) (by omega) ?_
  exact W.lret hx hbb (hr.trans g1) (fun t ht hW => ⟨rfl, by rw [ht]; exact i2, by rw [ht]; exact i4, i3.F ht⟩) i3.2.2 hd hlk
theorem ps_art (hmc : hh1.length ≤ mc + h0) (hms : pm_sl hh1 ≤ ms + s0) (E : ps_E p R s m args meth c md kp base adk nf D dA hb sb h0 s0) : pr_art kp md C hb sb (fun r2 h2 => r2 = rr ∧ h2 = hh1) (ps_PP p l e R s m args below meth c (MQ below (ps_Qc base adk nf D dA rr hh1) args s mc ms (fun q => base ≤ q)) md base adk nf D dA hb sb h0 s0) := by
  obtain ⟨hx, hbb, hr, hml, hown, hts, hlk, hnm, hK, hKC, hbs, hnf, hRc, hRs, hh, hok, hfr, hlo⟩ := E
  intro pc nx a b lv h o n g0 g1 g3 H locs cells slots ls I
  obtain ⟨pp, hd, hn, -⟩ := ps_at2 hok g0 rfl
  obtain ⟨e1, e2⟩ := g3
  subst e1
  subst e2
  obtain ⟨i1, i2, i3, i4, i5, i6, i7, i8⟩ := I
  refine W.widen (k := mc) (n := ms) (by omega) (by omega) ?_
  exact W.aret hx hbb (hr.trans g1) (Or.inl ⟨_, rfl⟩) (Or.inr ⟨_, rfl⟩) (fun t ht hW => ⟨rfl, by rw [ht]; exact i2, by rw [ht]; exact i4, i3.F ht⟩) i3.2.2 hd hlk
theorem ps_vrt (hmc : hh1.length ≤ mc + h0) (hms : pm_sl hh1 ≤ ms + s0) (E : ps_E p R s m args meth c md kp base adk nf D dA hb sb h0 s0) : pr_vrt kp md C hb sb (fun r2 h2 => r2 = rr ∧ h2 = hh1) (ps_PP p l e R s m args below meth c (MQ below (ps_Qc base adk nf D dA rr hh1) args s mc ms (fun q => base ≤ q)) md base adk nf D dA hb sb h0 s0) := by
  obtain ⟨hx, hbb, hr, hml, hown, hts, hlk, hnm, hK, hKC, hbs, hnf, hRc, hRs, hh, hok, hfr, hlo⟩ := E
  intro pc nx a b lv h g0 g1 g3 H locs cells slots ls I
  obtain ⟨pp, hd, hn, -⟩ := ps_at2 hok g0 rfl
  obtain ⟨e1, e2⟩ := g3
  subst e1
  subst e2
  obtain ⟨i1, i2, i3, i4, i5, i6, i7, i8⟩ := I
  refine W.widen (k := mc) (n := ms) (by omega) (by omega) ?_
  exact W.vret hx hbb (hr.trans g1) (fun t ht hW => ⟨rfl, by rw [ht]; exact i2, by rw [ht]; exact i4, i3.F ht⟩) i3.2.2 hd hlk
end RET
end PSZ
