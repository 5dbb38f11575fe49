/-! CALLS, ENDS, THE WHOLE -/
noncomputable def ps_Pc (base : Nat) (adk : Nat → Nat) (nf : Value) (D : va_G) (dA : Nat → ClassId) (kp : pm_K) (as : List Value) (h : pm_H) : Array Value → State → Prop :=
  va_Pc (as.map (ps_cv (ps_ad base adk) nf)) (fun U => U.heap.size = base + h.length ∧ va_P D pt_cl (ps_cw dA (ps_ad base adk) nf h) U.heap ∧ va_K D pt_cl (ps_tys dA) U ∧ ps_KC adk nf kp (fun q => base ≤ q) U U.heap)
def ps_Qc (base : Nat) (adk : Nat → Nat) (nf : Value) (D : va_G) (dA : Nat → ClassId) (r : Option Value) (h1 : pm_H) : Array Value → State → Outcome → State → Prop := fun _ st oc t =>
  oc = .returned (r.map (ps_cv (ps_ad base adk) nf)) ∧ va_P D pt_cl (ps_cw dA (ps_ad base adk) nf h1) t.heap ∧ t.heap.size = base + h1.length ∧ va_F (fun q => base ≤ q) st t
def ps_rm (d : Nat) (h h1 : pm_H) : Room := { frames := d, cells := h1.length - h.length, slots := pm_sl h1 - pm_sl h, locals := 60 * d }
theorem ps_blind {base : Nat} {adk : Nat → Nat} {nf : Value} {D : va_G} {dA : Nat → ClassId} {kp : pm_K} {as : List Value} {h : pm_H} : FrameBlind (ps_Pc base adk nf D dA kp as h) := fun a U g mk q => by
  obtain ⟨q0, q1, q2, q3, q4⟩ := q
  exact ⟨q0, q1, q2, va_K.moved (u := U) (U := U.calling g mk a) (Vm.Alike.refl U.vm) q3, ps_KC.go (s := U) (U := U.calling g mk a) (State.WarmedH.refl U) (fun _ _ _ => rfl) q4⟩
/-- what is known of a relation of calls -/
def ps_CS (l : Launch) (kp : pm_K) (base : Nat) (adk : Nat → Nat) (nf : Value) (D : va_G) (dA : Nat → ClassId) (d : Nat) (C : pm_C) : Prop := ∀ (k : Nat) (as : List Value) (h : pm_H) (r : Option Value) (h1 : pm_H), C k as h r h1 → ∀ m2, pt_M[k]? = some m2 → (ps_ok m2 && ps_mok m2) = true →
  h1.length ≤ 100000 →
  Met l m2.1 (.code m2.1 m2.2.1 m2.2.2.1 (pm_ret m2) :: ps_T) (ps_rm d h h1) (ps_Pc base adk nf D dA kp as h) (ps_Qc base adk nf D dA r h1) (h1.length - h.length) (pm_sl h1 - pm_sl h) (fun q => base ≤ q) ∧
    h.length ≤ h1.length ∧ pm_sl h ≤ pm_sl h1 ∧ (pm_al m2 = false → h1.length = h.length ∧ pm_sl h1 = pm_sl h)
theorem ps_T_good {m2 : pm_M} (hok : (ps_ok m2 && ps_mok m2) = true) : GoodIn ps_T (.code m2.1 m2.2.1 m2.2.2.1 (pm_ret m2) :: ps_T) := by
  have hg : ∀ w ∈ ps_T, w ∈ ps_T ∧ ((w.onTables && w.keeps) = true ∨ ∃ ty, w = .arrayClass ty) := fun w hw => ⟨hw, good_of_word (List.mem_filter.mp hw).2⟩
  intro w hw
  rcases List.mem_cons.mp hw with rfl | h
  · refine hg _ ?_
    obtain ⟨-, h2⟩ := Bool.and_eq_true_iff.mp hok
    unfold ps_mok at h2
    split at h2
    · simp only [Bool.and_eq_true] at h2
      exact ps_w_in h2.1.1.1.1.1
    · cases h2
  · exact hg w h
/-- the words of a method -/
theorem ps_mw2 {m2 : pm_M} (hok : (ps_ok m2 && ps_mok m2) = true) : Jvm.Cond.code m2.1 m2.2.1 m2.2.2.1 (pm_ret m2) ∈ ps_T ∧ Jvm.Cond.initialized m2.1.cls ∈ ps_T ∧ (m2.1.cls ≠ "java/lang/invoke/MethodHandle" ∧ m2.1.cls ≠ "java/lang/invoke/VarHandle") ∧ plainName m2.1.cls = true ∧ m2.2.2.1 ≤ 40 ∧
    (pm_kind m2 = 1 → Jvm.Cond.static m2.1 ∈ ps_T) ∧ (pm_kind m2 = 2 → Jvm.Cond.instanceMethod m2.1 ∈ ps_T ∧ m2.1.name = "<init>" ∧ pm_ret m2 = none) ∧ (pm_kind m2 = 0 → Jvm.Cond.instanceMethod m2.1 ∈ ps_T ∧ Jvm.Cond.selects m2.1.cls m2.1 m2.1 ∈ ps_T) := by
  obtain ⟨-, h2⟩ := Bool.and_eq_true_iff.mp hok
  unfold ps_mok at h2
  split at h2
  · rename_i k p1 p2 p3 p4 hk
    simp only [Bool.and_eq_true] at h2
    obtain ⟨⟨⟨⟨⟨a1, a2⟩, a3⟩, a4⟩, a5⟩, a6⟩ := h2
    have e : pm_kind m2 = k := by unfold pm_kind; rw [hk]; rfl
    rw [e]
    refine ⟨ps_w_in a1, ps_w_in a2, of_decide_eq_true a3, a4, Nat.le_of_ble_eq_true a5, fun q => ?_, fun q => ?_, fun q => ?_⟩
    · subst q; exact ps_w_in a6
    · subst q
      dsimp only [Nat.beq, cond_true, cond_false] at a6
      simp only [Bool.and_eq_true] at a6
      exact ⟨ps_w_in a6.1.1, of_decide_eq_true a6.1.2, of_decide_eq_true a6.2⟩
    · subst q
      dsimp only [Nat.beq, cond_true, cond_false] at a6
      simp only [Bool.and_eq_true] at a6
      exact ⟨ps_w_in a6.1, ps_w_in a6.2⟩
  · cases h2
section PSZ
variable {p : Program} {l : Launch} {e : Env} {R : Room} {s : State} {m : MethodId} {args : Array Value} {below : List Frame} {meth : Method} {c : Code} {QQ : State → Prop} {md : pm_M} {kp : pm_K} {base : Nat} {adk : Nat → Nat} {nf : Value} {D : va_G} {dA : Nat → ClassId} {hb sb h0 s0 : Nat} {C : pm_C} {Q : Option Value → pm_H → Prop}
theorem ps_callg {H : Heap} {locs : List Loc} {cells slots mc ms pc : Nat} {ls : Array Slot} {st0 rest : List Value} {a : Array Value} {r : Option Value} {h1 : pm_H} (hbs : base ≤ s.heap.size)
    (hr : va_Run p l e R s m args below meth c H locs cells slots mc ms (F0 m pc ls st0) rest (ps_Qc base adk nf D dA r h1 a) (fun q => base ≤ q)) (hS : va_S (fun q => base ≤ q) s.heap H locs)
    (kk : ∀ (H1 : Heap) (locs1 : List Loc), va_P D pt_cl (ps_cw dA (ps_ad base adk) nf h1) H1 → H1.size = base + h1.length → va_S (fun q => base ≤ q) s.heap H1 locs1 → W p l e R s m args below meth c H1 locs1 (cells + mc) (slots + ms) QQ (F0 m (pc + 3) ls ((r.map (ps_cv (ps_ad base adk) nf)).toList ++ rest))) :
    W p l e R s m args below meth c H locs cells slots QQ (F0 m pc ls st0) := by
  intro T hT X
  obtain ⟨v, st₀, t, T', L, q0, X', hL, e1, e2, ⟨hv, hp, hz, hzz, hk⟩, st⟩ := hr T hT X
  cases hv
  rw [q0] at hzz hk
  obtain ⟨t2, a1, b1⟩ := kk T'.heap (locs ++ L) (by rw [e1]; exact hp) (by rw [e1]; exact hz)
    ⟨Nat.le_trans hS.1 (by rw [e1]; exact hzz), fun q h1 h2 => by rw [e1, hk q (Nat.lt_of_lt_of_le h1 hS.1) h2]; exact hS.2.1 q h1 h2, fun q hq => by
      rcases List.mem_append.mp hq with h | h
      · exact hS.2.2 q h
      · exact hL q h⟩ T' rfl X'
  exact ⟨t2, st t2 a1, b1⟩
theorem ps_pu (ad : Nat → Nat) (r : Option Value) (rest : List Value) : (r.map (ps_cv ad nf)).toList ++ rest.map (ps_cv ad nf) = (pm_pu r rest).map (ps_cv ad nf) := by
  cases r <;> rfl
theorem ps_kst {k n : Nat} (h : pm_knd k n) : ∃ m2, pt_M[k]? = some m2 ∧ pm_kind m2 = n := by
  unfold pm_knd at h
  cases hk : pt_M[k]? with
  | none => rw [hk] at h; cases h
  | some m2 => rw [hk] at h; exact ⟨m2, rfl, Option.some.inj h⟩
theorem ps_okk {k n : Nat} {m2 : pm_M} (h : pt_M[k]? = some m2) (hn : pm_kind m2 = n + 1 ∨ m2.2.2.2.2.2.1 ≠ []) : (ps_ok m2 && ps_mok m2) = true := by
  rcases ps_all m2 (List.mem_of_getElem? h) with q | q
  · exact q
  · rcases hn with hn | hn
    · unfold pm_kind at hn
      rw [q.1] at hn
      cases hn
    · exact absurd q.1 hn
theorem ps_room {h h1 : pm_H} {cells slots : Nat} {x : Prop} (hbh : h1.length ≤ hb) (hsb : pm_sl h1 ≤ sb) (i7 : cells + h0 ≤ h.length) (i8 : slots + s0 ≤ pm_sl h) (e1 : h.length ≤ h1.length) (e2 : pm_sl h ≤ pm_sl h1) (hRc : hb ≤ R.cells + h0) (hRs : sb ≤ R.slots + s0) :
    cells + (h1.length - h.length) ≤ R.cells ∧ slots + (pm_sl h1 - pm_sl h) ≤ R.slots := by omega
theorem ps_lN {m2 : pm_M} {n : Nat} (h : ps_npar m2.1 = some n) : (parseMethodDescriptor m2.1.desc).map (fun d => d.parameters.length) = some n := h
theorem ps_cls (hCS : ∃ d, ps_CS l kp base adk nf D dA d C ∧ d + 1 ≤ R.frames ∧ 59 + 60 * d ≤ R.locals) (E : ps_E p R s m args meth c md kp base adk nf D dA hb sb h0 s0) : pr_cls kp md C hb sb Q (ps_PP p l e R s m args below meth c QQ md base adk nf D dA hb sb h0 s0) := by
  obtain ⟨hx, hbb, hr, hml, hown, hts, hlk, hnm, hK, hKC, hbs, hnf, hRc, hRs, hh, hok, hfr, hlo⟩ := E
  obtain ⟨d, hC, hd1, hd2⟩ := hCS
  intro pc nx a b lv st h i n as rest r h1 g0 g1 g2 g3 g4 g5 g6 g7 H locs cells slots ls I
  subst g1
  obtain ⟨pp, hd, hn, hw⟩ := ps_at2 hok g0 rfl
  subst hn
  obtain ⟨m2, hm, hk⟩ := ps_kst g2
  have hok2 := ps_okk (n := 0) hm (Or.inl hk)
  obtain ⟨i1, i2, i3, i4, i5, i6, i7, i8⟩ := I
  have hal : pm_mal a = pm_al m2 := by unfold pm_mal; rw [hm]
  have hbd : ∀ q : h.length ≤ h1.length ∧ pm_sl h ≤ pm_sl h1 ∧ (pm_al m2 = false → h1.length = h.length ∧ pm_sl h1 = pm_sl h), h1.length ≤ hb ∧ pm_sl h1 ≤ sb := fun q => by
    rcases g5 with z | z
    · rw [hal] at z
      have := q.2.2 z
      omega
    · exact ⟨z.2.1, z.2.2⟩
  sorry
end PSZ
