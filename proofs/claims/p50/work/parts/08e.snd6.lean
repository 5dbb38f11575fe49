/-! THE PURE MACHINE IS SOUND -/
section PSF
variable {p : Program} {l : Launch} {e : Env} {R : Room} {s : State} {m : MethodId} {args : Array Value} {below : List Frame} {meth : Method} {c : Code} {md : pm_M} {kp : pm_K} {base : Nat} {adk : Nat → Nat} {nf : Value} {D : va_G} {dA : Nat → ClassId} {hb sb h0 s0 : Nat} {C : pm_C} {rr : Option Value} {hh1 : pm_H} {mc ms : Nat}
theorem ps_all_R (hall : ∀ md ∈ pt_M, ps_own md) (hmc : hh1.length ≤ mc + h0) (hms : pm_sl hh1 ≤ ms + s0) (hCS : ∃ d, ps_CS l kp base adk nf D dA d C ∧ d + 1 ≤ R.frames ∧ 59 + 60 * d ≤ R.locals) (E : ps_E p R s m args meth c md kp base adk nf D dA hb sb h0 s0) :
    pm_R kp md C hb sb (fun r2 h2 => r2 = rr ∧ h2 = hh1) (ps_PP p l e R s m args below meth c (MQ below (ps_Qc base adk nf D dA rr hh1) args s mc ms (fun q => base ≤ q)) md base adk nf D dA hb sb h0 s0) :=
  ⟨ps_cst E, ps_ldc E, ps_ld E, ps_sto E, ps_bop E, ps_dop E, ps_uop E, ps_sop E, ps_inc E, ps_goto E, ps_ifc E, ps_icm E, ps_tso E, ps_tsi E, ps_lsw E, ps_get E, ps_gek E, ps_put E, ps_puf E, ps_ial E, ps_bal E, ps_zal E, ps_lal E, ps_aal E, ps_kil E, ps_kbl E, ps_kll E, ps_kle E, ps_ias E, ps_bas E, ps_zas E, ps_las E, ps_aas E, ps_len1 E, ps_new E, ps_nwa E, ps_nwr E, ps_nwm E, ps_cls hall hCS E, ps_clv hall hCS E, ps_clk hall hCS E, ps_clo E, ps_cca E, ps_aak E, ps_aam E, ps_inn E, ps_clu hall hCS E, ps_csu hall hCS E, ps_clf hall hCS E, ps_acp E, ps_mmx E, ps_mmn E, ps_obj E, ps_irt hmc hms E, ps_lrt hmc hms E, ps_art hmc hms E, ps_vrt hmc hms E, ps_gst E, ps_sub E⟩
end PSF
theorem ps_args (ad : Nat → Nat) (nf : Value) (hnf : nf.category = 1) : ∀ (as : List Value) (n : Nat), (lv_args n as).map (fun q => (q.1, ps_cv ad nf q.2)) = lv_args n (as.map (ps_cv ad nf))
  | [], n => rfl
  | v :: r, n => by
    simp only [lv_args, List.map_cons, ps_args ad nf hnf r, ps_cv_cat hnf]
theorem ps_asz (ad : Nat → Nat) (nf : Value) (hnf : nf.category = 1) : ∀ (as : List Value), (lg_sl (as.map (ps_cv ad nf))).length = pm_asz as
  | [] => rfl
  | v :: r => by
    have ih := ps_asz ad nf hnf r
    unfold lg_sl at ih ⊢
    rw [List.map_cons, List.flatMap_cons, List.length_append, ih, ps_cv_cat hnf, pm_asz, ps_beq]
    by_cases h : v.category = 2
    · simp [h]
    · have h2 : (v.category == 2) = false := by simpa using h
      simp [h, h2]
theorem ps_soundX (hall : ∀ md ∈ pt_M, ps_own md) {l : Launch} {kp : pm_K} {base : Nat} {adk : Nat → Nat} {nf : Value} {D : va_G} {dA : Nat → ClassId} (hnf : nf.category = 1) : ∀ d, ps_CS l kp base adk nf D dA d (pm_X kp d)
  | 0 => ⟨ps_lenX 0, fun _ _ _ _ _ h => False.elim h⟩
  | d + 1 => by
    refine ⟨ps_lenX (d + 1), fun k as h r h1 hX m2 hm hok hlen => ?_⟩
    have hL := ps_lenX (d + 1) k as h r h1 hX
    obtain ⟨md, hk, ga, w⟩ := hX
    have e1 : md = m2 := Option.some.inj (hk.symm.trans hm)
    subst e1
    obtain ⟨w1, w2, w3, w4, w5, -⟩ := ps_mw2 hok
    refine Met.ofW (cc := md.2.1) (maxL := md.2.2.1) (ret := pm_ret md) w4 rfl ?_
    intro p e s m args below meth c s₁ B hml hv
    obtain ⟨rfl, hsz, hP, hK, hKC⟩ := hv
    have hx := B.exec
    have hbb := B.bytes
    have hr := B.returns
    have hts := atoms_spec (ws := .code md.1 md.2.1 md.2.2.1 (pm_ret md) :: ps_T) B.pre
    have hown : s.vm.findClass md.1.cls = some m.cls := findClass_of_methodNamed B.named
    have hnm : meth.name = md.1.name := (name_of_methodNamed B.named B.method).1
    have hl := lv_entry (as.map (ps_cv (ps_ad base adk) nf)) (n := md.2.2.1) (by rw [ps_asz _ _ hnf]; exact ga)
    rw [lg_entry_eq]
    generalize (lg_sl (as.map (ps_cv (ps_ad base adk) nf)) ++ List.replicate (md.2.2.1 - (lg_sl (as.map (ps_cv (ps_ad base adk) nf))).length) Slot.unset).toArray = ls at hl ⊢
    have E : ps_E p (ps_rm (d + 1) h h1) s m (as.map (ps_cv (ps_ad base adk) nf)).toArray meth c md kp base adk nf D dA h1.length (pm_sl h1) h.length (pm_sl h) := by
      refine ⟨hx, hbb, hr, hml, hown, fun w hw => hts w (List.mem_cons_of_mem _ hw), B.notSynchronized, hnm, hK, hKC, by omega, hnf, ?_, ?_, hlen, (Bool.and_eq_true_iff.mp hok).1, ?_, ?_⟩
      · show h1.length ≤ h1.length - h.length + h.length; omega
      · show pm_sl h1 ≤ pm_sl h1 - pm_sl h + pm_sl h; omega
      · show 1 ≤ d + 1; omega
      · show 30 ≤ 60 * (d + 1); omega
    have hR := ps_all_R hall (p := p) (l := l) (e := e) (R := ps_rm (d + 1) h h1) (s := s) (m := m) (below := below) (rr := r) (hh1 := h1) (mc := h1.length - h.length) (ms := pm_sl h1 - pm_sl h) (by omega) (by omega) ⟨d, ps_soundX hall hnf d, Nat.le_refl _, by show 59 + 60 * d ≤ 60 * (d + 1); omega⟩ E
    have key := w _ hR s.heap [] 0 0 ls ⟨by rw [ps_args _ _ hnf]; exact hl, hP, va_S.rf, hsz, hL.1, hL.2.1, by omega, by omega⟩
    exact key
