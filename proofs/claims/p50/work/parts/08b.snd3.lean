theorem ps_mw : ((Jvm.Cond.static Lib.Math.max.name ∈ ps_T ∧ Jvm.Cond.code Lib.Math.max.name Lib.Math.max.code 2 (some .int) ∈ ps_T) ∧ (Jvm.Cond.static Lib.Math.min.name ∈ ps_T ∧ Jvm.Cond.code Lib.Math.min.name Lib.Math.min.code 2 (some .int) ∈ ps_T) ∧ Jvm.Cond.initialized "java/lang/Math" ∈ ps_T) :=
  ⟨⟨ps_w_in (p := 718) (by decide +kernel), ps_w_in (p := 719) (by decide +kernel)⟩, ⟨ps_w_in (p := 428) (by decide +kernel), ps_w_in (p := 429) (by decide +kernel)⟩, ps_w_in (p := 39) (by decide +kernel)⟩
theorem ps_ow : Jvm.Cond.instanceMethod Lib.objectInit ∈ ps_T ∧ Jvm.Cond.code Lib.objectInit ⟨#[0xb1]⟩ 1 none ∈ ps_T := ⟨ps_w_in (p := 55) (by decide +kernel), ps_w_in (p := 56) (by decide +kernel)⟩
theorem ps_sy : Jvm.Cond.static arraycopyName ∈ ps_T ∧ Jvm.Cond.native arraycopyName ∈ ps_T ∧ Jvm.Cond.initialized "java/lang/System" ∈ ps_T := ⟨ps_w_in (p := 966) (by decide +kernel), ps_w_in (p := 967) (by decide +kernel), ps_w_in (p := 46) (by decide +kernel)⟩
def ps_ocl : MethodName := ⟨"java/lang/Object", "clone", "()Ljava/lang/Object;"⟩
theorem ps_clw : (Jvm.Cond.native ps_ocl ∈ ps_T ∧ Jvm.Cond.instanceMethod ps_ocl ∈ ps_T) ∧ (Jvm.Cond.sameMethod "[I" "java/lang/Object" "clone" "()Ljava/lang/Object;" ∈ ps_T ∧ Jvm.Cond.selects "[I" ⟨"[I", "clone", "()Ljava/lang/Object;"⟩ ps_ocl ∈ ps_T) ∧ (Jvm.Cond.sameMethod "[Z" "java/lang/Object" "clone" "()Ljava/lang/Object;" ∈ ps_T ∧ Jvm.Cond.selects "[Z" ⟨"[Z", "clone", "()Ljava/lang/Object;"⟩ ps_ocl ∈ ps_T) :=
  ⟨⟨ps_w_in (p := 787) (by decide +kernel), ps_w_in (p := 788) (by decide +kernel)⟩, ⟨ps_w_in (p := 786) (by decide +kernel), ps_w_in (p := 789) (by decide +kernel)⟩, ⟨ps_w_in (p := 793) (by decide +kernel), ps_w_in (p := 794) (by decide +kernel)⟩⟩
theorem ps_sup : Jvm.Cond.superclass "java/lang/StringBuilder" "java/lang/AbstractStringBuilder" ∈ ps_T := ps_w_in (p := 842) (by decide +kernel)
section PSX
variable {p : Program} {l : Launch} {e : Env} {R : Room} {s : State} {m : MethodId} {args : Array Value} {below : List Frame} {meth : Method} {c : Code} {QQ : State → Prop} {md : pm_M} {kp : pm_K} {base : Nat} {adk : Nat → Nat} {nf : Value} {D : va_G} {dA : Nat → ClassId} {hb sb h0 s0 : Nat} {C : pm_C} {Q : Option Value → pm_H → Prop}
theorem ps_aas (E : ps_E p R s m args meth c md kp base adk nf D dA hb sb h0 s0) : pr_aas kp md C hb sb Q (ps_PP p l e R s m args below meth c QQ md base adk nf D dA hb sb h0 s0) := by
  obtain ⟨hx, hbb, hr, hml, hown, hts, hlk, hnm, hK, hKC, hbs, hnf, hRc, hRs, hh, hok, hfr, hlo⟩ := E
  intro pc nx a b lv st h o n r f j fs g0 g1 g2 g3 g4 H locs cells slots ls I
  obtain ⟨pp, hd, hn, -⟩ := ps_at2 hok g0 rfl
  subst hn
  have he := ps_cw_at (dA := dA) (ad := ps_ad base adk) (nf := nf) g1
  have hv := ps_cw_at (dA := dA) (ad := ps_ad base adk) (nf := nf) g3
  have hD : va_D (fun q => base ≤ q) (ps_cw dA (ps_ad base adk) nf h) := ps_D (by have := I.2.2.2.2.1; omega) (fun q z => z)
  have hlt : j.toNatClampNeg < n := Nat.not_le.mp fun q => g2 (Or.inr q)
  have hj : ¬ j < 0 := fun q => g2 (Or.inl q)
  obtain ⟨r', hr', cellV, k1, k2, k3, -⟩ := I.2.1 r _ hv
  have hr5 : r' = ("TurnField$Position", pt_T5, 12) := (Option.some.inj hr').symm
  subst hr5
  have hcls := (hK.1 5 _ rfl).2
  obtain ⟨kA, comp, q1, q2, q3, -⟩ := (hK.2 4 _ rfl).2
  have hcomp : comp = D.1 5 := Option.some.inj (q3.symm.trans hcls.1)
  subst hcomp
  obtain ⟨kC, hkC, -⟩ := hcls.2
  refine W.aast hx hbb (I.2.1 o _ he) (fun q h => by cases h) (fun h => by cases h) q1 q2 rfl hkC ⟨hj, by show _ < (arrV _ _ _).slots.size; rw [arrV_size]; exact hlt⟩ k1 (fun q h => by rw [k3] at h; cases h) (by rw [k2]; exact hkC) (by rw [k2]; exact va_assign hcls) rfl rfl hd fun H1 e1 z1 oq => ?_
  refine g4 H1 _ cells slots ls (ps_Iset I g1 (by rfl) ?_ ?_ z1)
  · rw [ps_cw_set]
    refine I.2.1.set hD he ?_ oq
    show H1[_]? = some (vp_cell _ _)
    rw [e1]
    dsimp only [ps_ca]
    rw [vp_cell_q, vp_cell_q, arrV_store]
    congr 2
    funext q
    by_cases hq : q = j.toNatClampNeg
    · subst hq
      simp [updV, va_up, va_rf]
    · simp [updV, va_up, hq]
  · exact I.2.2.1.put z1 oq (hD.2 o _ he)
theorem ps_nra {v : Value} {fs fs1 : List Value} {b : Nat} (g : pm_set fs b v = some fs1) : b < fs.length ∧ fs1 = fs.set b v := by
  obtain ⟨h1, h2⟩ := ps_set_eq fs b v some fs1 g
  exact ⟨h1, (Option.some.inj h2).symm⟩
theorem ps_fitr {ty : FieldType} {k : Nat} (g : pm_fit ty (.retAddr k)) : False := by
  have := g.2
  cases ty <;> cases this
theorem ps_put (E : ps_E p R s m args meth c md kp base adk nf D dA hb sb h0 s0) : pr_put kp md C hb sb Q (ps_PP p l e R s m args below meth c QQ md base adk nf D dA hb sb h0 s0) := by
  obtain ⟨hx, hbb, hr, hml, hown, hts, hlk, hnm, hK, hKC, hbs, hnf, hRc, hRs, hh, hok, hfr, hlo⟩ := E
  intro pc nx a b lv st h n o fs fs1 v ty g0 g1 g2 g3 g4 g5 H locs cells slots ls I
  obtain ⟨pp, hd, hn, hw⟩ := ps_at2 hok g0 rfl
  subst hn
  have he := ps_cw_at (dA := dA) (ad := ps_ad base adk) (nf := nf) g1
  obtain ⟨hbl, rfl⟩ := ps_nra g4
  obtain ⟨CC, T, N, hc, hbN, hl⟩ := ps_fact hw
  obtain ⟨k1, k2, k3, k4⟩ := pk_all a CC T N hc
  obtain ⟨e1, e2⟩ := ps_put0 hc g2
  have hD : va_D (fun q => base ≤ q) (ps_cw dA (ps_ad base adk) nf h) := ps_D (by have := I.2.2.2.2.1; omega) (fun q z => z)
  obtain ⟨f1, f2⟩ := ps_fit (nf := nf) (ad := ps_ad base adk) g3 (fun k q => by subst q; exact ps_fitr g3)
  have hap := va_apart (own := md.1.cls) hts k1 (pm_tyk a) k3.1 k3.2.1 hK hc
  obtain ⟨r, h1, cell, q1, q2, q3, q4⟩ := I.2.1 o _ he
  have hr : r = (CC, T, N) := Option.some.inj (h1.symm.trans hc)
  subst hr
  obtain ⟨hS, hfc, kC, hkC, hkind⟩ := hK.1 a _ hc
  obtain ⟨cf, kf, fi, f, hi, hsl⟩ := hS b hbN
  have hlay := hts _ (k1 _ (u_in_lay hbN))
  unfold u_lay at hlay
  rw [if_neg (by rw [← e2]; decide)] at hlay
  have hst := (u_facts hfc hkC (u_lays hts k1 hbN) hi).1
  have h6 := u_store hfc hkC hkind hlay hi (by rw [k3.1 b hbN, ← e1]) f1 f2
  refine W.putK hx hbb (f := f) ⟨hown, hts _ hl, ⟨_, _, _, hi⟩, hst⟩ (by rw [q2]; exact h6) q1 q3 (by rw [hsl]; exact k2_hasslot (q4 b hbN)) rfl rfl hd fun H' z1 z2 z3 => ?_
  rw [hsl] at z1 ⊢
  refine g5 H' _ cells slots ls (ps_Iset I g1 (by show (fs.set b v).length = _; rw [List.length_set]; rfl) ?_ (I.2.2.1.put z2 z3 (hD.2 o _ he)) z2)
  rw [ps_cw_set]
  have key := I.2.1.set hD he (e := .inr (a, (fs.map (ps_cv (ps_ad base adk) nf)).set b (ps_cv (ps_ad base adk) nf v))) ⟨_, hc, t_OB.to (V := updV (vp_V (fs.map (ps_cv (ps_ad base adk) nf))) b (ps_cv (ps_ad base adk) nf v)) ⟨_, z1, q2, q3, t_set q4 hap hbN _⟩ (fun j _ => vp_updV_set (by rw [List.length_map]; exact hbl) _ j)⟩ z3
  rw [show ps_ce dA (ps_ad base adk) nf (.inr (a, fs.set b v)) = .inr (a, (fs.map (ps_cv (ps_ad base adk) nf)).set b (ps_cv (ps_ad base adk) nf v)) by show Sum.inr (a, (fs.set b v).map _) = _; rw [List.map_set]]
  exact key
theorem ps_puf (E : ps_E p R s m args meth c md kp base adk nf D dA hb sb h0 s0) : pr_puf kp md C hb sb Q (ps_PP p l e R s m args below meth c QQ md base adk nf D dA hb sb h0 s0) := by
  obtain ⟨hx, hbb, hr, hml, hown, hts, hlk, hnm, hK, hKC, hbs, hnf, hRc, hRs, hh, hok, hfr, hlo⟩ := E
  intro pc nx a b lv st h n o fs fs1 v ty g0 g1 g2 gi g3 g4 g5 H locs cells slots ls I
  obtain ⟨pp, hd, hn, hw⟩ := ps_at2 hok g0 rfl
  subst hn
  have he := ps_cw_at (dA := dA) (ad := ps_ad base adk) (nf := nf) g1
  obtain ⟨hbl, rfl⟩ := ps_nra g4
  obtain ⟨CC, T, N, hc, hbN, hl⟩ := ps_fact hw
  obtain ⟨k1, k2, k3, k4⟩ := pk_all a CC T N hc
  obtain ⟨e1, e2⟩ := ps_put0 hc g2
  have hD : va_D (fun q => base ≤ q) (ps_cw dA (ps_ad base adk) nf h) := ps_D (by have := I.2.2.2.2.1; omega) (fun q z => z)
  obtain ⟨f1, f2⟩ := ps_fit (nf := nf) (ad := ps_ad base adk) g3 (fun k q => by subst q; exact ps_fitr g3)
  have hap := va_apart (own := md.1.cls) hts k1 (pm_tyk a) k3.1 k3.2.1 hK hc
  obtain ⟨r, h1, cell, q1, q2, q3, q4⟩ := I.2.1 o _ he
  have hr : r = (CC, T, N) := Option.some.inj (h1.symm.trans hc)
  subst hr
  have hdecl : (T b).1 = md.1.cls := by
    have := gi.2
    rw [hc] at this
    rw [k3.2.2 b hbN e2.symm]
    exact Option.some.inj this
  obtain ⟨hS, hfc, kC, hkC, hkind⟩ := hK.1 a _ hc
  obtain ⟨cf, kf, fi, f, hi, hsl⟩ := hS b hbN
  have hlay := hts _ (k1 _ (u_in_lay hbN))
  unfold u_lay at hlay
  rw [if_pos e2.symm] at hlay
  have hst := (u_facts hfc hkC (u_lays hts k1 hbN) hi).1
  have hcf : m.cls = cf := by
    obtain ⟨_, _, c', _, _, _, -, -, hf', -, -, -, hown2, -⟩ := Cond.laysFinal_spec hlay
    have e1 : c' = cf := by have := hi.symm.trans hf'; simp at this; exact this.1.symm
    rw [hdecl] at hown2
    rw [← e1]; exact Option.some.inj (hown.symm.trans hown2)
  have h6 := u_fits hfc hkC hkind (Or.inr hlay) hi (by rw [k3.1 b hbN, ← e1]) f1 f2
  refine W.putFinK hx hbb hown (hts _ hl) hi hst hcf (by rw [hnm]; exact gi.1) (by rw [q2]; exact h6) q1 q3 (by rw [hsl]; exact k2_hasslot (q4 b hbN)) rfl rfl hd fun H' z1 z2 z3 => ?_
  rw [hsl] at z1 ⊢
  refine g5 H' _ cells slots ls (ps_Iset I g1 (by show (fs.set b v).length = _; rw [List.length_set]; rfl) ?_ (I.2.2.1.put z2 z3 (hD.2 o _ he)) z2)
  rw [ps_cw_set]
  have key := I.2.1.set hD he (e := .inr (a, (fs.map (ps_cv (ps_ad base adk) nf)).set b (ps_cv (ps_ad base adk) nf v))) ⟨_, hc, t_OB.to (V := updV (vp_V (fs.map (ps_cv (ps_ad base adk) nf))) b (ps_cv (ps_ad base adk) nf v)) ⟨_, z1, q2, q3, t_set q4 hap hbN _⟩ (fun j _ => vp_updV_set (by rw [List.length_map]; exact hbl) _ j)⟩ z3
  rw [show ps_ce dA (ps_ad base adk) nf (.inr (a, fs.set b v)) = .inr (a, (fs.map (ps_cv (ps_ad base adk) nf)).set b (ps_cv (ps_ad base adk) nf v)) by show Sum.inr (a, (fs.set b v).map _) = _; rw [List.map_set]]
  exact key
theorem ps_mmx (E : ps_E p R s m args meth c md kp base adk nf D dA hb sb h0 s0) : pr_mmx kp md C hb sb Q (ps_PP p l e R s m args below meth c QQ md base adk nf D dA hb sb h0 s0) := by
  obtain ⟨hx, hbb, hr, hml, hown, hts, hlk, hnm, hK, hKC, hbs, hnf, hRc, hRs, hh, hok, hfr, hlo⟩ := E
  intro pc nx a b lv st h n x y g0 g1 g2 g3 H locs cells slots ls I
  obtain ⟨pp, hd, hn, hw⟩ := ps_at2 hok g0 rfl
  subst hn
  subst g1
  obtain ⟨w1, w2, w3⟩ := ps_mw
  exact va_mmax hx hbb (by rw [hml]; exact I.1.1.symm) hown (hts _ (ps_w_in hw)) (hts _ w1.1) (hts _ w3) (hts _ w1.2) hfr (by rw [ps_cats hnf]; omega) (by have := I.2.2.2.2.1; have := I.2.2.2.2.2.2.1; omega) (by have := I.2.2.2.2.2.1; have := I.2.2.2.2.2.2.2; omega) hd (g3 H locs cells slots ls I)
theorem ps_mmn (E : ps_E p R s m args meth c md kp base adk nf D dA hb sb h0 s0) : pr_mmn kp md C hb sb Q (ps_PP p l e R s m args below meth c QQ md base adk nf D dA hb sb h0 s0) := by
  obtain ⟨hx, hbb, hr, hml, hown, hts, hlk, hnm, hK, hKC, hbs, hnf, hRc, hRs, hh, hok, hfr, hlo⟩ := E
  intro pc nx a b lv st h n x y g0 g1 g2 g3 H locs cells slots ls I
  obtain ⟨pp, hd, hn, hw⟩ := ps_at2 hok g0 rfl
  subst hn
  subst g1
  obtain ⟨w1, w2, w3⟩ := ps_mw
  exact va_mmin hx hbb (by rw [hml]; exact I.1.1.symm) hown (hts _ (ps_w_in hw)) (hts _ w2.1) (hts _ w3) (hts _ w2.2) hfr (by rw [ps_cats hnf]; omega) (by have := I.2.2.2.2.1; have := I.2.2.2.2.2.2.1; omega) (by have := I.2.2.2.2.2.1; have := I.2.2.2.2.2.2.2; omega) hd (g3 H locs cells slots ls I)
theorem ps_obj (E : ps_E p R s m args meth c md kp base adk nf D dA hb sb h0 s0) : pr_obj kp md C hb sb Q (ps_PP p l e R s m args below meth c QQ md base adk nf D dA hb sb h0 s0) := by
  obtain ⟨hx, hbb, hr, hml, hown, hts, hlk, hnm, hK, hKC, hbs, hnf, hRc, hRs, hh, hok, hfr, hlo⟩ := E
  intro pc nx a b lv st h n o g0 g1 gc g2 H locs cells slots ls I
  obtain ⟨pp, hd, hn, hw⟩ := ps_at2 hok g0 rfl
  subst hn
  subst g1
  refine W.objInit hx hbb hown (hts _ (ps_w_in hw)) (hts _ ps_ow.1) (hts _ ps_ow.2) rfl (by rw [hml]; exact I.1.1) rfl hd hfr (by show 2 * (F0 m pc ls _).monitorRoom + _ + 12 ≤ _; have := lv_room (pc := pc) (ls := ls) (m := m) (rest := (Value.ref o :: st).map (ps_cv (ps_ad base adk) nf)) (st := st.map (ps_cv (ps_ad base adk) nf)) (by rw [ps_cats hnf]; exact gc); omega) ?_
  exact g2 H locs cells slots ls I
end PSX
