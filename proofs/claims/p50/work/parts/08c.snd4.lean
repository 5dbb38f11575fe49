theorem ps_arw : ∀ a, a ≤ 3 → Jvm.Cond.arrayClass (ps_aty a) ∈ ps_T
  | 0, _ => ps_w_in (p := 203) (by decide +kernel)
  | 1, _ => ps_w_in (p := 124) (by decide +kernel)
  | 2, _ => ps_w_in (p := 171) (by decide +kernel)
  | 3, _ => ps_w_in (p := 778) (by decide +kernel)
  | k + 4, h => by omega
section PSY
variable {p : Program} {l : Launch} {e : Env} {R : Room} {s : State} {m : MethodId} {args : Array Value} {below : List Frame} {meth : Method} {c : Code} {QQ : State → Prop} {md : pm_M} {kp : pm_K} {base : Nat} {adk : Nat → Nat} {nf : Value} {D : va_G} {dA : Nat → ClassId} {hb sb h0 s0 : Nat} {C : pm_C} {Q : Option Value → pm_H → Prop}
theorem ps_adh {k : Nat} (h : k < 1000000) : ps_ad base adk k = base + k := if_pos h
theorem ps_new (E : ps_E p R s m args meth c md kp base adk nf D dA hb sb h0 s0) : pr_new kp md C hb sb Q (ps_PP p l e R s m args below meth c QQ md base adk nf D dA hb sb h0 s0) := by
  obtain ⟨hx, hbb, hr, hml, hown, hts, hlk, hnm, hK, hKC, hbs, hnf, hRc, hRs, hh, hok, hfr, hlo⟩ := E
  intro pc nx a b lv st h n fs g0 g1 g2 g3 g4 g5 g6 H locs cells slots ls I
  obtain ⟨pp, hd, hn, hw⟩ := ps_at2 hok g0 rfl
  subst hn
  obtain ⟨i1, i2, i3, i4, i5, i6, i7, i8⟩ := I
  cases hc : pt_cl[a]? with
  | none =>
    have ha : 13 ≤ a := by
      have := List.getElem?_eq_none_iff.mp hc
      exact this
    match a, ha, g2 with
    | k + 13, _, g2 => cases g2
  | some q =>
    obtain ⟨CC, T, N⟩ := q
    obtain ⟨k1, k2, k3, k4⟩ := pk_all a CC T N hc
    have hw2 : ps_w pp (.classLink md.1.cls n CC) = true := by
      simp only [ps_wok, hc] at hw
      exact hw
    rcases k4 with q | ⟨fs2, q1, q2, q3⟩
    · rw [q] at g2; cases g2
    · have ef : fs2 = fs := Option.some.inj (q1.symm.trans g2)
      subst ef
      have hKn := hK.1 a _ hc
      refine W.newcK hx hbb hown (hts _ (ps_w_in hw2)) (hts _ k2.1) (hts _ k2.2) rfl hd (by omega) (by omega) hKn.2.1 rfl fun H1 kC hkC e1 z1 o1 => ?_
      have hk : ∀ (k : Nat) (x : Nat × va_E), (ps_cw dA (ps_ad base adk) nf h)[k]? = some x → H1[x.1]? = H[x.1]? := fun k x hx => o1 x.1 ((i2 k x hx).lt)
      have hf2 : ∀ j, j < N → defaultValue (pm_tyk a j) = vp_V (fs2.map (ps_cv (ps_ad base adk) nf)) j := fun j hj => by
        rw [q3 j hj]
        unfold vp_V
        rw [List.getD_eq_getElem?_getD, List.getD_eq_getElem?_getD, List.getElem?_map]
        have hj2 : j < fs2.length := by omega
        rw [List.getElem?_eq_getElem hj2]
        show fs2[j] = ps_cv _ _ fs2[j]
        have h9 := q3 j hj
        unfold vp_V at h9
        rw [List.getD_eq_getElem?_getD, List.getElem?_eq_getElem hj2] at h9
        have h10 : fs2[j] = defaultValue (pm_tyk a j) := h9.symm
        rw [h10]
        cases pm_tyk a j <;> rfl
      have e7 : ps_ad base adk h.length = H.size := by rw [ps_adh (by omega), i4]
      have key := g6 H1 locs (cells + 1) (slots + N) ls ⟨i1, ?_, ⟨Nat.le_trans i3.1 (by omega), fun x h1 h2 => (o1 x (Nat.lt_of_lt_of_le h1 i3.1)).trans (i3.2.1 x h1 h2), i3.2.2⟩, ?_, ?_, ?_, ?_, ?_⟩
      · rw [List.map_cons, show ps_cv (ps_ad base adk) nf (.ref h.length) = .ref H.size by show Value.ref _ = _; rw [e7]] at key
        exact key
      · rw [ps_cw_app, e7]
        refine (i2.kept hk).app (fun k x hx => ?_)
        have hz : k < 1 := (List.getElem?_eq_some_iff.mp hx).1
        rw [show k = 0 by omega] at hx
        cases hx
        exact ⟨_, hc, (u_born (pm_tyk a) hts k1 hKn hkC e1 k3.1).to hf2⟩
      · rw [z1, i4, List.length_append]; show _ = base + (h.length + 1); omega
      · rw [List.length_append]; exact g3
      · rw [ps_sl_app]; show _ + (fs2.length + 0) ≤ _; omega
      · rw [List.length_append]; show _ ≤ h.length + 1; omega
      · rw [ps_sl_app]; show _ ≤ _ + (fs2.length + 0); omega
theorem ps_nwa (E : ps_E p R s m args meth c md kp base adk nf D dA hb sb h0 s0) : pr_nwa kp md C hb sb Q (ps_PP p l e R s m args below meth c QQ md base adk nf D dA hb sb h0 s0) := by
  obtain ⟨hx, hbb, hr, hml, hown, hts, hlk, hnm, hK, hKC, hbs, hnf, hRc, hRs, hh, hok, hfr, hlo⟩ := E
  intro pc nx a b lv st h ty n N g0 g1 g2 g3 g4 g5 g6 g7 g8 H locs cells slots ls I
  obtain ⟨pp, hd, hn, hw⟩ := ps_at2 hok g0 rfl
  subst hn
  obtain ⟨i1, i2, i3, i4, i5, i6, i7, i8⟩ := I
  obtain ⟨w1, w2⟩ := Bool.and_eq_true_iff.mp hw
  have w1 := Nat.le_of_ble_eq_true w1
  have w2 : newarray.typeOf ty = ps_aty a := of_decide_eq_true w2
  have hcb : N * componentBytes (newarray.typeOf ty) ≤ 536870912 := by
    have : componentBytes (newarray.typeOf ty) ≤ 8 := by cases ty <;> decide
    calc N * componentBytes (newarray.typeOf ty) ≤ N * 8 := Nat.mul_le_mul_left _ this
      _ ≤ 1000000 * 8 := Nat.mul_le_mul_right _ g4
      _ ≤ 536870912 := by decide
  have harr : Jvm.Cond.arrayClass (newarray.typeOf ty) ∈ ps_T := by
    rw [w2]
    have := ps_arw a w1
    exact this
  refine va_newaK hx hbb (hts _ harr) rfl hd rfl g2 g3 hcb (by omega) (by omega) rfl fun H1 cA e1 z1 o1 hAr hNm => ?_
  have hk : ∀ (k : Nat) (x : Nat × va_E), (ps_cw dA (ps_ad base adk) nf h)[k]? = some x → H1[x.1]? = H[x.1]? := fun k x hx => o1 x.1 ((i2 k x hx).lt)
  have e7 : ps_ad base adk h.length = H.size := by rw [ps_adh (by omega), i4]
  have hty : (ps_tys dA)[a]? = some (dA a, newarray.typeOf ty) ∧ ∀ cA : ClassId, va_at D pt_cl (H.size, .inl (cA, ps_ca (ps_ad base adk) (N, pm_zer a))) H1 = (H1[H.size]? = some (arrV cA N (fun _ => defaultValue (newarray.typeOf ty)))) := by
    rw [w2]
    match a, w1 with
    | 0, _ => exact ⟨rfl, fun _ => rfl⟩
    | 1, _ => exact ⟨rfl, fun _ => rfl⟩
    | 2, _ => exact ⟨rfl, fun _ => rfl⟩
    | 3, _ => exact ⟨rfl, fun _ => rfl⟩
    | k + 4, w => omega
  have hcA : cA = dA a := by
    have h1 := (hK.2 a _ hty.1).2
    have h2 : s.vm.findClass ("[" ++ (newarray.typeOf ty).toString) = some (dA a) := by
      cases ty <;> exact h1
    exact Option.some.inj (hNm.symm.trans h2)
  subst hcA
  have key := g8 H1 locs (cells + 1) (slots + N) ls ⟨i1, ?_, ⟨Nat.le_trans i3.1 (by omega), fun x h1 h2 => (o1 x (Nat.lt_of_lt_of_le h1 i3.1)).trans (i3.2.1 x h1 h2), i3.2.2⟩, ?_, ?_, ?_, ?_, ?_⟩
  · rw [List.map_cons, show ps_cv (ps_ad base adk) nf (.ref h.length) = .ref H.size by show Value.ref _ = _; rw [e7]] at key
    exact key
  · rw [ps_cw_app, e7]
    refine (i2.kept hk).app (fun k x hx => ?_)
    have hz : k < 1 := (List.getElem?_eq_some_iff.mp hx).1
    rw [show k = 0 by omega] at hx
    cases hx
    show va_at D pt_cl (H.size, .inl (dA a, ps_ca (ps_ad base adk) (N, pm_zer a))) H1
    rw [hty.2]
    exact e1
  · rw [z1, i4, List.length_append]; show _ = base + (h.length + 1); omega
  · rw [List.length_append]; exact g5
  · rw [ps_sl_app]; show _ + (N + 0) ≤ _; omega
  · rw [List.length_append]; show _ ≤ h.length + 1; omega
  · rw [ps_sl_app]; show _ ≤ _ + (N + 0); omega
theorem ps_nwr (E : ps_E p R s m args meth c md kp base adk nf D dA hb sb h0 s0) : pr_nwr kp md C hb sb Q (ps_PP p l e R s m args below meth c QQ md base adk nf D dA hb sb h0 s0) := by
  obtain ⟨hx, hbb, hr, hml, hown, hts, hlk, hnm, hK, hKC, hbs, hnf, hRc, hRs, hh, hok, hfr, hlo⟩ := E
  intro pc nx a b lv st h i n N g0 ga g1 g2 g3 g4 g5 g6 g7 g8 H locs cells slots ls I
  obtain ⟨pp, hd, hn, hw⟩ := ps_at2 hok g0 rfl
  subst hn
  obtain ⟨i1, i2, i3, i4, i5, i6, i7, i8⟩ := I
  have hw : ps_w pp (.classLink md.1.cls i (bif Nat.beq a 4 then "TurnField$Position" else "java/lang/String")) = true := hw
  subst g3
  obtain ⟨EC, hover, hwE, htE, hca⟩ : ∃ EC, va_AO EC s ∧ Jvm.Cond.classLink md.1.cls i EC ∈ ps_T ∧ (ps_tys dA)[a]? = some (dA a, .object EC) ∧ ∀ n, ps_ca (ps_ad base adk) (n, .inr (.inr (.inr (.inr fun _ => none)))) = (n, .inr (.inr (.inr (.inr fun _ => none)))) := by
    rcases ga with rfl | rfl
    · exact ⟨_, hKC.2.2.2.2.2.2.2.2.2.2.1, ps_w_in hw, rfl, fun _ => rfl⟩
    · exact ⟨_, hKC.2.2.2.2.2.2.2.2.2.2.2.2.2.2.2.1, ps_w_in hw, rfl, fun _ => rfl⟩
  refine W.anew hx hbb hown (hts _ hwE) (va_AO.use hover) rfl hd rfl g2 (by omega) (by omega) (by omega) fun cA kA comp f1 f2 f3 f4 => ?_
  generalize hH1 : H.push ({ cls := cA, slots := Array.replicate n.toNatClampNeg .null, vm := .none } : Cell) = H1
  have z1 : H1.size = H.size + 1 := by rw [← hH1, Array.size_push]
  have e1 : H1[H.size]? = some (arrV cA n.toNatClampNeg (fun _ => .null)) := by rw [← hH1, Array.getElem?_push_size, ← arrV_new]
  have o1 : ∀ q : Nat, q < H.size → H1[q]? = H[q]? := fun q hq => by rw [← hH1, Array.getElem?_push, if_neg (Nat.ne_of_lt hq)]
  have hk : ∀ (k : Nat) (x : Nat × va_E), (ps_cw dA (ps_ad base adk) nf h)[k]? = some x → H1[x.1]? = H[x.1]? := fun k x hx => o1 x.1 ((i2 k x hx).lt)
  have e7 : ps_ad base adk h.length = H.size := by rw [ps_adh (by omega), i4]
  have hcA : cA = dA a := by
    obtain ⟨kA2, comp2, -, -, -, h4⟩ := (hK.2 a _ htE).2
    exact Option.some.inj (f1.symm.trans h4)
  subst hcA
  have key := g8 H1 locs (cells + 1) (slots + n.toNatClampNeg) ls ⟨i1, ?_, ⟨Nat.le_trans i3.1 (by omega), fun x h1 h2 => (o1 x (Nat.lt_of_lt_of_le h1 i3.1)).trans (i3.2.1 x h1 h2), i3.2.2⟩, ?_, ?_, ?_, ?_, ?_⟩
  · rw [List.map_cons, show ps_cv (ps_ad base adk) nf (.ref h.length) = .ref H.size by show Value.ref _ = _; rw [e7]] at key
    exact key
  · rw [ps_cw_app, e7]
    refine (i2.kept hk).app (fun k x hx => ?_)
    have hz : k < 1 := (List.getElem?_eq_some_iff.mp hx).1
    rw [show k = 0 by omega] at hx
    cases hx
    exact e1
  · rw [z1, i4, List.length_append]; show _ = base + (h.length + 1); omega
  · rw [List.length_append]; exact g5
  · rw [ps_sl_app]; show _ + (n.toNatClampNeg + 0) ≤ _; omega
  · rw [List.length_append]; show _ ≤ h.length + 1; omega
  · rw [ps_sl_app]; show _ ≤ _ + (n.toNatClampNeg + 0); omega
end PSY
section PSZ
variable {p : Program} {l : Launch} {e : Env} {R : Room} {s : State} {m : MethodId} {args : Array Value} {below : List Frame} {meth : Method} {c : Code} {QQ : State → Prop} {md : pm_M} {kp : pm_K} {base : Nat} {adk : Nat → Nat} {nf : Value} {D : va_G} {dA : Nat → ClassId} {hb sb h0 s0 : Nat} {C : pm_C} {Q : Option Value → pm_H → Prop}
theorem pm_sl_rep (N : Nat) (x : va_E) : pm_sl (List.replicate N x) = N * pm_sz x := by
  induction N with
  | zero => rw [Nat.zero_mul]; rfl
  | succ N ih => rw [List.replicate_succ, Nat.succ_mul, Nat.add_comm, ← ih]; rfl
theorem ps_nwm (E : ps_E p R s m args meth c md kp base adk nf D dA hb sb h0 s0) : pr_nwm kp md C hb sb Q (ps_PP p l e R s m args below meth c QQ md base adk nf D dA hb sb h0 s0) := by
  obtain ⟨hx, hbb, hr, hml, hown, hts, hlk, hnm, hK, hKC, hbs, hnf, hRc, hRs, hh, hok, hfr, hlo⟩ := E
  intro pc nx a b lv st h i n k N M g0 ga g1 g2 g3 g4 g5 g6 g7 g8 g9 g10 g11 H locs cells slots ls I
  obtain ⟨pp, hd, hn, hw⟩ := ps_at2 hok g0 rfl
  subst hn
  obtain ⟨i1, i2, i3, i4, i5, i6, i7, i8⟩ := I
  have hw : ps_w pp (.classLink md.1.cls i (bif Nat.beq a 5 then "[[J" else "[[Z")) = true := hw
  rcases ga with rfl | rfl
  · have hover : ps_AOA s := hKC.2.2.2.2.2.2.2.2.2.2.2.1
    refine nm_W hx hbb hown (hts _ (ps_w_in hw)) hover (hts _ (ps_arw 1 (by omega))) rfl hd rfl g2 g3 g4 g5 g6 g7 (by omega) (by omega) fun H1 cA co f1 f2 z1 o1 e1 e2 => ?_
    have hk : ∀ (k : Nat) (x : Nat × va_E), (ps_cw dA (ps_ad base adk) nf h)[k]? = some x → H1[x.1]? = H[x.1]? := fun k x hx => o1 x.1 ((i2 k x hx).lt)
    have e7 : ps_ad base adk h.length = H.size := by rw [ps_adh (by omega), i4]
    have hcA : cA = dA 5 := by
      have h1 : s.vm.findClass "[[J" = some (dA 5) := (hK.2 5 _ rfl).2
      exact Option.some.inj (f1.symm.trans h1)
    have hco : co = dA 1 := by
      have h1 : s.vm.findClass "[J" = some (dA 1) := (hK.2 1 _ rfl).2
      exact Option.some.inj (f2.symm.trans h1)
    subst hcA
    subst hco
    have key := g11 H1 locs (cells + (1 + N)) (slots + (N + N * M)) ls ⟨i1, ?_, ⟨Nat.le_trans i3.1 (by omega), fun x h1 h2 => (o1 x (Nat.lt_of_lt_of_le h1 i3.1)).trans (i3.2.1 x h1 h2), i3.2.2⟩, ?_, ?_, ?_, ?_, ?_⟩
    · rw [List.map_cons, show ps_cv (ps_ad base adk) nf (.ref h.length) = .ref H.size by show Value.ref _ = _; rw [e7]] at key
      exact key
    · intro j x hx
      unfold ps_cw at hx
      rw [List.getElem?_mapIdx] at hx
      by_cases c1 : j < h.length
      · rw [List.getElem?_append_left c1] at hx
        exact (i2.kept hk) j x (by unfold ps_cw; rw [List.getElem?_mapIdx]; exact hx)
      · rw [List.getElem?_append_right (by omega)] at hx
        by_cases c2 : j = h.length
        · subst c2
          rw [Nat.sub_self] at hx
          cases hx
          show H1[ps_ad base adk h.length]? = some (arrV (dA 5) N (fun j => va_rf ((if j < N then some (h.length + 1 + j) else none).map (ps_ad base adk))))
          rw [e7, e1]
          unfold nm_c
          congr 2
          funext j
          by_cases q : j < N
          · rw [if_pos q, if_pos q]
            show _ = Value.ref (ps_ad base adk (h.length + 1 + j))
            rw [ps_adh (show h.length + 1 + j < 1000000 by omega), show base + (h.length + 1 + j) = H.size + 1 + j by omega]
          · rw [if_neg q, if_neg q]
            rfl
        · obtain ⟨w, hw1⟩ : ∃ w, j = h.length + 1 + w := ⟨j - h.length - 1, by omega⟩
          subst hw1
          rw [show h.length + 1 + w - h.length = w + 1 by omega] at hx
          have hx2 : ((List.replicate N (pm_row 5 M))[w]?).map (fun c => (ps_ad base adk (h.length + 1 + w), ps_ce dA (ps_ad base adk) nf c)) = some x := hx
          rw [List.getElem?_replicate] at hx2
          by_cases q : w < N
          · rw [if_pos q] at hx2
            cases hx2
            show H1[ps_ad base adk (h.length + 1 + w)]? = some (arrV (dA 1) M (fun _ => .long 0))
            rw [ps_adh (by omega), show base + (h.length + 1 + w) = H.size + 1 + w by omega]
            exact e2 w q
          · rw [if_neg q] at hx2
            cases hx2
    · rw [z1, i4, List.length_append, List.length_append, List.length_replicate]; show _ = base + (h.length + (1 + N)); omega
    · rw [List.length_append, List.length_append, List.length_replicate]; show h.length + (1 + N) ≤ _; omega
    · rw [ps_sl_app, ps_sl_app, pm_sl_rep]; show pm_sl h + (N + 0 + N * M) ≤ _; omega
    · rw [List.length_append, List.length_append, List.length_replicate]; show _ ≤ h.length + (1 + N); omega
    · rw [ps_sl_app, ps_sl_app, pm_sl_rep]; show _ ≤ pm_sl h + (N + 0 + N * M); omega
  · have hover : ps_AOZ s := hKC.2.2.2.2.2.2.2.2.2.2.2.2.2.2.2.2.1
    refine nm_WZ hx hbb hown (hts _ (ps_w_in hw)) hover (hts _ (ps_arw 3 (by omega))) rfl hd rfl g2 g3 g4 g5 g6 g7 (by omega) (by omega) fun H1 cA co f1 f2 z1 o1 e1 e2 => ?_
    have hk : ∀ (k : Nat) (x : Nat × va_E), (ps_cw dA (ps_ad base adk) nf h)[k]? = some x → H1[x.1]? = H[x.1]? := fun k x hx => o1 x.1 ((i2 k x hx).lt)
    have e7 : ps_ad base adk h.length = H.size := by rw [ps_adh (by omega), i4]
    have hcA : cA = dA 6 := by
      have h1 : s.vm.findClass "[[Z" = some (dA 6) := (hK.2 6 _ rfl).2
      exact Option.some.inj (f1.symm.trans h1)
    have hco : co = dA 3 := by
      have h1 : s.vm.findClass "[Z" = some (dA 3) := (hK.2 3 _ rfl).2
      exact Option.some.inj (f2.symm.trans h1)
    subst hcA
    subst hco
    have key := g11 H1 locs (cells + (1 + N)) (slots + (N + N * M)) ls ⟨i1, ?_, ⟨Nat.le_trans i3.1 (by omega), fun x h1 h2 => (o1 x (Nat.lt_of_lt_of_le h1 i3.1)).trans (i3.2.1 x h1 h2), i3.2.2⟩, ?_, ?_, ?_, ?_, ?_⟩
    · rw [List.map_cons, show ps_cv (ps_ad base adk) nf (.ref h.length) = .ref H.size by show Value.ref _ = _; rw [e7]] at key
      exact key
    · intro j x hx
      unfold ps_cw at hx
      rw [List.getElem?_mapIdx] at hx
      by_cases c1 : j < h.length
      · rw [List.getElem?_append_left c1] at hx
        exact (i2.kept hk) j x (by unfold ps_cw; rw [List.getElem?_mapIdx]; exact hx)
      · rw [List.getElem?_append_right (by omega)] at hx
        by_cases c2 : j = h.length
        · subst c2
          rw [Nat.sub_self] at hx
          cases hx
          show H1[ps_ad base adk h.length]? = some (arrV (dA 6) N (fun j => va_rf ((if j < N then some (h.length + 1 + j) else none).map (ps_ad base adk))))
          rw [e7, e1]
          unfold nm_c
          congr 2
          funext j
          by_cases q : j < N
          · rw [if_pos q, if_pos q]
            show _ = Value.ref (ps_ad base adk (h.length + 1 + j))
            rw [ps_adh (show h.length + 1 + j < 1000000 by omega), show base + (h.length + 1 + j) = H.size + 1 + j by omega]
          · rw [if_neg q, if_neg q]
            rfl
        · obtain ⟨w, hw1⟩ : ∃ w, j = h.length + 1 + w := ⟨j - h.length - 1, by omega⟩
          subst hw1
          rw [show h.length + 1 + w - h.length = w + 1 by omega] at hx
          have hx2 : ((List.replicate N (pm_row 6 M))[w]?).map (fun c => (ps_ad base adk (h.length + 1 + w), ps_ce dA (ps_ad base adk) nf c)) = some x := hx
          rw [List.getElem?_replicate] at hx2
          by_cases q : w < N
          · rw [if_pos q] at hx2
            cases hx2
            show H1[ps_ad base adk (h.length + 1 + w)]? = some (arrV (dA 3) M (fun _ => .int 0))
            rw [ps_adh (by omega), show base + (h.length + 1 + w) = H.size + 1 + w by omega]
            exact e2 w q
          · rw [if_neg q] at hx2
            cases hx2
    · rw [z1, i4, List.length_append, List.length_append, List.length_replicate]; show _ = base + (h.length + (1 + N)); omega
    · rw [List.length_append, List.length_append, List.length_replicate]; show h.length + (1 + N) ≤ _; omega
    · rw [ps_sl_app, ps_sl_app, pm_sl_rep]; show pm_sl h + (N + 0 + N * M) ≤ _; omega
    · rw [List.length_append, List.length_append, List.length_replicate]; show _ ≤ h.length + (1 + N); omega
    · rw [ps_sl_app, ps_sl_app, pm_sl_rep]; show _ ≤ pm_sl h + (N + 0 + N * M); omega
end PSZ
