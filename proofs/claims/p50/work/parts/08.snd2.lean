section PSW
variable {p : Program} {l : Launch} {e : Env} {R : Room} {s : State} {m : MethodId} {args : Array Value} {below : List Frame} {meth : Method} {c : Code} {QQ : State → Prop} {md : pm_M} {kp : pm_K} {base : Nat} {adk : Nat → Nat} {nf : Value} {D : va_G} {dA : Nat → ClassId} {hb sb h0 s0 : Nat} {C : pm_C} {Q : Option Value → pm_H → Prop}
theorem ps_adk {k : Nat} (h : 1000000 ≤ k) : ps_ad base adk k = adk k := if_neg (by omega)
theorem ps_cvk {k : Nat} (h : 1000000 ≤ k) : ps_cv (ps_ad base adk) nf (.ref k) = .ref (adk k) := by
  show Value.ref _ = _
  rw [ps_adk h]
theorem ps_Iset {lv : pm_L} {h : pm_H} {H H1 : Heap} {locs locs1 : List Loc} {cells slots : Nat} {ls : Array Slot} {o : Nat} {c0 c1 : va_E} (I : ps_In s md base adk nf D dA hb sb h0 s0 lv h H locs cells slots ls) (g : h[o]? = some c0) (e : pm_sz c1 = pm_sz c0)
    (hP : va_P D pt_cl (ps_cw dA (ps_ad base adk) nf (h.set o c1)) H1) (hS : va_S (fun q => base ≤ q) s.heap H1 locs1) (hz : H1.size = H.size) : ps_In s md base adk nf D dA hb sb h0 s0 lv (h.set o c1) H1 locs1 cells slots ls := by
  obtain ⟨i1, i2, i3, i4, i5, i6, i7, i8⟩ := I
  refine ⟨i1, hP, hS, ?_, ?_, ?_, ?_, ?_⟩
  · rw [hz, List.length_set]; exact i4
  · rw [List.length_set]; exact i5
  · rw [ps_sl_set g e]; exact i6
  · rw [List.length_set]; exact i7
  · rw [ps_sl_set g e]; exact i8
theorem ps_sr_big : ∀ r ∈ ps_sr, 1000010 ≤ r.2.2.2 ∧ r.2.2.2 ≤ 1000018 := by decide
theorem ps_srf {q : String} {n k : Nat} (h : ps_sr.any (fun r => r.1 == q && Nat.beq r.2.1 n && Nat.beq r.2.2.2 k) = true) : ∃ tx, (q, n, tx, k) ∈ ps_sr := by
  obtain ⟨r, h1, h2⟩ := List.any_eq_true.mp h
  obtain ⟨h3, h4⟩ := Bool.and_eq_true_iff.mp h2
  obtain ⟨h5, h6⟩ := Bool.and_eq_true_iff.mp h3
  obtain ⟨a, b, tx, d⟩ := r
  have e1 : a = q := by simpa using h5
  have e2 : b = n := Nat.eq_of_beq_eq_true h6
  have e3 : d = k := Nat.eq_of_beq_eq_true h4
  subst e1
  subst e2
  subst e3
  exact ⟨tx, h1⟩
theorem ps_ldc (E : ps_E p R s m args meth c md kp base adk nf D dA hb sb h0 s0) : pr_ldc kp md C hb sb Q (ps_PP p l e R s m args below meth c QQ md base adk nf D dA hb sb h0 s0) := by
  obtain ⟨hx, hbb, hr, hml, hown, hts, hlk, hnm, hK, hKC, hbs, hnf, hRc, hRs, hh, hok, hfr, hlo⟩ := E
  intro pc nx a b lv st h i v g0 g1 g2 g3 H locs cells slots ls I
  have hsw := hKC.2.2.2.2.2.2.2.2.1
  unfold pm_isl at g1
  split at g1
  · obtain ⟨pp, hd, hn, hw⟩ := ps_at2 hok g0 rfl
    subst hn
    simp only [ps_wok, g2] at hw
    cases v with
    | int x => exact lv_ldc hx hbb hown (hts _ (ps_w_in hw)) hd (g3 H locs cells slots ls I)
    | ref k =>
      obtain ⟨tx, hm⟩ := ps_srf hw
      have hk := g3 H locs cells slots ls I
      have hbig : 1000010 ≤ k := (ps_sr_big _ hm).1
      rw [List.map_cons, ps_cvk (Nat.le_trans (by decide) hbig)] at hk
      exact va_ldcS hx hbb hown (hsw _ hm) hd hk
    | _ => cases hw
  · obtain ⟨pp, hd, hn, hw⟩ := ps_at2 hok g0 rfl
    subst hn
    simp only [ps_wok, g2] at hw
    cases v with
    | int x => exact lv_ldcw hx hbb hown (hts _ (ps_w_in hw)) hd (g3 H locs cells slots ls I)
    | ref k =>
      obtain ⟨tx, hm⟩ := ps_srf hw
      have hk := g3 H locs cells slots ls I
      have hbig : 1000010 ≤ k := (ps_sr_big _ hm).1
      rw [List.map_cons, ps_cvk (Nat.le_trans (by decide) hbig)] at hk
      intro T hT X
      obtain ⟨t, a1, b1⟩ := hk T hT X
      exact ⟨t, X.ldcStringW hx hown (text := tx) (a := adk k) (hsw _ hm).1 (hsw _ hm).2 (g := F0 m pc ls (st.map (ps_cv (ps_ad base adk) nf))) rfl (by rw [hbb]; exact hd) t a1, b1⟩
    | _ => cases hw
  · obtain ⟨pp, hd, hn, hw⟩ := ps_at2 hok g0 rfl
    subst hn
    simp only [ps_wok, g2] at hw
    cases v with
    | long x => exact lv_ldc2 hx hbb hown (hts _ (ps_w_in hw)) hd (g3 H locs cells slots ls I)
    | _ => cases hw
  · cases g1
theorem ps_fact {ci b : Nat} {n : Nat} {pp : Nat} {k : String} (hw : (match pt_cl[ci]? with
      | some (C, T, N) => Nat.ble (b + 1) N && ps_w pp (.fieldLink k n (T b).1 (T b).2.1 (T b).2.2.1)
      | none => false) = true) : ∃ (C : String) (T : u_T) (N : Nat), pt_cl[ci]? = some (C, T, N) ∧ b < N ∧ Jvm.Cond.fieldLink k n (T b).1 (T b).2.1 (T b).2.2.1 ∈ ps_T := by
  cases hc : pt_cl[ci]? with
  | none => rw [hc] at hw; cases hw
  | some q =>
    obtain ⟨C, T, N⟩ := q
    rw [hc] at hw
    obtain ⟨h1, h2⟩ := Bool.and_eq_true_iff.mp hw
    exact ⟨C, T, N, rfl, Nat.le_of_ble_eq_true h1, ps_w_in h2⟩
theorem ps_get (E : ps_E p R s m args meth c md kp base adk nf D dA hb sb h0 s0) : pr_get kp md C hb sb Q (ps_PP p l e R s m args below meth c QQ md base adk nf D dA hb sb h0 s0) := by
  obtain ⟨hx, hbb, hr, hml, hown, hts, hlk, hnm, hK, hKC, hbs, hnf, hRc, hRs, hh, hok, hfr, hlo⟩ := E
  intro pc nx a b lv st h n o fs v g0 g1 g2 g3 H locs cells slots ls I
  obtain ⟨pp, hd, hn, hw⟩ := ps_at2 hok g0 rfl
  subst hn
  have hP := I.2.1
  have he := ps_cw_at (dA := dA) (ad := ps_ad base adk) (nf := nf) g1
  by_cases ha : a = 100
  · subst ha
    obtain ⟨r, q1, -⟩ := hP o _ he
    cases q1
  · have hw2 : (match pt_cl[a]? with
      | some (C, T, N) => Nat.ble (b + 1) N && (ps_w pp (.fieldLink md.1.cls n (T b).1 (T b).2.1 (T b).2.2.1) || ps_nsf.any (fun w => decide (w = .fieldLinkNest md.1.cls n (T b).1 (T b).2.1 (T b).2.2.1 "TurnFieldLaw")))
      | none => false) = true := by
      simp only [ps_wok] at hw
      rw [show Nat.beq a 100 = false by rw [ps_beq]; simpa using ha] at hw
      exact hw
    cases hc : pt_cl[a]? with
    | none => rw [hc] at hw2; cases hw2
    | some q =>
      obtain ⟨CC, T, N⟩ := q
      rw [hc] at hw2
      obtain ⟨k1, k2, k3, k4⟩ := pk_all a CC T N hc
      obtain ⟨z1, z2⟩ := Bool.and_eq_true_iff.mp hw2
      have hbN : b < N := Nat.le_of_ble_eq_true z1
      rcases Bool.or_eq_true_iff.mp z2 with z2 | z2
      · exact va_get hx hbb hts k1 hown hK hP o he hc b hbN (hts _ (ps_w_in z2)) (fun _ z => z) (by rw [List.getElem?_map, g2]; rfl) hd (g3 H locs cells slots ls I)
      · obtain ⟨w, w1, w2⟩ := List.any_eq_true.mp z2
        have w2 := of_decide_eq_true w2
        subst w2
        have hnest := hKC.2.2.2.2.2.2.2.2.2.2.2.2.2.2.1 _ w1
        exact va_getN hx hbb hts k1 hown hK hP o he hc b hbN (va_Nw.use rfl hnest) (fun _ z => z) (by rw [List.getElem?_map, g2]; rfl) hd (g3 H locs cells slots ls I)
theorem ps_put0 {ci k : Nat} {ty : FieldType} {fin : Bool} {C : String} {T : u_T} {N : Nat} (hc : pt_cl[ci]? = some (C, T, N)) (g : pm_fty ci k = some (ty, fin)) : ty = pm_tyk ci k ∧ fin = (T k).2.2.2 := by
  unfold pm_fty at g
  rw [hc] at g
  dsimp only at g
  cases hq : Nat.ble (k + 1) N with
  | false => rw [hq] at g; cases g
  | true => rw [hq] at g; cases g; exact ⟨rfl, rfl⟩
theorem ps_fit {ad : Nat → Nat} {ty : FieldType} {v : Value} (g : pm_fit ty v) (hv : ∀ k, ¬ v = .retAddr k) : narrow ty (ps_cv ad nf v) = ps_cv ad nf v ∧ fits ty (ps_cv ad nf v) = true := by
  cases v with
  | ref a => exact ⟨by cases ty <;> first | rfl | (have := g.2; cases this), by have := g.2; cases ty <;> first | rfl | cases this⟩
  | retAddr k => exact absurd rfl (hv k)
  | _ => exact g
theorem ps_gek (E : ps_E p R s m args meth c md kp base adk nf D dA hb sb h0 s0) : pr_gek kp md C hb sb Q (ps_PP p l e R s m args below meth c QQ md base adk nf D dA hb sb h0 s0) := by
  obtain ⟨hx, hbb, hr, hml, hown, hts, hlk, hnm, hK, hKC, hbs, hnf, hRc, hRs, hh, hok, hfr, hlo⟩ := E
  intro pc nx a b lv st h n o v g0 g1 g2 g3 H locs cells slots ls I
  obtain ⟨pp, hd, hn, hw⟩ := ps_at2 hok g0 rfl
  subst hn
  subst g1
  have hE := hKC.2.2.2.2.2.2.2.1
  have hk := g3 H locs cells slots ls I
  unfold pm_kfl at g2
  cases hc : (Nat.ble 1000010 o && Nat.ble o 1000018) with
  | false => rw [hc] at g2; cases g2
  | true =>
    rw [hc] at g2
    obtain ⟨q1, q2⟩ := Bool.and_eq_true_iff.mp hc
    have q1 := Nat.le_of_ble_eq_true q1
    have q2 := Nat.le_of_ble_eq_true q2
    obtain ⟨i, rfl⟩ : ∃ i, o = 1000010 + i := ⟨o - 1000010, by omega⟩
    have hi : i < 9 := by omega
    obtain ⟨e1, e2, e3, e4⟩ := hE.1 i hi
    dsimp only [cond_true] at g2
    split at g2
    · cases g2
      rw [List.map_cons, show ps_cv (ps_ad base adk) nf (.ref (1000010 + i + 20)) = .ref (adk (1000030 + i)) by show Value.ref _ = _; rw [ps_adk (by omega)]; congr 2; omega] at hk
      rw [List.map_cons, show ps_cv (ps_ad base adk) nf (.ref (1000010 + i)) = .ref (adk (1000010 + i)) by show Value.ref _ = _; rw [ps_adk (by omega)]]
      exact vk_getf hx hbb e3 I.2.2.1 hown (hts _ (ps_w_in hw)) (fun _ z => z) hd hk
    · cases g2
      rw [List.map_cons, show ps_cv (ps_ad base adk) nf (.ref (1000010 + i)) = .ref (adk (1000010 + i)) by show Value.ref _ = _; rw [ps_adk (by omega)]]
      exact vk_getf hx hbb e2 I.2.2.1 hown (hts _ (ps_w_in hw)) (fun _ z => z) hd hk
    · cases g2
theorem ps_gst (E : ps_E p R s m args meth c md kp base adk nf D dA hb sb h0 s0) : pr_gst kp md C hb sb Q (ps_PP p l e R s m args below meth c QQ md base adk nf D dA hb sb h0 s0) := by
  obtain ⟨hx, hbb, hr, hml, hown, hts, hlk, hnm, hK, hKC, hbs, hnf, hRc, hRs, hh, hok, hfr, hlo⟩ := E
  intro pc nx a b lv st h n v g0 g1 g2 H locs cells slots ls I
  obtain ⟨pp, hd, hn, hw⟩ := ps_at2 hok g0 rfl
  subst hn
  obtain ⟨c1, c2, c3, c4, c5, c6, c7, c8, c9, c10, c11, c12, c13, c14, c15⟩ := hKC
  have hk := g2 H locs cells slots ls I
  unfold pm_gst at g1
  split at g1
  · cases g1
    rw [List.map_cons, show ps_cv (ps_ad base adk) nf (.ref 1000001) = .ref (adk 1000001) by show Value.ref _ = _; rw [ps_adk (by omega)]] at hk
    exact va_gets hx hbb c4 I.2.2.1 hown (hts _ (ps_w_in hw)) (fun _ z => z) hd hk
  · cases g1
    rw [List.map_cons, show ps_cv (ps_ad base adk) nf (.ref 1000002) = .ref (adk 1000002) by show Value.ref _ = _; rw [ps_adk (by omega)]] at hk
    exact va_gets hx hbb c5 I.2.2.1 hown (hts _ (ps_w_in hw)) (fun _ z => z) hd hk
  · cases g1
    exact va_gets hx hbb c6 I.2.2.1 hown (hts _ (ps_w_in hw)) (fun _ z => z) hd hk
  · cases g1
    exact va_gets hx hbb c7 I.2.2.1 hown (hts _ (ps_w_in hw)) (fun _ z => z) hd hk
  · cases g1
    rw [List.map_cons, show ps_cv (ps_ad base adk) nf (.ref 1000003) = .ref (adk 1000003) by show Value.ref _ = _; rw [ps_adk (by omega)]] at hk
    exact va_gets hx hbb c14 I.2.2.1 hown (hts _ (ps_w_in hw)) (fun _ z => z) hd hk
  · cases g1
theorem ps_lk : ∀ (l : List (Nat × Nat × vp_A)) (o : Nat) (x : Nat × vp_A), pm_lk l o = some x → (o, x) ∈ l
  | [], o, x, g => by cases g
  | q :: r, o, x, g => by
    unfold pm_lk at g
    cases h : Nat.beq q.1 o with
    | true =>
      rw [h] at g
      cases g
      have e : q.1 = o := Nat.eq_of_beq_eq_true h
      subst e
      exact List.mem_cons_self
    | false =>
      rw [h] at g
      exact List.mem_cons_of_mem _ (ps_lk r o x g)
theorem ps_kar {kp : pm_K} {o t n : Nat} {x : (Nat → Int32) ⊕ (Nat → Int64) ⊕ (Nat → UInt32) ⊕ (Nat → UInt64) ⊕ (Nat → Option Nat)} (g : pm_kar kp o = some (t, (n, x))) :
    (o = 1000000 ∧ t = 0 ∧ n = kp.1 ∧ x = .inl kp.2) ∨ (o = 1000001 ∧ t = 1 ∧ n = 6 ∧ x = .inr (.inl (fun i => pm_low.getD i 0))) ∨ (o = 1000002 ∧ t = 2 ∧ n = 100 ∧ x = .inl (fun i => pm_ones.getD i 0)) ∨ (o = 1000003 ∧ t = 2 ∧ n = 100 ∧ x = .inl (fun i => pm_tens.getD i 0)) ∨
    ∃ i, i < 9 ∧ o = 1000030 + i ∧ t = 2 ∧ n = [2, 5, 5, 4, 5, 1, 0, 2, 6].getD i 0 ∧ x = .inl (fun j => (pm_wds.getD i []).getD j 0) := by
  have h := ps_lk _ _ _ g
  simp only [pm_kt, List.mem_cons, List.not_mem_nil, or_false] at h
  rcases h with h | h | h | h | h | h | h | h | h | h | h | h | h
  · cases h; exact Or.inl ⟨rfl, rfl, rfl, rfl⟩
  · cases h; exact Or.inr (Or.inl ⟨rfl, rfl, rfl, rfl⟩)
  · cases h; exact Or.inr (Or.inr (Or.inl ⟨rfl, rfl, rfl, rfl⟩))
  · cases h; exact Or.inr (Or.inr (Or.inr (Or.inl ⟨rfl, rfl, rfl, rfl⟩)))
  · cases h; exact Or.inr (Or.inr (Or.inr (Or.inr ⟨0, by decide, rfl, rfl, rfl, rfl⟩)))
  · cases h; exact Or.inr (Or.inr (Or.inr (Or.inr ⟨1, by decide, rfl, rfl, rfl, rfl⟩)))
  · cases h; exact Or.inr (Or.inr (Or.inr (Or.inr ⟨2, by decide, rfl, rfl, rfl, rfl⟩)))
  · cases h; exact Or.inr (Or.inr (Or.inr (Or.inr ⟨3, by decide, rfl, rfl, rfl, rfl⟩)))
  · cases h; exact Or.inr (Or.inr (Or.inr (Or.inr ⟨4, by decide, rfl, rfl, rfl, rfl⟩)))
  · cases h; exact Or.inr (Or.inr (Or.inr (Or.inr ⟨5, by decide, rfl, rfl, rfl, rfl⟩)))
  · cases h; exact Or.inr (Or.inr (Or.inr (Or.inr ⟨6, by decide, rfl, rfl, rfl, rfl⟩)))
  · cases h; exact Or.inr (Or.inr (Or.inr (Or.inr ⟨7, by decide, rfl, rfl, rfl, rfl⟩)))
  · cases h; exact Or.inr (Or.inr (Or.inr (Or.inr ⟨8, by decide, rfl, rfl, rfl, rfl⟩)))
theorem ps_kil (E : ps_E p R s m args meth c md kp base adk nf D dA hb sb h0 s0) : pr_kil kp md C hb sb Q (ps_PP p l e R s m args below meth c QQ md base adk nf D dA hb sb h0 s0) := by
  obtain ⟨hx, hbb, hr, hml, hown, hts, hlk, hnm, hK, hKC, hbs, hnf, hRc, hRs, hh, hok, hfr, hlo⟩ := E
  intro pc nx a b lv st h o n f j g0 g1 g2 g3 H locs cells slots ls I
  obtain ⟨pp, hd, hn, -⟩ := ps_at2 hok g0 rfl
  subst hn
  rcases ps_kar g1 with ⟨rfl, -, rfl, e⟩ | ⟨-, e, -⟩ | ⟨-, e, -⟩ | ⟨-, e, -⟩ | ⟨i, -, -, e, -⟩
  · cases e
    rw [List.map_cons, List.map_cons, ps_cvk (by omega)]
    exact va_ti hx hbb hKC.1 I.2.2.1 g2 rfl hd (g3 H locs cells slots ls I)
  all_goals cases e
theorem ps_kbl (E : ps_E p R s m args meth c md kp base adk nf D dA hb sb h0 s0) : pr_kbl kp md C hb sb Q (ps_PP p l e R s m args below meth c QQ md base adk nf D dA hb sb h0 s0) := by
  obtain ⟨hx, hbb, hr, hml, hown, hts, hlk, hnm, hK, hKC, hbs, hnf, hRc, hRs, hh, hok, hfr, hlo⟩ := E
  intro pc nx a b lv st h o n f j g0 g1 g2 g3 H locs cells slots ls I
  obtain ⟨pp, hd, hn, -⟩ := ps_at2 hok g0 rfl
  subst hn
  rcases ps_kar g1 with ⟨-, e, -⟩ | ⟨-, e, -⟩ | ⟨rfl, -, rfl, e⟩ | ⟨rfl, -, rfl, e⟩ | ⟨i, hi, rfl, -, rfl, e⟩
  · cases e
  · cases e
  · cases e
    rw [List.map_cons, List.map_cons, ps_cvk (by omega)]
    exact va_tb hx hbb hKC.2.2.1 I.2.2.1 g2 rfl hd (g3 H locs cells slots ls I)
  · cases e
    rw [List.map_cons, List.map_cons, ps_cvk (by omega)]
    exact va_tb hx hbb hKC.2.2.2.2.2.2.2.2.2.2.2.2.1 I.2.2.1 g2 rfl hd (g3 H locs cells slots ls I)
  · cases e
    rw [List.map_cons, List.map_cons, ps_cvk (by omega)]
    exact va_tb hx hbb (hKC.2.2.2.2.2.2.2.1.1 i hi).2.2.2 I.2.2.1 g2 rfl hd (g3 H locs cells slots ls I)
theorem ps_kll (E : ps_E p R s m args meth c md kp base adk nf D dA hb sb h0 s0) : pr_kll kp md C hb sb Q (ps_PP p l e R s m args below meth c QQ md base adk nf D dA hb sb h0 s0) := by
  obtain ⟨hx, hbb, hr, hml, hown, hts, hlk, hnm, hK, hKC, hbs, hnf, hRc, hRs, hh, hok, hfr, hlo⟩ := E
  intro pc nx a b lv st h o n f j g0 g1 g2 g3 H locs cells slots ls I
  obtain ⟨pp, hd, hn, -⟩ := ps_at2 hok g0 rfl
  subst hn
  rcases ps_kar g1 with ⟨-, e, -⟩ | ⟨rfl, -, rfl, e⟩ | ⟨-, e, -⟩ | ⟨-, e, -⟩ | ⟨i, -, -, e, -⟩
  · cases e
  · cases e
    rw [List.map_cons, List.map_cons, ps_cvk (by omega)]
    exact va_tl hx hbb hKC.2.1 I.2.2.1 g2 rfl hd (g3 H locs cells slots ls I)
  all_goals cases e
theorem ps_kle (E : ps_E p R s m args meth c md kp base adk nf D dA hb sb h0 s0) : pr_kle kp md C hb sb Q (ps_PP p l e R s m args below meth c QQ md base adk nf D dA hb sb h0 s0) := by
  obtain ⟨hx, hbb, hr, hml, hown, hts, hlk, hnm, hK, hKC, hbs, hnf, hRc, hRs, hh, hok, hfr, hlo⟩ := E
  intro pc nx a b lv st h o n t x g0 g1 g2 H locs cells slots ls I
  obtain ⟨pp, hd, hn, -⟩ := ps_at2 hok g0 rfl
  subst hn
  rcases ps_kar g1 with ⟨rfl, -, rfl, e⟩ | ⟨rfl, -, rfl, e⟩ | ⟨rfl, -, rfl, e⟩ | ⟨rfl, -, rfl, e⟩ | ⟨i, hi, rfl, -, rfl, e⟩
  · rw [List.map_cons, ps_cvk (by omega)]
    exact va_tlen hx hbb hKC.1 I.2.2.1 rfl hd (g2 H locs cells slots ls I)
  · rw [List.map_cons, ps_cvk (by omega)]
    exact va_tlen hx hbb hKC.2.1 I.2.2.1 rfl hd (g2 H locs cells slots ls I)
  · rw [List.map_cons, ps_cvk (by omega)]
    exact va_tlen hx hbb hKC.2.2.1 I.2.2.1 rfl hd (g2 H locs cells slots ls I)
  · rw [List.map_cons, ps_cvk (by omega)]
    exact va_tlen hx hbb hKC.2.2.2.2.2.2.2.2.2.2.2.2.1 I.2.2.1 rfl hd (g2 H locs cells slots ls I)
  · rw [List.map_cons, ps_cvk (by omega)]
    exact va_tlen hx hbb (hKC.2.2.2.2.2.2.2.1.1 i hi).2.2.2 I.2.2.1 rfl hd (g2 H locs cells slots ls I)
theorem ps_ial (E : ps_E p R s m args meth c md kp base adk nf D dA hb sb h0 s0) : pr_ial kp md C hb sb Q (ps_PP p l e R s m args below meth c QQ md base adk nf D dA hb sb h0 s0) := by
  obtain ⟨hx, hbb, hr, hml, hown, hts, hlk, hnm, hK, hKC, hbs, hnf, hRc, hRs, hh, hok, hfr, hlo⟩ := E
  intro pc nx a b lv st h o n f j g0 g1 g2 g3 H locs cells slots ls I
  obtain ⟨pp, hd, hn, -⟩ := ps_at2 hok g0 rfl
  subst hn
  exact va_iald hx hbb hK I.2.1 o 0 (ps_cw_at (dA := dA) (ad := ps_ad base adk) (nf := nf) g1) rfl g2 hd (g3 H locs cells slots ls I)
theorem ps_bal (E : ps_E p R s m args meth c md kp base adk nf D dA hb sb h0 s0) : pr_bal kp md C hb sb Q (ps_PP p l e R s m args below meth c QQ md base adk nf D dA hb sb h0 s0) := by
  obtain ⟨hx, hbb, hr, hml, hown, hts, hlk, hnm, hK, hKC, hbs, hnf, hRc, hRs, hh, hok, hfr, hlo⟩ := E
  intro pc nx a b lv st h o n f j g0 g1 g2 g3 H locs cells slots ls I
  obtain ⟨pp, hd, hn, -⟩ := ps_at2 hok g0 rfl
  subst hn
  exact va_bald hx hbb hK I.2.1 o 2 (ps_cw_at (dA := dA) (ad := ps_ad base adk) (nf := nf) g1) rfl g2 hd (g3 H locs cells slots ls I)
theorem ps_zal (E : ps_E p R s m args meth c md kp base adk nf D dA hb sb h0 s0) : pr_zal kp md C hb sb Q (ps_PP p l e R s m args below meth c QQ md base adk nf D dA hb sb h0 s0) := by
  obtain ⟨hx, hbb, hr, hml, hown, hts, hlk, hnm, hK, hKC, hbs, hnf, hRc, hRs, hh, hok, hfr, hlo⟩ := E
  intro pc nx a b lv st h o n f j g0 g1 g2 g3 H locs cells slots ls I
  obtain ⟨pp, hd, hn, -⟩ := ps_at2 hok g0 rfl
  subst hn
  exact va_zald hx hbb hK I.2.1 o 3 (ps_cw_at (dA := dA) (ad := ps_ad base adk) (nf := nf) g1) rfl g2 hd (g3 H locs cells slots ls I)
theorem ps_lal (E : ps_E p R s m args meth c md kp base adk nf D dA hb sb h0 s0) : pr_lal kp md C hb sb Q (ps_PP p l e R s m args below meth c QQ md base adk nf D dA hb sb h0 s0) := by
  obtain ⟨hx, hbb, hr, hml, hown, hts, hlk, hnm, hK, hKC, hbs, hnf, hRc, hRs, hh, hok, hfr, hlo⟩ := E
  intro pc nx a b lv st h o n f j g0 g1 g2 g3 H locs cells slots ls I
  obtain ⟨pp, hd, hn, -⟩ := ps_at2 hok g0 rfl
  subst hn
  exact va_lald hx hbb hK I.2.1 o 1 (ps_cw_at (dA := dA) (ad := ps_ad base adk) (nf := nf) g1) rfl g2 hd (g3 H locs cells slots ls I)
theorem ps_len1 (E : ps_E p R s m args meth c md kp base adk nf D dA hb sb h0 s0) : pr_len kp md C hb sb Q (ps_PP p l e R s m args below meth c QQ md base adk nf D dA hb sb h0 s0) := by
  obtain ⟨hx, hbb, hr, hml, hown, hts, hlk, hnm, hK, hKC, hbs, hnf, hRc, hRs, hh, hok, hfr, hlo⟩ := E
  intro pc nx a b lv st h o n t x g0 g1 g2 g3 H locs cells slots ls I
  obtain ⟨pp, hd, hn, -⟩ := ps_at2 hok g0 rfl
  subst hn
  have he := ps_cw_at (dA := dA) (ad := ps_ad base adk) (nf := nf) g1
  have hx1 : ∃ ty, (ps_tys dA)[t]? = some (dA t, ty) := by
    match t, g2 with
    | 0, _ => exact ⟨_, rfl⟩
    | 1, _ => exact ⟨_, rfl⟩
    | 2, _ => exact ⟨_, rfl⟩
    | 3, _ => exact ⟨_, rfl⟩
    | 4, _ => exact ⟨_, rfl⟩
    | 5, _ => exact ⟨_, rfl⟩
    | 6, _ => exact ⟨_, rfl⟩
    | 7, _ => exact ⟨_, rfl⟩
    | k + 8, g => omega
  obtain ⟨ty, ht⟩ := hx1
  refine va_alen (x := ps_ca (ps_ad base adk) (n, x)) hx hbb hK I.2.1 o t he ht ?_ hd (g3 H locs cells slots ls I)
  obtain f | f | f | f | f := x <;> rfl
theorem ps_aal (E : ps_E p R s m args meth c md kp base adk nf D dA hb sb h0 s0) : pr_aal kp md C hb sb Q (ps_PP p l e R s m args below meth c QQ md base adk nf D dA hb sb h0 s0) := by
  obtain ⟨hx, hbb, hr, hml, hown, hts, hlk, hnm, hK, hKC, hbs, hnf, hRc, hRs, hh, hok, hfr, hlo⟩ := E
  intro pc nx a b lv st h o n r f j t g0 g1 g2 g3 g4 g5 H locs cells slots ls I
  obtain ⟨pp, hd, hn, -⟩ := ps_at2 hok g0 rfl
  subst hn
  have he := ps_cw_at (dA := dA) (ad := ps_ad base adk) (nf := nf) g1
  have hlt : j.toNatClampNeg < n := Nat.not_le.mp fun q => g3 (Or.inr q)
  have hx1 : ∃ ty, (ps_tys dA)[t]? = some (dA t, ty) ∧ ty.isReference = true := by
    match t, g2 with
    | 4, _ => exact ⟨_, rfl, rfl⟩
    | 5, _ => exact ⟨_, rfl, rfl⟩
    | 6, _ => exact ⟨_, rfl, rfl⟩
    | 7, _ => exact ⟨_, rfl, rfl⟩
    | 0, g => omega
    | 1, g => omega
    | 2, g => omega
    | 3, g => omega
    | k + 8, g => omega
  obtain ⟨ty, ht, hty⟩ := hx1
  have e5 : (arrV (dA t) n (fun k => va_rf ((f k).map (ps_ad base adk)))).slots[j.toNatClampNeg]? = some (.ref (ps_ad base adk r)) := by
    rw [arrV_read _ _ hlt]
    rw [g4]
    rfl
  refine W.aald (v := .ref (ps_ad base adk r)) (ty := ty) hx hbb (I.2.1 o _ he) ((hK.2 t _ ht).1 n (fun k => va_rf ((f k).map (ps_ad base adk)))) hty (fun q => by cases q) (by show ¬ (j < 0 ∨ (arrV _ _ _).slots.size ≤ _); rw [arrV_size]; exact g3) e5 rfl rfl hd (g5 H locs cells slots ls I)
theorem ps_ias (E : ps_E p R s m args meth c md kp base adk nf D dA hb sb h0 s0) : pr_ias kp md C hb sb Q (ps_PP p l e R s m args below meth c QQ md base adk nf D dA hb sb h0 s0) := by
  obtain ⟨hx, hbb, hr, hml, hown, hts, hlk, hnm, hK, hKC, hbs, hnf, hRc, hRs, hh, hok, hfr, hlo⟩ := E
  intro pc nx a b lv st h o n f j x g0 g1 g2 g3 H locs cells slots ls I
  obtain ⟨pp, hd, hn, -⟩ := ps_at2 hok g0 rfl
  subst hn
  have he := ps_cw_at (dA := dA) (ad := ps_ad base adk) (nf := nf) g1
  have hD : va_D (fun q => base ≤ q) (ps_cw dA (ps_ad base adk) nf h) := ps_D (by have := I.2.2.2.2.1; omega) (fun q z => z)
  refine W.iast hx hbb (I.2.1 o _ he) ((hK.2 0 _ rfl).1 n (fun k => .int (f k))) (fun q => by cases q) (by show ¬ (j < 0 ∨ (arrV _ _ _).slots.size ≤ _); rw [arrV_size]; exact g2) rfl rfl hd fun H1 e1 z1 oq => ?_
  refine g3 H1 _ cells slots ls (ps_Iset I g1 (by rfl) ?_ ?_ z1)
  · rw [ps_cw_set]
    refine I.2.1.set hD he ?_ oq
    show H1[_]? = some (vp_cell _ _)
    rw [e1]
    dsimp only [ps_ca]
    rw [vp_cell_i, vp_cell_i, arrV_store]
    congr 2
    funext q
    by_cases hq : q = j.toNatClampNeg
    · subst hq
      simp [updV, upd]
      
    · simp [updV, upd, hq]
  · exact I.2.2.1.put z1 oq (hD.2 o _ he)
theorem ps_bas (E : ps_E p R s m args meth c md kp base adk nf D dA hb sb h0 s0) : pr_bas kp md C hb sb Q (ps_PP p l e R s m args below meth c QQ md base adk nf D dA hb sb h0 s0) := by
  obtain ⟨hx, hbb, hr, hml, hown, hts, hlk, hnm, hK, hKC, hbs, hnf, hRc, hRs, hh, hok, hfr, hlo⟩ := E
  intro pc nx a b lv st h o n f j x g0 g1 g2 g3 H locs cells slots ls I
  obtain ⟨pp, hd, hn, -⟩ := ps_at2 hok g0 rfl
  subst hn
  have he := ps_cw_at (dA := dA) (ad := ps_ad base adk) (nf := nf) g1
  have hD : va_D (fun q => base ≤ q) (ps_cw dA (ps_ad base adk) nf h) := ps_D (by have := I.2.2.2.2.1; omega) (fun q z => z)
  refine W.bast hx hbb (I.2.1 o _ he) ((hK.2 2 _ rfl).1 n (fun k => .int (f k))) (fun q => by cases q) (by show ¬ (j < 0 ∨ (arrV _ _ _).slots.size ≤ _); rw [arrV_size]; exact g2) rfl rfl hd fun H1 e1 z1 oq => ?_
  refine g3 H1 _ cells slots ls (ps_Iset I g1 (by rfl) ?_ ?_ z1)
  · rw [ps_cw_set]
    refine I.2.1.set hD he ?_ oq
    show H1[_]? = some (vp_cell _ _)
    rw [e1]
    dsimp only [ps_ca]
    rw [vp_cell_i, vp_cell_i, arrV_store]
    congr 2
    funext q
    by_cases hq : q = j.toNatClampNeg
    · subst hq
      simp [updV, upd]
      rfl
    · simp [updV, upd, hq]
  · exact I.2.2.1.put z1 oq (hD.2 o _ he)
theorem ps_zas (E : ps_E p R s m args meth c md kp base adk nf D dA hb sb h0 s0) : pr_zas kp md C hb sb Q (ps_PP p l e R s m args below meth c QQ md base adk nf D dA hb sb h0 s0) := by
  obtain ⟨hx, hbb, hr, hml, hown, hts, hlk, hnm, hK, hKC, hbs, hnf, hRc, hRs, hh, hok, hfr, hlo⟩ := E
  intro pc nx a b lv st h o n f j x g0 g1 g2 g3 H locs cells slots ls I
  obtain ⟨pp, hd, hn, -⟩ := ps_at2 hok g0 rfl
  subst hn
  have he := ps_cw_at (dA := dA) (ad := ps_ad base adk) (nf := nf) g1
  have hD : va_D (fun q => base ≤ q) (ps_cw dA (ps_ad base adk) nf h) := ps_D (by have := I.2.2.2.2.1; omega) (fun q z => z)
  refine W.zast hx hbb (I.2.1 o _ he) ((hK.2 3 _ rfl).1 n (fun k => .int (f k))) (fun q => by cases q) (by show ¬ (j < 0 ∨ (arrV _ _ _).slots.size ≤ _); rw [arrV_size]; exact g2) rfl rfl hd fun H1 e1 z1 oq => ?_
  refine g3 H1 _ cells slots ls (ps_Iset I g1 (by rfl) ?_ ?_ z1)
  · rw [ps_cw_set]
    refine I.2.1.set hD he ?_ oq
    show H1[_]? = some (vp_cell _ _)
    rw [e1]
    dsimp only [ps_ca]
    rw [vp_cell_i, vp_cell_i, arrV_store]
    congr 2
    funext q
    by_cases hq : q = j.toNatClampNeg
    · subst hq
      simp [updV, upd]
      rfl
    · simp [updV, upd, hq]
  · exact I.2.2.1.put z1 oq (hD.2 o _ he)
theorem ps_las (E : ps_E p R s m args meth c md kp base adk nf D dA hb sb h0 s0) : pr_las kp md C hb sb Q (ps_PP p l e R s m args below meth c QQ md base adk nf D dA hb sb h0 s0) := by
  obtain ⟨hx, hbb, hr, hml, hown, hts, hlk, hnm, hK, hKC, hbs, hnf, hRc, hRs, hh, hok, hfr, hlo⟩ := E
  intro pc nx a b lv st h o n f j x g0 g1 g2 g3 H locs cells slots ls I
  obtain ⟨pp, hd, hn, -⟩ := ps_at2 hok g0 rfl
  subst hn
  have he := ps_cw_at (dA := dA) (ad := ps_ad base adk) (nf := nf) g1
  have hD : va_D (fun q => base ≤ q) (ps_cw dA (ps_ad base adk) nf h) := ps_D (by have := I.2.2.2.2.1; omega) (fun q z => z)
  refine W.last hx hbb (I.2.1 o _ he) ((hK.2 1 _ rfl).1 n (fun k => .long (f k))) (fun q => by cases q) (by show ¬ (j < 0 ∨ (arrV _ _ _).slots.size ≤ _); rw [arrV_size]; exact g2) rfl rfl hd fun H1 e1 z1 oq => ?_
  refine g3 H1 _ cells slots ls (ps_Iset I g1 (by rfl) ?_ ?_ z1)
  · rw [ps_cw_set]
    refine I.2.1.set hD he ?_ oq
    show H1[_]? = some (vp_cell _ _)
    rw [e1]
    dsimp only [ps_ca]
    rw [vp_cell_l, vp_cell_l, arrV_store]
    congr 2
    funext q
    by_cases hq : q = j.toNatClampNeg
    · subst hq
      simp [updV, vp_updL]
      
    · simp [updV, vp_updL, hq]
  · exact I.2.2.1.put z1 oq (hD.2 o _ he)
end PSW
