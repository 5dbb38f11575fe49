/-! RENAMED: a run that makes nothing, over few cells, is a run over a heap that holds them elsewhere -/
def rn_v (ad : Nat → Nat) : Value → Value
  | .ref a => .ref (ad a)
  | v => v
def rn_l (ad : Nat → Nat) (q : Nat × Value) : Nat × Value := (q.1, rn_v ad q.2)
def rn_e (ad : Nat → Nat) : va_E → va_E
  | .inl x => .inl (x.1, ps_ca ad x.2)
  | .inr x => .inr (x.1, x.2.map (rn_v ad))
/-- references to what is there -/
def rn_ok (L : Nat → Prop) (v : Value) : Prop := ∀ a, v = .ref a → a < 1000000 → L a
def rn_ad (ad : Nat → Nat) (L : Nat → Prop) : Prop := (∀ k, 1000000 ≤ k → ad k = k) ∧ ∀ j k, L j → L k → ad j = ad k → j = k
def rn_R (ad : Nat → Nat) (L : Nat → Prop) (h H : pm_H) : Prop := ∀ k c, L k → h[k]? = some c → H[ad k]? = some (rn_e ad c)
/-- what a cell refers to -/
def rn_rf : va_E → Nat → Prop
  | .inr x => fun a => .ref a ∈ x.2
  | .inl (_, (_, .inr (.inr (.inr (.inr f))))) => fun a => ∃ j, f j = some a
  | _ => fun _ => False
def rn_cl (L : Nat → Prop) (h : pm_H) : Prop := ∀ k c, L k → h[k]? = some c → ∀ a, rn_rf c a → a < 1000000 → L a
def rn_T (ad : Nat → Nat) (L : Nat → Prop) (H H2 : pm_H) : Prop := (∀ a, (∀ k, L k → ad k ≠ a) → H2[a]? = H[a]?) ∧ H2.length = H.length ∧ pm_sl H2 = pm_sl H
theorem rn_T.rf (ad : Nat → Nat) (L : Nat → Prop) (H : pm_H) : rn_T ad L H H := ⟨fun _ _ => rfl, rfl, rfl⟩
theorem rn_T.tr {ad : Nat → Nat} {L : Nat → Prop} {H H2 H3 : pm_H} (h : rn_T ad L H H2) (g : rn_T ad L H2 H3) : rn_T ad L H H3 := ⟨fun a q => (g.1 a q).trans (h.1 a q), g.2.1.trans h.2.1, g.2.2.trans h.2.2⟩
def rn_O (ad : Nat → Nat) (L : Nat → Prop) (H h1 H1 : pm_H) (r : Option Value) : Prop := rn_R ad L h1 H1 ∧ rn_cl L h1 ∧ (∀ v, r = some v → rn_ok L v) ∧ rn_T ad L H H1 ∧ h1.length ≤ 1000000
def rn_F (kp : pm_K) (md : pm_M) (C : pm_C) (ad : Nat → Nat) (L : Nat → Prop) (r : Option Value) (h1 : pm_H) : pm_P := fun pc lv st h =>
  h.length ≤ 1000000 → (∀ q ∈ lv, rn_ok L q.2) → (∀ v ∈ st, rn_ok L v) → rn_cl L h → ∀ H, rn_R ad L h H → ∃ H1, rn_O ad L H h1 H1 r ∧ pm_W kp md C H1.length (pm_sl H1) (fun r2 h2 => r2 = r.map (rn_v ad) ∧ h2 = H1) pc (lv.map (rn_l ad)) (st.map (rn_v ad)) H
def rn_C (C : pm_C) : Prop := ∀ k as h r h1, C k as h r h1 → pm_mal k = false → ∀ ad L, rn_ad ad L → h.length ≤ 1000000 → (∀ v ∈ as, rn_ok L v) → rn_cl L h → ∀ H, rn_R ad L h H → ∃ H1, rn_O ad L H h1 H1 r ∧ C k (as.map (rn_v ad)) H (r.map (rn_v ad)) H1
theorem rn_cat (ad : Nat → Nat) (v : Value) : (rn_v ad v).category = v.category := by cases v <;> rfl
theorem rn_cats (ad : Nat → Nat) (st : List Value) : pm_cat (st.map (rn_v ad)) = pm_cat st := by
  induction st with
  | nil => rfl
  | cons v r ih => simp only [List.map_cons, pm_cat, rn_cat, ih]
theorem rn_asz (ad : Nat → Nat) (st : List Value) : pm_asz (st.map (rn_v ad)) = pm_asz st := by
  induction st with
  | nil => rfl
  | cons v r ih => simp only [List.map_cons, pm_asz, rn_cat, ih]
theorem rn_args (ad : Nat → Nat) : ∀ (as : List Value) (n : Nat), lv_args n (as.map (rn_v ad)) = (lv_args n as).map (rn_l ad)
  | [], n => rfl
  | v :: r, n => by simp only [lv_args, List.map_cons, rn_args ad r, rn_cat, rn_l]
theorem rn_flt (ad : Nat → Nat) (p : Nat × Value → Bool) (hp : ∀ q, p (rn_l ad q) = p q) (lv : pm_L) : (lv.map (rn_l ad)).filter p = (lv.filter p).map (rn_l ad) := by
  rw [List.filter_map]
  congr 1
  apply List.filter_congr
  intro q _
  exact hp q
theorem rn_sto {ad : Nat → Nat} {k : Nat} {v : Value} {lv lv1 : pm_L} (g : pm_sto k v lv = some lv1) : pm_sto k (rn_v ad v) (lv.map (rn_l ad)) = some (lv1.map (rn_l ad)) ∧ ∀ q ∈ lv1, q = (k, v) ∨ q ∈ lv := by
  have h1 : ∀ q, pm_k1 k (rn_l ad q) = pm_k1 k q := fun q => by simp only [pm_k1, rn_l, rn_cat]
  have h2 : ∀ q, pm_k2 k (rn_l ad q) = pm_k2 k q := fun q => by simp only [pm_k2, rn_l, rn_cat]
  unfold pm_sto at g
  split at g
  · rw [ps_flt_eq] at g
    cases g
    refine ⟨?_, fun q hq => (List.mem_cons.mp hq).imp id (fun z => (List.mem_filter.mp z).1)⟩
    show pm_flt _ _ _ = _
    rw [ps_flt_eq, rn_flt ad _ h2]
    rfl
  · rw [ps_flt_eq] at g
    cases g
    refine ⟨?_, fun q hq => (List.mem_cons.mp hq).imp id (fun z => (List.mem_filter.mp z).1)⟩
    show pm_flt _ _ _ = _
    rw [ps_flt_eq, rn_flt ad _ h1]
    rfl
  · rw [ps_flt_eq] at g
    cases g
    refine ⟨?_, fun q hq => (List.mem_cons.mp hq).imp id (fun z => (List.mem_filter.mp z).1)⟩
    show pm_flt _ _ _ = _
    rw [ps_flt_eq, rn_flt ad _ h1]
    rfl
  · cases g
theorem rn_pck (ad : Nat → Nat) (l : pm_L) : ∀ (ks : List Nat) (c : pm_L → Option pm_L) (c2 : pm_L → Option pm_L), (∀ t, c2 (t.map (rn_l ad)) = (c t).map (List.map (rn_l ad))) → pm_pck (l.map (rn_l ad)) ks c2 = (pm_pck l ks c).map (List.map (rn_l ad))
  | [], c, c2, h => h []
  | k :: ks, c, c2, h => by
    unfold pm_pck
    rw [List.getElem?_map]
    cases hk : l[k]? with
    | none => rfl
    | some q => exact rn_pck ad l ks _ _ (fun t => h (q :: t))
theorem rn_spl (ad : Nat → Nat) : ∀ (n : Nat) (st acc : List Value), pm_spl n (st.map (rn_v ad)) (acc.map (rn_v ad)) = (pm_spl n st acc).map (fun x => (x.1.map (rn_v ad), x.2.map (rn_v ad)))
  | 0, st, acc => rfl
  | n + 1, [], acc => rfl
  | n + 1, v :: st, acc => rn_spl ad n st (v :: acc)
theorem rn_splm {n : Nat} {st as rest : List Value} (g : pm_spl n st [] = some (as, rest)) : (∀ v ∈ as, v ∈ st) ∧ ∀ v ∈ rest, v ∈ st := by
  obtain ⟨t, e1, e2, -⟩ := ps_spl_eq _ _ _ _ _ g
  rw [List.append_nil] at e1
  subst e1
  rw [e2]
  exact ⟨fun v hv => List.mem_append_left _ (List.mem_reverse.mpr hv), fun v hv => List.mem_append_right _ hv⟩
theorem rn_num {L : Nat → Prop} {v : Value} (h : ∀ a, v ≠ .ref a) : rn_ok L v := fun a q _ => absurd q (h a)
theorem rn_kl {kp : pm_K} {o : Nat} {x : Nat × vp_A} (g : pm_kar kp o = some x) : 1000000 ≤ o := by
  have h := ps_lk _ _ _ g
  simp only [pm_kt, List.mem_cons, List.not_mem_nil, or_false] at h
  rcases h with h | h | h | h | h | h | h | h | h | h | h | h | h <;> (cases h; omega)
theorem rn_up (ad : Nat → Nat) (f : Nat → Option Nat) (j r : Nat) : (fun k => (va_up f j (some r) k).map ad) = va_up (fun k => (f k).map ad) j (some (ad r)) := by
  funext k
  unfold va_up
  by_cases h : k = j
  · rw [if_pos h, if_pos h]; rfl
  · rw [if_neg h, if_neg h]
theorem rn_set {ad : Nat → Nat} {L : Nat → Prop} {h H : pm_H} (hA : rn_ad ad L) (hR : rn_R ad L h H) {o : Nat} (ho : L o) {c0 c : va_E} (g : h[o]? = some c0) (e : pm_sz c = pm_sz c0) : rn_R ad L (h.set o c) (H.set (ad o) (rn_e ad c)) ∧ rn_T ad L H (H.set (ad o) (rn_e ad c)) := by
  have hz : ∀ x : va_E, pm_sz (rn_e ad x) = pm_sz x := fun x => by
    obtain ⟨t, n, f | f | f | f | f⟩ | x := x
    · rfl
    · rfl
    · rfl
    · rfl
    · rfl
    · show (x.2.map _).length = _; rw [List.length_map]; rfl
  have hH := hR o c0 ho g
  refine ⟨fun k c2 hk gk => ?_, fun a ha => ?_, List.length_set, ?_⟩
  · by_cases q : k = o
    · subst q
      have hl := (List.getElem?_eq_some_iff.mp g).1
      rw [List.getElem?_set_self hl] at gk
      cases gk
      exact List.getElem?_set_self (List.getElem?_eq_some_iff.mp hH).1
    · rw [List.getElem?_set_ne (Ne.symm q)] at gk
      rw [List.getElem?_set_ne (fun z => q (hA.2 k o hk ho z.symm))]
      exact hR k c2 hk gk
  · exact List.getElem?_set_ne (ha o ho)
  · exact ps_sl_set hH (by rw [hz, hz, e])
theorem rn_cls {L : Nat → Prop} {h : pm_H} (hcl : rn_cl L h) {o : Nat} {c : va_E} (hc : ∀ a, rn_rf c a → a < 1000000 → L a) : rn_cl L (h.set o c) := fun k c2 hk gk => by
  by_cases q : k = o
  · subst q
    have hl : k < h.length := by
      have := (List.getElem?_eq_some_iff.mp gk).1
      rw [List.length_set] at this
      exact this
    rw [List.getElem?_set_self hl] at gk
    cases gk
    exact hc
  · rw [List.getElem?_set_ne (Ne.symm q)] at gk
    exact hcl k c2 hk gk
theorem rn_lo {h : pm_H} {o : Nat} {c : va_E} (hl : h.length ≤ 1000000) (g : h[o]? = some c) : o < 1000000 := by
  have := (List.getElem?_eq_some_iff.mp g).1
  omega
section REN
variable {kp : pm_K} {md : pm_M} {d : Nat} {hb sb : Nat} {ad : Nat → Nat} {L : Nat → Prop} {r0 : Option Value} {h1 : pm_H}
theorem rn_setc : ∀ (fs : List Value) (k : Nat) (v : Value) (c : List Value → Option (List Value)), k < fs.length → pm_setc fs k v c = c (fs.set k v)
  | [], k, v, c, h => absurd h (Nat.not_lt_zero _)
  | q :: r, 0, v, c, h => rfl
  | q :: r, k + 1, v, c, h => rn_setc r k v (fun t => c (q :: t)) (Nat.lt_of_succ_lt_succ h)
theorem rr_cst (hal : pm_al md = false) (hA : rn_ad ad L) (hC : rn_C (pm_X kp d)) : pr_cst kp md (pm_X kp d) hb sb (fun r2 h2 => r2 = r0 ∧ h2 = h1) (rn_F kp md (pm_X kp d) ad L r0 h1) := by
  intro pc nx a b lv st h i v g0 g1 g2 hl hlv hst hcl H hR
  have e : (∀ a, v ≠ .ref a) ∧ rn_v ad v = v := by
    unfold pm_cst at g1
    split at g1 <;> first | (cases g1; exact ⟨fun a q => (by cases q), rfl⟩) | cases g1
  obtain ⟨H1, hO, w⟩ := g2 hl hlv (fun u hu => (List.mem_cons.mp hu).elim (fun q => q ▸ rn_num e.1) (fun hu => hst u hu)) hcl H hR
  rw [List.map_cons, e.2] at w
  exact ⟨H1, hO, pq_cst g0 g1 w⟩
theorem rr_ldc (hal : pm_al md = false) (hA : rn_ad ad L) (hC : rn_C (pm_X kp d)) : pr_ldc kp md (pm_X kp d) hb sb (fun r2 h2 => r2 = r0 ∧ h2 = h1) (rn_F kp md (pm_X kp d) ad L r0 h1) := by
  intro pc nx a b lv st h i v g0 g1 g2 g3 hl hlv hst hcl H hR
  have hall : pt_ldc.all (fun v => match v with
      | .ref a => Nat.ble 1000000 a
      | _ => true) = true := by decide +kernel
  have hv := List.all_eq_true.mp hall v (List.mem_of_getElem? g2)
  have e : rn_ok L v ∧ rn_v ad v = v := by
    cases v with
    | ref a =>
      have ha : 1000000 ≤ a := Nat.le_of_ble_eq_true hv
      exact ⟨fun b q z => (by cases q; exact absurd z (Nat.not_lt.mpr ha)), by show Value.ref _ = _; rw [hA.1 a ha]⟩
    | _ => exact ⟨rn_num (fun a q => by cases q), rfl⟩
  obtain ⟨H1, hO, w⟩ := g3 hl hlv (fun u hu => (List.mem_cons.mp hu).elim (fun q => q ▸ e.1) (fun hu => hst u hu)) hcl H hR
  rw [List.map_cons, e.2] at w
  exact ⟨H1, hO, pq_ldc g0 g1 g2 w⟩
theorem rr_ld (hal : pm_al md = false) (hA : rn_ad ad L) (hC : rn_C (pm_X kp d)) : pr_ld kp md (pm_X kp d) hb sb (fun r2 h2 => r2 = r0 ∧ h2 = h1) (rn_F kp md (pm_X kp d) ad L r0 h1) := by
  intro pc nx a b lv st h i v k j g0 g1 g2 g3 hl hlv hst hcl H hR
  have e : pm_ld i (rn_v ad v) = some k := by
    unfold pm_ld at g1
    split at g1 <;> first | (cases g1; rfl) | cases g1
  have hv : rn_ok L v := hlv _ (List.mem_of_getElem? g2)
  obtain ⟨H1, hO, w⟩ := g3 hl hlv (fun u hu => (List.mem_cons.mp hu).elim (fun q => q ▸ hv) (fun hu => hst u hu)) hcl H hR
  exact ⟨H1, hO, pq_ld j g0 e (by rw [List.getElem?_map, g2]; rfl) w⟩
theorem rr_sto (hal : pm_al md = false) (hA : rn_ad ad L) (hC : rn_C (pm_X kp d)) : pr_sto kp md (pm_X kp d) hb sb (fun r2 h2 => r2 = r0 ∧ h2 = h1) (rn_F kp md (pm_X kp d) ad L r0 h1) := by
  intro pc nx a b lv st h i v k lv1 g0 g1 g2 g3 hl hlv hst hcl H hR
  have e : pm_st i (rn_v ad v) = some k := by
    unfold pm_st at g1
    split at g1 <;> first | (cases g1; rfl) | cases g1
  obtain ⟨e1, e2⟩ := rn_sto (ad := ad) g2
  obtain ⟨H1, hO, w⟩ := g3 hl (fun q hq => (e2 q hq).elim (fun z => z ▸ hst v List.mem_cons_self) (hlv q)) (fun u hu => hst u (List.mem_cons_of_mem _ hu)) hcl H hR
  exact ⟨H1, hO, pq_sto g0 e e1 w⟩
theorem rr_bop (hal : pm_al md = false) (hA : rn_ad ad L) (hC : rn_C (pm_X kp d)) : pr_bop kp md (pm_X kp d) hb sb (fun r2 h2 => r2 = r0 ∧ h2 = h1) (rn_F kp md (pm_X kp d) ad L r0 h1) := by
  intro pc nx a b lv st h i v x y g0 g1 g2 hl hlv hst hcl H hR
  have e : pm_bop i (rn_v ad y) (rn_v ad x) = some (rn_v ad v) ∧ ∀ a, v ≠ .ref a := by
    unfold pm_bop at g1
    split at g1 <;> first | (cases g1; exact ⟨rfl, fun a q => by cases q⟩) | cases g1
  obtain ⟨H1, hO, w⟩ := g2 hl hlv (fun u hu => (List.mem_cons.mp hu).elim (fun q => q ▸ rn_num e.2) (fun hu => hst u (List.mem_cons_of_mem _ (List.mem_cons_of_mem _ hu)))) hcl H hR
  exact ⟨H1, hO, pq_bop g0 e.1 w⟩
theorem rr_dop (hal : pm_al md = false) (hA : rn_ad ad L) (hC : rn_C (pm_X kp d)) : pr_dop kp md (pm_X kp d) hb sb (fun r2 h2 => r2 = r0 ∧ h2 = h1) (rn_F kp md (pm_X kp d) ad L r0 h1) := by
  intro pc nx a b lv st h i v x y c g0 g1 g2 g3 hl hlv hst hcl H hR
  have e : pm_dop i (rn_v ad y) (rn_v ad x) = some (rn_v ad v, c) ∧ ∀ a, v ≠ .ref a := by
    unfold pm_dop at g1
    split at g1 <;> first | (cases g1; exact ⟨rfl, fun a q => by cases q⟩) | cases g1
  obtain ⟨H1, hO, w⟩ := g3 hl hlv (fun u hu => (List.mem_cons.mp hu).elim (fun q => q ▸ rn_num e.2) (fun hu => hst u (List.mem_cons_of_mem _ (List.mem_cons_of_mem _ hu)))) hcl H hR
  exact ⟨H1, hO, pq_dop g0 e.1 g2 w⟩
theorem rr_uop (hal : pm_al md = false) (hA : rn_ad ad L) (hC : rn_C (pm_X kp d)) : pr_uop kp md (pm_X kp d) hb sb (fun r2 h2 => r2 = r0 ∧ h2 = h1) (rn_F kp md (pm_X kp d) ad L r0 h1) := by
  intro pc nx a b lv st h i v x g0 g1 g2 hl hlv hst hcl H hR
  have e : pm_uop i (rn_v ad x) = some (rn_v ad v) ∧ ∀ a, v ≠ .ref a := by
    unfold pm_uop at g1
    split at g1 <;> first | (cases g1; exact ⟨rfl, fun a q => by cases q⟩) | cases g1
  obtain ⟨H1, hO, w⟩ := g2 hl hlv (fun u hu => (List.mem_cons.mp hu).elim (fun q => q ▸ rn_num e.2) (fun hu => hst u (List.mem_cons_of_mem _ hu))) hcl H hR
  exact ⟨H1, hO, pq_uop g0 e.1 w⟩
theorem rr_sop (hal : pm_al md = false) (hA : rn_ad ad L) (hC : rn_C (pm_X kp d)) : pr_sop kp md (pm_X kp d) hb sb (fun r2 h2 => r2 = r0 ∧ h2 = h1) (rn_F kp md (pm_X kp d) ad L r0 h1) := by
  intro pc nx a b lv st h i st1 g0 g1 g2 hl hlv hst hcl H hR
  have e : pm_sop i (st.map (rn_v ad)) = some (st1.map (rn_v ad)) ∧ ∀ v ∈ st1, v ∈ st := by
    unfold pm_sop at g1
    split at g1
    · rename_i x r
      cases hc : Nat.beq x.category 1 with
      | false => rw [hc] at g1; cases g1
      | true =>
        rw [hc] at g1; cases g1
        refine ⟨by show (bif Nat.beq (rn_v ad x).category 1 then _ else _) = _; rw [rn_cat, hc]; rfl, fun v hv => ?_⟩
        simp only [List.mem_cons] at hv ⊢
        rcases hv with z | z | z <;> simp [z]
    · rename_i x r
      cases hc : Nat.beq x.category 1 with
      | false => rw [hc] at g1; cases g1
      | true =>
        rw [hc] at g1; cases g1
        exact ⟨by show (bif Nat.beq (rn_v ad x).category 1 then _ else _) = _; rw [rn_cat, hc]; rfl, fun v hv => List.mem_cons_of_mem _ hv⟩
    · rename_i x y r
      cases hc : (Nat.beq x.category 1 && Nat.beq y.category 1) with
      | false => rw [hc] at g1; cases g1
      | true =>
        rw [hc] at g1; cases g1
        refine ⟨by show (bif (Nat.beq (rn_v ad x).category 1 && Nat.beq (rn_v ad y).category 1) then _ else _) = _; rw [rn_cat, rn_cat, hc]; rfl, fun v hv => ?_⟩
        simp only [List.mem_cons] at hv ⊢
        rcases hv with z | z | z | z <;> simp [z]
    · rename_i x r
      cases hc : Nat.beq x.category 2 with
      | true =>
        rw [hc] at g1; cases g1
        refine ⟨by show (bif Nat.beq (rn_v ad x).category 2 then _ else _) = _; rw [rn_cat, hc]; rfl, fun v hv => ?_⟩
        simp only [List.mem_cons] at hv ⊢
        rcases hv with z | z | z <;> simp [z]
      | false =>
        rw [hc] at g1
        cases r with
        | nil => cases g1
        | cons y r =>
          dsimp only [cond_false] at g1
          cases hd : (Nat.beq x.category 1 && Nat.beq y.category 1) with
          | false => rw [hd] at g1; cases g1
          | true =>
            rw [hd] at g1; cases g1
            refine ⟨by show (bif Nat.beq (rn_v ad x).category 2 then _ else (bif (Nat.beq (rn_v ad x).category 1 && Nat.beq (rn_v ad y).category 1) then _ else _)) = _; rw [rn_cat, rn_cat, hc, hd]; rfl, fun v hv => ?_⟩
            simp only [List.mem_cons] at hv ⊢
            rcases hv with z | z | z | z | z <;> simp [z]
    · cases g1
  obtain ⟨H1, hO, w⟩ := g2 hl hlv (fun v hv => hst v (e.2 v hv)) hcl H hR
  exact ⟨H1, hO, pq_sop g0 e.1 w⟩
theorem rr_inc (hal : pm_al md = false) (hA : rn_ad ad L) (hC : rn_C (pm_X kp d)) : pr_inc kp md (pm_X kp d) hb sb (fun r2 h2 => r2 = r0 ∧ h2 = h1) (rn_F kp md (pm_X kp d) ad L r0 h1) := by
  intro pc nx a b lv st h k n x lv1 j g0 g1 g2 g3 hl hlv hst hcl H hR
  obtain ⟨e1, e2⟩ := rn_sto (ad := ad) g2
  obtain ⟨H1, hO, w⟩ := g3 hl (fun q hq => (e2 q hq).elim (fun z => z ▸ rn_num (fun a q => by cases q)) (hlv q)) hst hcl H hR
  exact ⟨H1, hO, pq_inc j g0 (by rw [List.getElem?_map, g1]; rfl) e1 w⟩
theorem rr_goto (hal : pm_al md = false) (hA : rn_ad ad L) (hC : rn_C (pm_X kp d)) : pr_goto kp md (pm_X kp d) hb sb (fun r2 h2 => r2 = r0 ∧ h2 = h1) (rn_F kp md (pm_X kp d) ad L r0 h1) := by
  intro pc nx a b lv st h n g0 g1 hl hlv hst hcl H hR
  obtain ⟨H1, hO, w⟩ := g1 hl hlv hst hcl H hR
  exact ⟨H1, hO, pq_goto g0 w⟩
theorem rr_ifc (hal : pm_al md = false) (hA : rn_ad ad L) (hC : rn_C (pm_X kp d)) : pr_ifc kp md (pm_X kp d) hb sb (fun r2 h2 => r2 = r0 ∧ h2 = h1) (rn_F kp md (pm_X kp d) ad L r0 h1) := by
  intro pc nx a b lv st h c n x g0 g1 g2 hl hlv hst hcl H hR
  by_cases q : pm_cnd c x 0
  · obtain ⟨H1, hO, w⟩ := g1 q hl hlv (fun v hv => hst v (List.mem_cons_of_mem _ hv)) hcl H hR
    exact ⟨H1, hO, pq_ifc g0 (fun _ => w) (fun z => absurd q z)⟩
  · obtain ⟨H1, hO, w⟩ := g2 q hl hlv (fun v hv => hst v (List.mem_cons_of_mem _ hv)) hcl H hR
    exact ⟨H1, hO, pq_ifc g0 (fun z => absurd z q) (fun _ => w)⟩
theorem rr_icm (hal : pm_al md = false) (hA : rn_ad ad L) (hC : rn_C (pm_X kp d)) : pr_icm kp md (pm_X kp d) hb sb (fun r2 h2 => r2 = r0 ∧ h2 = h1) (rn_F kp md (pm_X kp d) ad L r0 h1) := by
  intro pc nx a b lv st h c n x y g0 g1 g2 hl hlv hst hcl H hR
  by_cases q : pm_cnd c x y
  · obtain ⟨H1, hO, w⟩ := g1 q hl hlv (fun v hv => hst v (List.mem_cons_of_mem _ (List.mem_cons_of_mem _ hv))) hcl H hR
    exact ⟨H1, hO, pq_icm g0 (fun _ => w) (fun z => absurd q z)⟩
  · obtain ⟨H1, hO, w⟩ := g2 q hl hlv (fun v hv => hst v (List.mem_cons_of_mem _ (List.mem_cons_of_mem _ hv))) hcl H hR
    exact ⟨H1, hO, pq_icm g0 (fun z => absurd z q) (fun _ => w)⟩
theorem rr_tso (hal : pm_al md = false) (hA : rn_ad ad L) (hC : rn_C (pm_X kp d)) : pr_tso kp md (pm_X kp d) hb sb (fun r2 h2 => r2 = r0 ∧ h2 = h1) (rn_F kp md (pm_X kp d) ad L r0 h1) := by
  intro pc nx a b lv st h d lo hi os x t g0 g1 g2 g3 hl hlv hst hcl H hR
  obtain ⟨H1, hO, w⟩ := g3 hl (hlv) (fun v hv => hst v (List.mem_cons_of_mem _ hv)) hcl H hR
  exact ⟨H1, hO, pq_tso g0 g1 g2 w⟩
theorem rr_tsi (hal : pm_al md = false) (hA : rn_ad ad L) (hC : rn_C (pm_X kp d)) : pr_tsi kp md (pm_X kp d) hb sb (fun r2 h2 => r2 = r0 ∧ h2 = h1) (rn_F kp md (pm_X kp d) ad L r0 h1) := by
  intro pc nx a b lv st h d lo hi off os x t g0 g1 g2 g3 g4 g5 hl hlv hst hcl H hR
  obtain ⟨H1, hO, w⟩ := g5 hl (hlv) (fun v hv => hst v (List.mem_cons_of_mem _ hv)) hcl H hR
  exact ⟨H1, hO, pq_tsi g0 g1 g2 g3 g4 w⟩
theorem rr_lsw (hal : pm_al md = false) (hA : rn_ad ad L) (hC : rn_C (pm_X kp d)) : pr_lsw kp md (pm_X kp d) hb sb (fun r2 h2 => r2 = r0 ∧ h2 = h1) (rn_F kp md (pm_X kp d) ad L r0 h1) := by
  intro pc nx a b lv st h d ps x t g0 g1 g2 g3 hl hlv hst hcl H hR
  obtain ⟨H1, hO, w⟩ := g3 hl (hlv) (fun v hv => hst v (List.mem_cons_of_mem _ hv)) hcl H hR
  exact ⟨H1, hO, pq_lsw g0 g1 g2 w⟩
theorem rr_get (hal : pm_al md = false) (hA : rn_ad ad L) (hC : rn_C (pm_X kp d)) : pr_get kp md (pm_X kp d) hb sb (fun r2 h2 => r2 = r0 ∧ h2 = h1) (rn_F kp md (pm_X kp d) ad L r0 h1) := by
  intro pc nx a b lv st h n o fs v g0 g1 g2 g3 hl hlv hst hcl H hR
  have ho : L o := hst _ List.mem_cons_self o rfl (rn_lo hl g1)
  have hv : rn_ok L v := fun x q z => hcl o _ ho g1 x (by subst q; exact List.mem_of_getElem? g2) z
  obtain ⟨H1, hO, w⟩ := g3 hl hlv (fun u hu => (List.mem_cons.mp hu).elim (fun q => q ▸ hv) (fun hv => hst u (List.mem_cons_of_mem _ hv))) hcl H hR
  exact ⟨H1, hO, pq_get g0 (hR o _ ho g1) (by rw [List.getElem?_map, g2]; rfl) w⟩
theorem rr_gek (hal : pm_al md = false) (hA : rn_ad ad L) (hC : rn_C (pm_X kp d)) : pr_gek kp md (pm_X kp d) hb sb (fun r2 h2 => r2 = r0 ∧ h2 = h1) (rn_F kp md (pm_X kp d) ad L r0 h1) := by
  intro pc nx a b lv st h n o v g0 g1 g2 g3 hl hlv hst hcl H hR
  have hbig : 1000010 ≤ o ∧ rn_ok L v ∧ rn_v ad v = v := by
    unfold pm_kfl at g2
    cases hc : (Nat.ble 1000010 o && Nat.ble o 1000018) with
    | false => rw [hc] at g2; cases g2
    | true =>
      rw [hc] at g2
      have ho := Nat.le_of_ble_eq_true (Bool.and_eq_true_iff.mp hc).1
      dsimp only [cond_true] at g2
      split at g2
      · cases g2
        exact ⟨ho, fun a q z => (by cases q; exact absurd (show (_ : Nat) < 1000000 from z) (by omega)), by show Value.ref _ = _; rw [hA.1 _ (by omega)]⟩
      · cases g2
        exact ⟨ho, rn_num (fun a q => by cases q), rfl⟩
      · cases g2
  obtain ⟨H1, hO, w⟩ := g3 hl hlv (fun v hv => (List.mem_cons.mp hv).elim (fun q => q ▸ hbig.2.1) (fun hv => hst v (List.mem_cons_of_mem _ hv))) hcl H hR
  rw [List.map_cons, hbig.2.2] at w
  refine ⟨H1, hO, ?_⟩
  rw [List.map_cons, show rn_v ad (.ref o) = .ref o by show Value.ref _ = _; rw [hA.1 _ (by omega)]]
  exact pq_gek g0 g1 g2 w
theorem rr_put (hal : pm_al md = false) (hA : rn_ad ad L) (hC : rn_C (pm_X kp d)) : pr_put kp md (pm_X kp d) hb sb (fun r2 h2 => r2 = r0 ∧ h2 = h1) (rn_F kp md (pm_X kp d) ad L r0 h1) := by
  intro pc nx a b lv st h n o fs fs1 v ty g0 g1 g2 g3 g4 g5 hl hlv hst hcl H hR
  have ho : L o := hst _ (List.mem_cons_of_mem _ List.mem_cons_self) o rfl (rn_lo hl g1)
  obtain ⟨hbl, rfl⟩ := ps_nra g4
  have e3 : pm_fit ty (rn_v ad v) := by
    cases v with
    | ref x => exact ⟨by cases ty <;> first | rfl | (have := g3.2; cases this), by have := g3.2; cases ty <;> first | rfl | cases this⟩
    | _ => exact g3
  have e4 : pm_set (fs.map (rn_v ad)) b (rn_v ad v) = some ((fs.set b v).map (rn_v ad)) := by
    unfold pm_set
    rw [rn_setc _ _ _ _ (by rw [List.length_map]; exact hbl), List.map_set]
  obtain ⟨s1, s2⟩ := rn_set (c := .inr (a, fs.set b v)) hA hR ho g1 (by show (fs.set b v).length = _; rw [List.length_set]; rfl)
  obtain ⟨H1, hO, w⟩ := g5 (by rw [List.length_set]; exact hl) hlv (fun v hv => hst v (List.mem_cons_of_mem _ (List.mem_cons_of_mem _ hv))) (rn_cls hcl (fun x hx z => by
    rcases List.mem_or_eq_of_mem_set hx with q | q
    · exact hcl o _ ho g1 x q z
    · exact hst v List.mem_cons_self x q.symm z)) _ s1
  exact ⟨H1, ⟨hO.1, hO.2.1, hO.2.2.1, s2.tr hO.2.2.2.1, hO.2.2.2.2⟩, pq_put g0 (hR o _ ho g1) g2 e3 e4 w⟩
theorem rr_puf (hal : pm_al md = false) (hA : rn_ad ad L) (hC : rn_C (pm_X kp d)) : pr_puf kp md (pm_X kp d) hb sb (fun r2 h2 => r2 = r0 ∧ h2 = h1) (rn_F kp md (pm_X kp d) ad L r0 h1) := by
  intro pc nx a b lv st h n o fs fs1 v ty g0 g1 g2 g3 g4 g5 g6 hl hlv hst hcl H hR
  have ho : L o := hst _ (List.mem_cons_of_mem _ List.mem_cons_self) o rfl (rn_lo hl g1)
  obtain ⟨hbl, rfl⟩ := ps_nra g5
  have e3 : pm_fit ty (rn_v ad v) := by
    cases v with
    | ref x => exact ⟨by cases ty <;> first | rfl | (have := g4.2; cases this), by have := g4.2; cases ty <;> first | rfl | cases this⟩
    | _ => exact g4
  have e4 : pm_set (fs.map (rn_v ad)) b (rn_v ad v) = some ((fs.set b v).map (rn_v ad)) := by
    unfold pm_set
    rw [rn_setc _ _ _ _ (by rw [List.length_map]; exact hbl), List.map_set]
  obtain ⟨s1, s2⟩ := rn_set (c := .inr (a, fs.set b v)) hA hR ho g1 (by show (fs.set b v).length = _; rw [List.length_set]; rfl)
  obtain ⟨H1, hO, w⟩ := g6 (by rw [List.length_set]; exact hl) hlv (fun v hv => hst v (List.mem_cons_of_mem _ (List.mem_cons_of_mem _ hv))) (rn_cls hcl (fun x hx z => by
    rcases List.mem_or_eq_of_mem_set hx with q | q
    · exact hcl o _ ho g1 x q z
    · exact hst v List.mem_cons_self x q.symm z)) _ s1
  exact ⟨H1, ⟨hO.1, hO.2.1, hO.2.2.1, s2.tr hO.2.2.2.1, hO.2.2.2.2⟩, pq_puf g0 (hR o _ ho g1) g2 g3 e3 e4 w⟩
theorem rr_ial (hal : pm_al md = false) (hA : rn_ad ad L) (hC : rn_C (pm_X kp d)) : pr_ial kp md (pm_X kp d) hb sb (fun r2 h2 => r2 = r0 ∧ h2 = h1) (rn_F kp md (pm_X kp d) ad L r0 h1) := by
  intro pc nx a b lv st h o n f j g0 g1 g2 g3 hl hlv hst hcl H hR
  have ho : L o := hst _ (List.mem_cons_of_mem _ List.mem_cons_self) o rfl (rn_lo hl g1)
  obtain ⟨H1, hO, w⟩ := g3 hl hlv (fun v hv => (List.mem_cons.mp hv).elim (fun q => q ▸ rn_num (fun a q => by cases q)) (fun hv => hst v (List.mem_cons_of_mem _ (List.mem_cons_of_mem _ hv)))) hcl H hR
  exact ⟨H1, hO, pq_ial g0 (hR o _ ho g1) g2 w⟩
theorem rr_bal (hal : pm_al md = false) (hA : rn_ad ad L) (hC : rn_C (pm_X kp d)) : pr_bal kp md (pm_X kp d) hb sb (fun r2 h2 => r2 = r0 ∧ h2 = h1) (rn_F kp md (pm_X kp d) ad L r0 h1) := by
  intro pc nx a b lv st h o n f j g0 g1 g2 g3 hl hlv hst hcl H hR
  have ho : L o := hst _ (List.mem_cons_of_mem _ List.mem_cons_self) o rfl (rn_lo hl g1)
  obtain ⟨H1, hO, w⟩ := g3 hl hlv (fun v hv => (List.mem_cons.mp hv).elim (fun q => q ▸ rn_num (fun a q => by cases q)) (fun hv => hst v (List.mem_cons_of_mem _ (List.mem_cons_of_mem _ hv)))) hcl H hR
  exact ⟨H1, hO, pq_bal g0 (hR o _ ho g1) g2 w⟩
theorem rr_zal (hal : pm_al md = false) (hA : rn_ad ad L) (hC : rn_C (pm_X kp d)) : pr_zal kp md (pm_X kp d) hb sb (fun r2 h2 => r2 = r0 ∧ h2 = h1) (rn_F kp md (pm_X kp d) ad L r0 h1) := by
  intro pc nx a b lv st h o n f j g0 g1 g2 g3 hl hlv hst hcl H hR
  have ho : L o := hst _ (List.mem_cons_of_mem _ List.mem_cons_self) o rfl (rn_lo hl g1)
  obtain ⟨H1, hO, w⟩ := g3 hl hlv (fun v hv => (List.mem_cons.mp hv).elim (fun q => q ▸ rn_num (fun a q => by cases q)) (fun hv => hst v (List.mem_cons_of_mem _ (List.mem_cons_of_mem _ hv)))) hcl H hR
  exact ⟨H1, hO, pq_zal g0 (hR o _ ho g1) g2 w⟩
theorem rr_lal (hal : pm_al md = false) (hA : rn_ad ad L) (hC : rn_C (pm_X kp d)) : pr_lal kp md (pm_X kp d) hb sb (fun r2 h2 => r2 = r0 ∧ h2 = h1) (rn_F kp md (pm_X kp d) ad L r0 h1) := by
  intro pc nx a b lv st h o n f j g0 g1 g2 g3 hl hlv hst hcl H hR
  have ho : L o := hst _ (List.mem_cons_of_mem _ List.mem_cons_self) o rfl (rn_lo hl g1)
  obtain ⟨H1, hO, w⟩ := g3 hl hlv (fun v hv => (List.mem_cons.mp hv).elim (fun q => q ▸ rn_num (fun a q => by cases q)) (fun hv => hst v (List.mem_cons_of_mem _ (List.mem_cons_of_mem _ hv)))) hcl H hR
  exact ⟨H1, hO, pq_lal g0 (hR o _ ho g1) g2 w⟩
theorem rr_aal (hal : pm_al md = false) (hA : rn_ad ad L) (hC : rn_C (pm_X kp d)) : pr_aal kp md (pm_X kp d) hb sb (fun r2 h2 => r2 = r0 ∧ h2 = h1) (rn_F kp md (pm_X kp d) ad L r0 h1) := by
  intro pc nx a b lv st h o n r f j t g0 g1 g2 g3 g4 g5 hl hlv hst hcl H hR
  have ho : L o := hst _ (List.mem_cons_of_mem _ List.mem_cons_self) o rfl (rn_lo hl g1)
  have hv : rn_ok L (.ref r) := fun x q z => by cases q; exact hcl o _ ho g1 _ ⟨_, g4⟩ z
  obtain ⟨H1, hO, w⟩ := g5 hl hlv (fun u hu => (List.mem_cons.mp hu).elim (fun q => q ▸ hv) (fun hv => hst u (List.mem_cons_of_mem _ (List.mem_cons_of_mem _ hv)))) hcl H hR
  exact ⟨H1, hO, pq_aal g0 (hR o _ ho g1) g2 g3 (by rw [g4]; rfl) w⟩
theorem rr_kil (hal : pm_al md = false) (hA : rn_ad ad L) (hC : rn_C (pm_X kp d)) : pr_kil kp md (pm_X kp d) hb sb (fun r2 h2 => r2 = r0 ∧ h2 = h1) (rn_F kp md (pm_X kp d) ad L r0 h1) := by
  intro pc nx a b lv st h o n f j g0 g1 g2 g3 hl hlv hst hcl H hR
  obtain ⟨H1, hO, w⟩ := g3 hl hlv (fun v hv => (List.mem_cons.mp hv).elim (fun q => q ▸ rn_num (fun a q => by cases q)) (fun hv => hst v (List.mem_cons_of_mem _ (List.mem_cons_of_mem _ hv)))) hcl H hR
  refine ⟨H1, hO, ?_⟩
  rw [List.map_cons, List.map_cons, show rn_v ad (.ref o) = .ref o by show Value.ref _ = _; rw [hA.1 _ (rn_kl g1)]]
  exact pq_kil g0 g1 g2 w
theorem rr_kbl (hal : pm_al md = false) (hA : rn_ad ad L) (hC : rn_C (pm_X kp d)) : pr_kbl kp md (pm_X kp d) hb sb (fun r2 h2 => r2 = r0 ∧ h2 = h1) (rn_F kp md (pm_X kp d) ad L r0 h1) := by
  intro pc nx a b lv st h o n f j g0 g1 g2 g3 hl hlv hst hcl H hR
  obtain ⟨H1, hO, w⟩ := g3 hl hlv (fun v hv => (List.mem_cons.mp hv).elim (fun q => q ▸ rn_num (fun a q => by cases q)) (fun hv => hst v (List.mem_cons_of_mem _ (List.mem_cons_of_mem _ hv)))) hcl H hR
  refine ⟨H1, hO, ?_⟩
  rw [List.map_cons, List.map_cons, show rn_v ad (.ref o) = .ref o by show Value.ref _ = _; rw [hA.1 _ (rn_kl g1)]]
  exact pq_kbl g0 g1 g2 w
theorem rr_kll (hal : pm_al md = false) (hA : rn_ad ad L) (hC : rn_C (pm_X kp d)) : pr_kll kp md (pm_X kp d) hb sb (fun r2 h2 => r2 = r0 ∧ h2 = h1) (rn_F kp md (pm_X kp d) ad L r0 h1) := by
  intro pc nx a b lv st h o n f j g0 g1 g2 g3 hl hlv hst hcl H hR
  obtain ⟨H1, hO, w⟩ := g3 hl hlv (fun v hv => (List.mem_cons.mp hv).elim (fun q => q ▸ rn_num (fun a q => by cases q)) (fun hv => hst v (List.mem_cons_of_mem _ (List.mem_cons_of_mem _ hv)))) hcl H hR
  refine ⟨H1, hO, ?_⟩
  rw [List.map_cons, List.map_cons, show rn_v ad (.ref o) = .ref o by show Value.ref _ = _; rw [hA.1 _ (rn_kl g1)]]
  exact pq_kll g0 g1 g2 w
theorem rr_kle (hal : pm_al md = false) (hA : rn_ad ad L) (hC : rn_C (pm_X kp d)) : pr_kle kp md (pm_X kp d) hb sb (fun r2 h2 => r2 = r0 ∧ h2 = h1) (rn_F kp md (pm_X kp d) ad L r0 h1) := by
  intro pc nx a b lv st h o n t x g0 g1 g2 hl hlv hst hcl H hR
  obtain ⟨H1, hO, w⟩ := g2 hl hlv (fun v hv => (List.mem_cons.mp hv).elim (fun q => q ▸ rn_num (fun a q => by cases q)) (fun hv => hst v (List.mem_cons_of_mem _ hv))) hcl H hR
  refine ⟨H1, hO, ?_⟩
  rw [List.map_cons, show rn_v ad (.ref o) = .ref o by show Value.ref _ = _; rw [hA.1 _ (rn_kl g1)]]
  exact pq_kle g0 g1 w
theorem rr_ias (hal : pm_al md = false) (hA : rn_ad ad L) (hC : rn_C (pm_X kp d)) : pr_ias kp md (pm_X kp d) hb sb (fun r2 h2 => r2 = r0 ∧ h2 = h1) (rn_F kp md (pm_X kp d) ad L r0 h1) := by
  intro pc nx a b lv st h o n f j x g0 g1 g2 g3 hl hlv hst hcl H hR
  have ho : L o := hst _ (List.mem_cons_of_mem _ (List.mem_cons_of_mem _ List.mem_cons_self)) o rfl (rn_lo hl g1)
  obtain ⟨s1, s2⟩ := rn_set (c := .inl (0, (n, .inl (upd f j.toNatClampNeg x)))) hA hR ho g1 rfl
  obtain ⟨H1, hO, w⟩ := g3 (by rw [List.length_set]; exact hl) hlv (fun v hv => hst v (List.mem_cons_of_mem _ (List.mem_cons_of_mem _ (List.mem_cons_of_mem _ hv)))) (rn_cls hcl (fun x hx z => False.elim hx)) _ s1
  exact ⟨H1, ⟨hO.1, hO.2.1, hO.2.2.1, s2.tr hO.2.2.2.1, hO.2.2.2.2⟩, pq_ias g0 (hR o _ ho g1) g2 w⟩
theorem rr_bas (hal : pm_al md = false) (hA : rn_ad ad L) (hC : rn_C (pm_X kp d)) : pr_bas kp md (pm_X kp d) hb sb (fun r2 h2 => r2 = r0 ∧ h2 = h1) (rn_F kp md (pm_X kp d) ad L r0 h1) := by
  intro pc nx a b lv st h o n f j x g0 g1 g2 g3 hl hlv hst hcl H hR
  have ho : L o := hst _ (List.mem_cons_of_mem _ (List.mem_cons_of_mem _ List.mem_cons_self)) o rfl (rn_lo hl g1)
  obtain ⟨s1, s2⟩ := rn_set (c := .inl (2, (n, .inl (upd f j.toNatClampNeg (vp_nar .byte x))))) hA hR ho g1 rfl
  obtain ⟨H1, hO, w⟩ := g3 (by rw [List.length_set]; exact hl) hlv (fun v hv => hst v (List.mem_cons_of_mem _ (List.mem_cons_of_mem _ (List.mem_cons_of_mem _ hv)))) (rn_cls hcl (fun x hx z => False.elim hx)) _ s1
  exact ⟨H1, ⟨hO.1, hO.2.1, hO.2.2.1, s2.tr hO.2.2.2.1, hO.2.2.2.2⟩, pq_bas g0 (hR o _ ho g1) g2 w⟩
theorem rr_zas (hal : pm_al md = false) (hA : rn_ad ad L) (hC : rn_C (pm_X kp d)) : pr_zas kp md (pm_X kp d) hb sb (fun r2 h2 => r2 = r0 ∧ h2 = h1) (rn_F kp md (pm_X kp d) ad L r0 h1) := by
  intro pc nx a b lv st h o n f j x g0 g1 g2 g3 hl hlv hst hcl H hR
  have ho : L o := hst _ (List.mem_cons_of_mem _ (List.mem_cons_of_mem _ List.mem_cons_self)) o rfl (rn_lo hl g1)
  obtain ⟨s1, s2⟩ := rn_set (c := .inl (3, (n, .inl (upd f j.toNatClampNeg (vp_nar .boolean x))))) hA hR ho g1 rfl
  obtain ⟨H1, hO, w⟩ := g3 (by rw [List.length_set]; exact hl) hlv (fun v hv => hst v (List.mem_cons_of_mem _ (List.mem_cons_of_mem _ (List.mem_cons_of_mem _ hv)))) (rn_cls hcl (fun x hx z => False.elim hx)) _ s1
  exact ⟨H1, ⟨hO.1, hO.2.1, hO.2.2.1, s2.tr hO.2.2.2.1, hO.2.2.2.2⟩, pq_zas g0 (hR o _ ho g1) g2 w⟩
theorem rr_las (hal : pm_al md = false) (hA : rn_ad ad L) (hC : rn_C (pm_X kp d)) : pr_las kp md (pm_X kp d) hb sb (fun r2 h2 => r2 = r0 ∧ h2 = h1) (rn_F kp md (pm_X kp d) ad L r0 h1) := by
  intro pc nx a b lv st h o n f j x g0 g1 g2 g3 hl hlv hst hcl H hR
  have ho : L o := hst _ (List.mem_cons_of_mem _ (List.mem_cons_of_mem _ List.mem_cons_self)) o rfl (rn_lo hl g1)
  obtain ⟨s1, s2⟩ := rn_set (c := .inl (1, (n, .inr (.inl (vp_updL f j.toNatClampNeg x))))) hA hR ho g1 rfl
  obtain ⟨H1, hO, w⟩ := g3 (by rw [List.length_set]; exact hl) hlv (fun v hv => hst v (List.mem_cons_of_mem _ (List.mem_cons_of_mem _ (List.mem_cons_of_mem _ hv)))) (rn_cls hcl (fun x hx z => False.elim hx)) _ s1
  exact ⟨H1, ⟨hO.1, hO.2.1, hO.2.2.1, s2.tr hO.2.2.2.1, hO.2.2.2.2⟩, pq_las g0 (hR o _ ho g1) g2 w⟩
theorem rr_aas (hal : pm_al md = false) (hA : rn_ad ad L) (hC : rn_C (pm_X kp d)) : pr_aas kp md (pm_X kp d) hb sb (fun r2 h2 => r2 = r0 ∧ h2 = h1) (rn_F kp md (pm_X kp d) ad L r0 h1) := by
  intro pc nx a b lv st h o n r f j fs g0 g1 g2 g3 g4 hl hlv hst hcl H hR
  have ho : L o := hst _ (List.mem_cons_of_mem _ (List.mem_cons_of_mem _ List.mem_cons_self)) o rfl (rn_lo hl g1)
  obtain ⟨s1, s2⟩ := rn_set (c := .inl (4, (n, .inr (.inr (.inr (.inr (va_up f j.toNatClampNeg (some r)))))))) hA hR ho g1 rfl
  obtain ⟨H1, hO, w⟩ := g4 (by rw [List.length_set]; exact hl) hlv (fun v hv => hst v (List.mem_cons_of_mem _ (List.mem_cons_of_mem _ (List.mem_cons_of_mem _ hv)))) (rn_cls hcl (fun x hx z => by
    obtain ⟨k, hk⟩ := hx
    unfold va_up at hk
    by_cases q : k = j.toNatClampNeg
    · rw [if_pos q] at hk
      cases hk
      exact hst _ List.mem_cons_self _ rfl z
    · rw [if_neg q] at hk
      exact hcl o _ ho g1 x ⟨k, hk⟩ z)) _ s1
  refine ⟨H1, ⟨hO.1, hO.2.1, hO.2.2.1, s2.tr hO.2.2.2.1, hO.2.2.2.2⟩, pq_aas g0 (hR o _ ho g1) g2 (hR r _ (hst _ List.mem_cons_self r rfl (rn_lo hl g3)) g3) ?_⟩
  rw [← rn_up]
  exact w
theorem rr_len (hal : pm_al md = false) (hA : rn_ad ad L) (hC : rn_C (pm_X kp d)) : pr_len kp md (pm_X kp d) hb sb (fun r2 h2 => r2 = r0 ∧ h2 = h1) (rn_F kp md (pm_X kp d) ad L r0 h1) := by
  intro pc nx a b lv st h o n t x g0 g1 g2 g3 hl hlv hst hcl H hR
  have ho : L o := hst _ List.mem_cons_self o rfl (rn_lo hl g1)
  obtain ⟨H1, hO, w⟩ := g3 hl hlv (fun v hv => (List.mem_cons.mp hv).elim (fun q => q ▸ rn_num (fun a q => by cases q)) (fun hv => hst v (List.mem_cons_of_mem _ hv))) hcl H hR
  refine ⟨H1, hO, ?_⟩
  have hH := hR o _ ho g1
  obtain f | f | f | f | f := x <;> exact pq_len g0 hH g2 w
theorem rr_new (hal : pm_al md = false) (hA : rn_ad ad L) (hC : rn_C (pm_X kp d)) : pr_new kp md (pm_X kp d) hb sb (fun r2 h2 => r2 = r0 ∧ h2 = h1) (rn_F kp md (pm_X kp d) ad L r0 h1) := by
  intro pc nx a b lv st h n fs g0 g1 g2 g3 g4 g5 g6 hl hlv hst hcl H hR
  rw [hal] at g1
  cases g1
theorem rr_nwa (hal : pm_al md = false) (hA : rn_ad ad L) (hC : rn_C (pm_X kp d)) : pr_nwa kp md (pm_X kp d) hb sb (fun r2 h2 => r2 = r0 ∧ h2 = h1) (rn_F kp md (pm_X kp d) ad L r0 h1) := by
  intro pc nx a b lv st h ty n N g0 g1 g2 g3 g4 g5 g6 g7 g8 hl hlv hst hcl H hR
  rw [hal] at g1
  cases g1
theorem rr_nwr (hal : pm_al md = false) (hA : rn_ad ad L) (hC : rn_C (pm_X kp d)) : pr_nwr kp md (pm_X kp d) hb sb (fun r2 h2 => r2 = r0 ∧ h2 = h1) (rn_F kp md (pm_X kp d) ad L r0 h1) := by
  intro pc nx a b lv st h i n N g0 g1 g2 g3 g4 g5 g6 g7 g8 g9 hl hlv hst hcl H hR
  rw [hal] at g2
  cases g2
theorem rr_nwm (hal : pm_al md = false) (hA : rn_ad ad L) (hC : rn_C (pm_X kp d)) : pr_nwm kp md (pm_X kp d) hb sb (fun r2 h2 => r2 = r0 ∧ h2 = h1) (rn_F kp md (pm_X kp d) ad L r0 h1) := by
  intro pc nx a b lv st h i n m N M g0 g1 g2 g3 g4 g5 g6 g7 g8 g9 g10 g11 g12 hl hlv hst hcl H hR
  rw [hal] at g2
  cases g2
theorem rr_cls (hal : pm_al md = false) (hA : rn_ad ad L) (hC : rn_C (pm_X kp d)) : pr_cls kp md (pm_X kp d) hb sb (fun r2 h2 => r2 = r0 ∧ h2 = h1) (rn_F kp md (pm_X kp d) ad L r0 h1) := by
  intro pc nx a b lv st h i n as rest rr hz g0 g1 g2 g3 g4 g5 g6 g7 hl hlv hst hcl H hR
  have hm : pm_mal a = false := by
    rcases g5 with z | z
    · exact z
    · rw [hal] at z; cases z.1
  obtain ⟨m1, m2⟩ := rn_splm g3
  have has : ∀ v ∈ as, rn_ok L v := fun v hv => hst v (m1 v hv)
  obtain ⟨H2, hO2, c2⟩ := hC _ _ _ _ _ g6 hm ad L hA hl has hcl H hR
  obtain ⟨H1, hO, w⟩ := g7 hO2.2.2.2.2 hlv (fun v hv => by
    cases rr with
    | none => exact hst v (m2 v hv)
    | some u => exact (List.mem_cons.mp hv).elim (fun q => q ▸ hO2.2.2.1 u rfl) (fun hv => hst v (m2 v hv))) hO2.2.1 H2 hO2.1
  have e1 := rn_spl ad b st []
  rw [g3] at e1
  have e2 : (pm_pu rr rest).map (rn_v ad) = pm_pu (rr.map (rn_v ad)) (rest.map (rn_v ad)) := by cases rr <;> rfl
  rw [e2] at w
  have ecat : pm_cat (rest.map (rn_v ad)) ≤ 8 := by rw [rn_cats]; exact g4
  exact ⟨H1, ⟨hO.1, hO.2.1, hO.2.2.1, hO2.2.2.2.1.tr hO.2.2.2.1, hO.2.2.2.2⟩, pq_cls g0 g1 g2 e1 ecat (Or.inl hm) c2 w⟩
theorem rr_clv (hal : pm_al md = false) (hA : rn_ad ad L) (hC : rn_C (pm_X kp d)) : pr_clv kp md (pm_X kp d) hb sb (fun r2 h2 => r2 = r0 ∧ h2 = h1) (rn_F kp md (pm_X kp d) ad L r0 h1) := by
  intro pc nx a b lv st h i n o ci as rest fs rr hz g0 g1 g2 g3 g4 g5 g6 g7 g8 hl hlv hst hcl H hR
  have hm : pm_mal a = false := by
    rcases g6 with z | z
    · exact z
    · rw [hal] at z; cases z.1
  obtain ⟨m1, m2⟩ := rn_splm g2
  have has : ∀ v ∈ Value.ref o :: as, rn_ok L v := fun v hv => hst v (m1 v hv)
  obtain ⟨H2, hO2, c2⟩ := hC _ _ _ _ _ g7 hm ad L hA hl has hcl H hR
  obtain ⟨H1, hO, w⟩ := g8 hO2.2.2.2.2 hlv (fun v hv => by
    cases rr with
    | none => exact hst v (m2 v hv)
    | some u => exact (List.mem_cons.mp hv).elim (fun q => q ▸ hO2.2.2.1 u rfl) (fun hv => hst v (m2 v hv))) hO2.2.1 H2 hO2.1
  have e1 := rn_spl ad b st []
  rw [g2] at e1
  have e2 : (pm_pu rr rest).map (rn_v ad) = pm_pu (rr.map (rn_v ad)) (rest.map (rn_v ad)) := by cases rr <;> rfl
  rw [e2] at w
  have ecat : pm_cat (rest.map (rn_v ad)) ≤ 8 := by rw [rn_cats]; exact g3
  have ho : L o := has _ List.mem_cons_self o rfl (rn_lo hl g4)
  exact ⟨H1, ⟨hO.1, hO.2.1, hO.2.2.1, hO2.2.2.2.1.tr hO.2.2.2.1, hO.2.2.2.2⟩, pq_clv g0 g1 e1 ecat (hR o _ ho g4) g5 (Or.inl hm) c2 w⟩
theorem rr_clk (hal : pm_al md = false) (hA : rn_ad ad L) (hC : rn_C (pm_X kp d)) : pr_clk kp md (pm_X kp d) hb sb (fun r2 h2 => r2 = r0 ∧ h2 = h1) (rn_F kp md (pm_X kp d) ad L r0 h1) := by
  intro pc nx a b lv st h n o as rest rr hz g0 g1 g2 g3 g4 g5 g6 g7 g8 g9 hl hlv hst hcl H hR
  have hm : pm_mal a = false := by
    exact g7
  obtain ⟨m1, m2⟩ := rn_splm g3
  have has : ∀ v ∈ Value.ref o :: as, rn_ok L v := fun v hv => hst v (m1 v hv)
  obtain ⟨H2, hO2, c2⟩ := hC _ _ _ _ _ g8 hm ad L hA hl has hcl H hR
  obtain ⟨H1, hO, w⟩ := g9 hO2.2.2.2.2 hlv (fun v hv => by
    cases rr with
    | none => exact hst v (m2 v hv)
    | some u => exact (List.mem_cons.mp hv).elim (fun q => q ▸ hO2.2.2.1 u rfl) (fun hv => hst v (m2 v hv))) hO2.2.1 H2 hO2.1
  have e1 := rn_spl ad b st []
  rw [g3] at e1
  have e2 : (pm_pu rr rest).map (rn_v ad) = pm_pu (rr.map (rn_v ad)) (rest.map (rn_v ad)) := by cases rr <;> rfl
  rw [e2] at w
  have ecat : pm_cat (rest.map (rn_v ad)) ≤ 8 := by rw [rn_cats]; exact g4
  have ea : rn_v ad (.ref o) = .ref o := by show Value.ref _ = _; rw [hA.1 _ (by omega)]
  rw [List.map_cons, ea] at c2
  change pm_spl b (List.map (rn_v ad) st) [] = some (rn_v ad (Value.ref o) :: List.map (rn_v ad) as, List.map (rn_v ad) rest) at e1
  rw [ea] at e1
  exact ⟨H1, ⟨hO.1, hO.2.1, hO.2.2.1, hO2.2.2.2.1.tr hO.2.2.2.1, hO.2.2.2.2⟩, pq_clk g0 g1 g2 e1 ecat g5 g6 g7 c2 w⟩
theorem rr_clo (hal : pm_al md = false) (hA : rn_ad ad L) (hC : rn_C (pm_X kp d)) : pr_clo kp md (pm_X kp d) hb sb (fun r2 h2 => r2 = r0 ∧ h2 = h1) (rn_F kp md (pm_X kp d) ad L r0 h1) := by
  intro pc nx a b lv st h n o N f g0 g1 g2 g3 g4 g5 g6 g7 g8 g9 hl hlv hst hcl H hR
  rw [hal] at g3
  cases g3
theorem rr_cca (hal : pm_al md = false) (hA : rn_ad ad L) (hC : rn_C (pm_X kp d)) : pr_cca kp md (pm_X kp d) hb sb (fun r2 h2 => r2 = r0 ∧ h2 = h1) (rn_F kp md (pm_X kp d) ad L r0 h1) := by
  intro pc nx a b lv st h n o x g0 g1 g2 g3 hl hlv hst hcl H hR
  have ho : L o := hst _ List.mem_cons_self o rfl (rn_lo hl g2)
  obtain ⟨H1, hO, w⟩ := g3 hl hlv hst hcl H hR
  exact ⟨H1, hO, pq_cca g0 g1 (hR o _ ho g2) w⟩
theorem rr_aak (hal : pm_al md = false) (hA : rn_ad ad L) (hC : rn_C (pm_X kp d)) : pr_aak kp md (pm_X kp d) hb sb (fun r2 h2 => r2 = r0 ∧ h2 = h1) (rn_F kp md (pm_X kp d) ad L r0 h1) := by
  intro pc nx a b lv st h o n r f j g0 g1 g2 g3 g4 g5 hl hlv hst hcl H hR
  have ho : L o := hst _ (List.mem_cons_of_mem _ (List.mem_cons_of_mem _ List.mem_cons_self)) o rfl (rn_lo hl g1)
  obtain ⟨s1, s2⟩ := rn_set (c := .inl (7, (n, .inr (.inr (.inr (.inr (va_up f j.toNatClampNeg (some r)))))))) hA hR ho g1 rfl
  obtain ⟨H1, hO, w⟩ := g5 (by rw [List.length_set]; exact hl) hlv (fun v hv => hst v (List.mem_cons_of_mem _ (List.mem_cons_of_mem _ (List.mem_cons_of_mem _ hv)))) (rn_cls hcl (fun x hx z => by
    obtain ⟨k, hk⟩ := hx
    unfold va_up at hk
    by_cases q : k = j.toNatClampNeg
    · rw [if_pos q] at hk
      cases hk
      exact absurd g3 (by omega)
    · rw [if_neg q] at hk
      exact hcl o _ ho g1 x ⟨k, hk⟩ z)) _ s1
  refine ⟨H1, ⟨hO.1, hO.2.1, hO.2.2.1, s2.tr hO.2.2.2.1, hO.2.2.2.2⟩, pq_aak g0 (hR o _ ho g1) g2 (by rw [hA.1 r (by omega)]; exact g3) (by rw [hA.1 r (by omega)]; exact g4) ?_⟩
  rw [← rn_up]
  exact w
theorem rr_aam (hal : pm_al md = false) (hA : rn_ad ad L) (hC : rn_C (pm_X kp d)) : pr_aam kp md (pm_X kp d) hb sb (fun r2 h2 => r2 = r0 ∧ h2 = h1) (rn_F kp md (pm_X kp d) ad L r0 h1) := by
  intro pc nx a b lv st h o n r f j x g0 g1 g2 g3 g4 hl hlv hst hcl H hR
  have ho : L o := hst _ (List.mem_cons_of_mem _ (List.mem_cons_of_mem _ List.mem_cons_self)) o rfl (rn_lo hl g1)
  obtain ⟨s1, s2⟩ := rn_set (c := .inl (6, (n, .inr (.inr (.inr (.inr (va_up f j.toNatClampNeg (some r)))))))) hA hR ho g1 rfl
  obtain ⟨H1, hO, w⟩ := g4 (by rw [List.length_set]; exact hl) hlv (fun v hv => hst v (List.mem_cons_of_mem _ (List.mem_cons_of_mem _ (List.mem_cons_of_mem _ hv)))) (rn_cls hcl (fun x hx z => by
    obtain ⟨k, hk⟩ := hx
    unfold va_up at hk
    by_cases q : k = j.toNatClampNeg
    · rw [if_pos q] at hk
      cases hk
      exact hst _ List.mem_cons_self _ rfl z
    · rw [if_neg q] at hk
      exact hcl o _ ho g1 x ⟨k, hk⟩ z)) _ s1
  refine ⟨H1, ⟨hO.1, hO.2.1, hO.2.2.1, s2.tr hO.2.2.2.1, hO.2.2.2.2⟩, pq_aam g0 (hR o _ ho g1) g2 (hR r _ (hst _ List.mem_cons_self r rfl (rn_lo hl g3)) g3) ?_⟩
  rw [← rn_up]
  exact w
theorem rr_inn (hal : pm_al md = false) (hA : rn_ad ad L) (hC : rn_C (pm_X kp d)) : pr_inn kp md (pm_X kp d) hb sb (fun r2 h2 => r2 = r0 ∧ h2 = h1) (rn_F kp md (pm_X kp d) ad L r0 h1) := by
  intro pc nx a b lv st h n o g0 g1 hl hlv hst hcl H hR
  obtain ⟨H1, hO, w⟩ := g1 hl (hlv) (fun v hv => hst v (List.mem_cons_of_mem _ hv)) hcl H hR
  exact ⟨H1, hO, pq_inn g0 w⟩
theorem rr_clu (hal : pm_al md = false) (hA : rn_ad ad L) (hC : rn_C (pm_X kp d)) : pr_clu kp md (pm_X kp d) hb sb (fun r2 h2 => r2 = r0 ∧ h2 = h1) (rn_F kp md (pm_X kp d) ad L r0 h1) := by
  intro pc nx a b lv st h n o as rest fs rr hz g0 g1 g2 g3 g4 g5 g6 g7 hl hlv hst hcl H hR
  have hm : pm_mal a = false := by
    rcases g5 with z | z
    · exact z
    · rw [hal] at z; cases z.1
  obtain ⟨m1, m2⟩ := rn_splm g2
  have has : ∀ v ∈ Value.ref o :: as, rn_ok L v := fun v hv => hst v (m1 v hv)
  obtain ⟨H2, hO2, c2⟩ := hC _ _ _ _ _ g6 hm ad L hA hl has hcl H hR
  obtain ⟨H1, hO, w⟩ := g7 hO2.2.2.2.2 hlv (fun v hv => by
    cases rr with
    | none => exact hst v (m2 v hv)
    | some u => exact (List.mem_cons.mp hv).elim (fun q => q ▸ hO2.2.2.1 u rfl) (fun hv => hst v (m2 v hv))) hO2.2.1 H2 hO2.1
  have e1 := rn_spl ad b st []
  rw [g2] at e1
  have e2 : (pm_pu rr rest).map (rn_v ad) = pm_pu (rr.map (rn_v ad)) (rest.map (rn_v ad)) := by cases rr <;> rfl
  rw [e2] at w
  have ecat : pm_cat (rest.map (rn_v ad)) ≤ 8 := by rw [rn_cats]; exact g3
  have ho : L o := has _ List.mem_cons_self o rfl (rn_lo hl g4)
  exact ⟨H1, ⟨hO.1, hO.2.1, hO.2.2.1, hO2.2.2.2.1.tr hO.2.2.2.1, hO.2.2.2.2⟩, pq_clu g0 g1 e1 ecat (hR o _ ho g4) (Or.inl hm) c2 w⟩
theorem rr_csu (hal : pm_al md = false) (hA : rn_ad ad L) (hC : rn_C (pm_X kp d)) : pr_csu kp md (pm_X kp d) hb sb (fun r2 h2 => r2 = r0 ∧ h2 = h1) (rn_F kp md (pm_X kp d) ad L r0 h1) := by
  intro pc nx a b lv st h n o as rest fs rr hz g0 g1 g2 g3 g4 g5 g6 g7 hl hlv hst hcl H hR
  have hm : pm_mal a = false := by
    rcases g5 with z | z
    · exact z
    · rw [hal] at z; cases z.1
  obtain ⟨m1, m2⟩ := rn_splm g2
  have has : ∀ v ∈ Value.ref o :: as, rn_ok L v := fun v hv => hst v (m1 v hv)
  obtain ⟨H2, hO2, c2⟩ := hC _ _ _ _ _ g6 hm ad L hA hl has hcl H hR
  obtain ⟨H1, hO, w⟩ := g7 hO2.2.2.2.2 hlv (fun v hv => by
    cases rr with
    | none => exact hst v (m2 v hv)
    | some u => exact (List.mem_cons.mp hv).elim (fun q => q ▸ hO2.2.2.1 u rfl) (fun hv => hst v (m2 v hv))) hO2.2.1 H2 hO2.1
  have e1 := rn_spl ad b st []
  rw [g2] at e1
  have e2 : (pm_pu rr rest).map (rn_v ad) = pm_pu (rr.map (rn_v ad)) (rest.map (rn_v ad)) := by cases rr <;> rfl
  rw [e2] at w
  have ecat : pm_cat (rest.map (rn_v ad)) ≤ 8 := by rw [rn_cats]; exact g3
  have ho : L o := has _ List.mem_cons_self o rfl (rn_lo hl g4)
  exact ⟨H1, ⟨hO.1, hO.2.1, hO.2.2.1, hO2.2.2.2.1.tr hO.2.2.2.1, hO.2.2.2.2⟩, pq_csu g0 g1 e1 ecat (hR o _ ho g4) (Or.inl hm) c2 w⟩
theorem rr_clf (hal : pm_al md = false) (hA : rn_ad ad L) (hC : rn_C (pm_X kp d)) : pr_clf kp md (pm_X kp d) hb sb (fun r2 h2 => r2 = r0 ∧ h2 = h1) (rn_F kp md (pm_X kp d) ad L r0 h1) := by
  intro pc nx a b lv st h n c o as rest fs rr hz g0 g1 g2 g3 g4 g5 g6 g7 hl hlv hst hcl H hR
  have hm : pm_mal a = false := by
    rcases g5 with z | z
    · exact z
    · rw [hal] at z; cases z.1
  obtain ⟨m1, m2⟩ := rn_splm g2
  have has : ∀ v ∈ Value.ref o :: as, rn_ok L v := fun v hv => hst v (m1 v hv)
  obtain ⟨H2, hO2, c2⟩ := hC _ _ _ _ _ g6 hm ad L hA hl has hcl H hR
  obtain ⟨H1, hO, w⟩ := g7 hO2.2.2.2.2 hlv (fun v hv => by
    cases rr with
    | none => exact hst v (m2 v hv)
    | some u => exact (List.mem_cons.mp hv).elim (fun q => q ▸ hO2.2.2.1 u rfl) (fun hv => hst v (m2 v hv))) hO2.2.1 H2 hO2.1
  have e1 := rn_spl ad b st []
  rw [g2] at e1
  have e2 : (pm_pu rr rest).map (rn_v ad) = pm_pu (rr.map (rn_v ad)) (rest.map (rn_v ad)) := by cases rr <;> rfl
  rw [e2] at w
  have ecat : pm_cat (rest.map (rn_v ad)) ≤ 8 := by rw [rn_cats]; exact g3
  have ho : L o := has _ List.mem_cons_self o rfl (rn_lo hl g4)
  exact ⟨H1, ⟨hO.1, hO.2.1, hO.2.2.1, hO2.2.2.2.1.tr hO.2.2.2.1, hO.2.2.2.2⟩, pq_clf g0 g1 e1 ecat (hR o _ ho g4) (Or.inl hm) c2 w⟩
theorem rr_acp (hal : pm_al md = false) (hA : rn_ad ad L) (hC : rn_C (pm_X kp d)) : pr_acp kp md (pm_X kp d) hb sb (fun r2 h2 => r2 = r0 ∧ h2 = h1) (rn_F kp md (pm_X kp d) ad L r0 h1) := by
  intro pc nx a b lv st h n o b0 n0 n1 f g sp dp k g0 g1 g2 g3 g4 g5 g6 g7 g8 g9 g10 hl hlv hst hcl H hR
  have ho : L o := hst _ (List.mem_cons_of_mem _ (List.mem_cons_of_mem _ List.mem_cons_self)) o rfl (rn_lo hl g3)
  obtain ⟨s1, s2⟩ := rn_set (c := .inl (2, (n1, .inl (va_cpy f g sp.toNatClampNeg dp.toNatClampNeg k.toNatClampNeg)))) hA hR ho g3 rfl
  obtain ⟨H1, hO, w⟩ := g10 (by rw [List.length_set]; exact hl) hlv (fun v hv => hst v (List.mem_cons_of_mem _ (List.mem_cons_of_mem _ (List.mem_cons_of_mem _ (List.mem_cons_of_mem _ (List.mem_cons_of_mem _ hv)))))) (rn_cls hcl (fun x hx z => False.elim hx)) _ s1
  refine ⟨H1, ⟨hO.1, hO.2.1, hO.2.2.1, s2.tr hO.2.2.2.1, hO.2.2.2.2⟩, ?_⟩
  simp only [List.map_cons]
  rw [show rn_v ad (.ref b0) = .ref b0 by show Value.ref _ = _; rw [hA.1 _ (rn_kl g2)]]
  exact pq_acp g0 g1 g2 (hR o _ ho g3) g4 g5 g6 g7 g8 (by rw [rn_cats]; exact g9) w
theorem rr_mmx (hal : pm_al md = false) (hA : rn_ad ad L) (hC : rn_C (pm_X kp d)) : pr_mmx kp md (pm_X kp d) hb sb (fun r2 h2 => r2 = r0 ∧ h2 = h1) (rn_F kp md (pm_X kp d) ad L r0 h1) := by
  intro pc nx a b lv st h n x y g0 g1 g2 g3 hl hlv hst hcl H hR
  obtain ⟨H1, hO, w⟩ := g3 hl hlv (fun v hv => (List.mem_cons.mp hv).elim (fun q => q ▸ rn_num (fun a q => by cases q)) (fun hv => hst v (List.mem_cons_of_mem _ (List.mem_cons_of_mem _ hv)))) hcl H hR
  exact ⟨H1, hO, pq_mmx g0 g1 (by rw [rn_cats]; exact g2) w⟩
theorem rr_mmn (hal : pm_al md = false) (hA : rn_ad ad L) (hC : rn_C (pm_X kp d)) : pr_mmn kp md (pm_X kp d) hb sb (fun r2 h2 => r2 = r0 ∧ h2 = h1) (rn_F kp md (pm_X kp d) ad L r0 h1) := by
  intro pc nx a b lv st h n x y g0 g1 g2 g3 hl hlv hst hcl H hR
  obtain ⟨H1, hO, w⟩ := g3 hl hlv (fun v hv => (List.mem_cons.mp hv).elim (fun q => q ▸ rn_num (fun a q => by cases q)) (fun hv => hst v (List.mem_cons_of_mem _ (List.mem_cons_of_mem _ hv)))) hcl H hR
  exact ⟨H1, hO, pq_mmn g0 g1 (by rw [rn_cats]; exact g2) w⟩
theorem rr_obj (hal : pm_al md = false) (hA : rn_ad ad L) (hC : rn_C (pm_X kp d)) : pr_obj kp md (pm_X kp d) hb sb (fun r2 h2 => r2 = r0 ∧ h2 = h1) (rn_F kp md (pm_X kp d) ad L r0 h1) := by
  intro pc nx a b lv st h n o g0 g1 g2 g3 hl hlv hst hcl H hR
  obtain ⟨H1, hO, w⟩ := g3 hl hlv (fun v hv => hst v (List.mem_cons_of_mem _ hv)) hcl H hR
  exact ⟨H1, hO, pq_obj g0 g1 (by rw [rn_cats]; exact g2) w⟩
theorem rr_irt (hal : pm_al md = false) (hA : rn_ad ad L) (hC : rn_C (pm_X kp d)) : pr_irt kp md (pm_X kp d) hb sb (fun r2 h2 => r2 = r0 ∧ h2 = h1) (rn_F kp md (pm_X kp d) ad L r0 h1) := by
  intro pc nx a b lv h v ty g0 g1 g2 g3 hl hlv hst hcl H hR
  obtain ⟨e1, e2⟩ := g3
  subst e1
  subst e2
  exact ⟨H, ⟨hR, hcl, fun v q => by cases q; exact rn_num (fun a q => by cases q), rn_T.rf _ _ _, hl⟩, pq_irt g0 g1 g2 ⟨rfl, rfl⟩⟩
theorem rr_lrt (hal : pm_al md = false) (hA : rn_ad ad L) (hC : rn_C (pm_X kp d)) : pr_lrt kp md (pm_X kp d) hb sb (fun r2 h2 => r2 = r0 ∧ h2 = h1) (rn_F kp md (pm_X kp d) ad L r0 h1) := by
  intro pc nx a b lv h v g0 g1 g2 hl hlv hst hcl H hR
  obtain ⟨e1, e2⟩ := g2
  subst e1
  subst e2
  exact ⟨H, ⟨hR, hcl, fun v q => by cases q; exact rn_num (fun a q => by cases q), rn_T.rf _ _ _, hl⟩, pq_lrt g0 g1 ⟨rfl, rfl⟩⟩
theorem rr_art (hal : pm_al md = false) (hA : rn_ad ad L) (hC : rn_C (pm_X kp d)) : pr_art kp md (pm_X kp d) hb sb (fun r2 h2 => r2 = r0 ∧ h2 = h1) (rn_F kp md (pm_X kp d) ad L r0 h1) := by
  intro pc nx a b lv h o n g0 g1 g2 hl hlv hst hcl H hR
  obtain ⟨e1, e2⟩ := g2
  subst e1
  subst e2
  exact ⟨H, ⟨hR, hcl, fun v q => by cases q; exact hst _ List.mem_cons_self, rn_T.rf _ _ _, hl⟩, pq_art g0 g1 ⟨rfl, rfl⟩⟩
theorem rr_vrt (hal : pm_al md = false) (hA : rn_ad ad L) (hC : rn_C (pm_X kp d)) : pr_vrt kp md (pm_X kp d) hb sb (fun r2 h2 => r2 = r0 ∧ h2 = h1) (rn_F kp md (pm_X kp d) ad L r0 h1) := by
  intro pc nx a b lv h g0 g1 g2 hl hlv hst hcl H hR
  obtain ⟨e1, e2⟩ := g2
  subst e1
  subst e2
  exact ⟨H, ⟨hR, hcl, fun v q => (by cases q), rn_T.rf _ _ _, hl⟩, pq_vrt g0 g1 ⟨rfl, rfl⟩⟩
theorem rr_gst (hal : pm_al md = false) (hA : rn_ad ad L) (hC : rn_C (pm_X kp d)) : pr_gst kp md (pm_X kp d) hb sb (fun r2 h2 => r2 = r0 ∧ h2 = h1) (rn_F kp md (pm_X kp d) ad L r0 h1) := by
  intro pc nx a b lv st h n v g0 g1 g2 hl hlv hst hcl H hR
  have e : rn_ok L v ∧ rn_v ad v = v := by
    unfold pm_gst at g1
    split at g1
    · cases g1; exact ⟨fun a q z => (by cases q; exact absurd (show (_ : Nat) < 1000000 from z) (by omega)), by show Value.ref _ = _; rw [hA.1 _ (by omega)]⟩
    · cases g1; exact ⟨fun a q z => (by cases q; exact absurd (show (_ : Nat) < 1000000 from z) (by omega)), by show Value.ref _ = _; rw [hA.1 _ (by omega)]⟩
    · cases g1; exact ⟨rn_num (fun a q => by cases q), rfl⟩
    · cases g1; exact ⟨rn_num (fun a q => by cases q), rfl⟩
    · cases g1; exact ⟨fun a q z => (by cases q; exact absurd (show (_ : Nat) < 1000000 from z) (by omega)), by show Value.ref _ = _; rw [hA.1 _ (by omega)]⟩
    · cases g1
  obtain ⟨H1, hO, w⟩ := g2 hl hlv (fun u hu => (List.mem_cons.mp hu).elim (fun q => q ▸ e.1) (fun hu => hst u hu)) hcl H hR
  rw [List.map_cons, e.2] at w
  exact ⟨H1, hO, pq_gst g0 g1 w⟩
theorem rr_sub (hal : pm_al md = false) (hA : rn_ad ad L) (hC : rn_C (pm_X kp d)) : pr_sub kp md (pm_X kp d) hb sb (fun r2 h2 => r2 = r0 ∧ h2 = h1) (rn_F kp md (pm_X kp d) ad L r0 h1) := by
  intro pc nx a b lv st h ks lv1 g0 g1 hl hlv hst hcl H hR
  have e := rn_pck ad lv ks some some (fun t => rfl)
  rw [g0] at e
  obtain ⟨t, t1, t2⟩ := ps_pck_in lv ks some lv1 g0
  cases t1
  obtain ⟨H1, hO, w⟩ := g1 hl (fun q hq => hlv q (t2 q hq)) hst hcl H hR
  exact ⟨H1, hO, pq_sub (nx := nx) (a := a) (b := b) ks e w⟩
theorem rr_all (hal : pm_al md = false) (hA : rn_ad ad L) (hC : rn_C (pm_X kp d)) : pm_R kp md (pm_X kp d) hb sb (fun r2 h2 => r2 = r0 ∧ h2 = h1) (rn_F kp md (pm_X kp d) ad L r0 h1) :=
  ⟨rr_cst hal hA hC, rr_ldc hal hA hC, rr_ld hal hA hC, rr_sto hal hA hC, rr_bop hal hA hC, rr_dop hal hA hC, rr_uop hal hA hC, rr_sop hal hA hC, rr_inc hal hA hC, rr_goto hal hA hC, rr_ifc hal hA hC, rr_icm hal hA hC, rr_tso hal hA hC, rr_tsi hal hA hC, rr_lsw hal hA hC, rr_get hal hA hC, rr_gek hal hA hC, rr_put hal hA hC, rr_puf hal hA hC, rr_ial hal hA hC, rr_bal hal hA hC, rr_zal hal hA hC, rr_lal hal hA hC, rr_aal hal hA hC, rr_kil hal hA hC, rr_kbl hal hA hC, rr_kll hal hA hC, rr_kle hal hA hC, rr_ias hal hA hC, rr_bas hal hA hC, rr_zas hal hA hC, rr_las hal hA hC, rr_aas hal hA hC, rr_len hal hA hC, rr_new hal hA hC, rr_nwa hal hA hC, rr_nwr hal hA hC, rr_nwm hal hA hC, rr_cls hal hA hC, rr_clv hal hA hC, rr_clk hal hA hC, rr_clo hal hA hC, rr_cca hal hA hC, rr_aak hal hA hC, rr_aam hal hA hC, rr_inn hal hA hC, rr_clu hal hA hC, rr_csu hal hA hC, rr_clf hal hA hC, rr_acp hal hA hC, rr_mmx hal hA hC, rr_mmn hal hA hC, rr_obj hal hA hC, rr_irt hal hA hC, rr_lrt hal hA hC, rr_art hal hA hC, rr_vrt hal hA hC, rr_gst hal hA hC, rr_sub hal hA hC⟩
end REN
theorem rn_X {kp : pm_K} : ∀ d, rn_C (pm_X kp d)
  | 0 => fun _ _ _ _ _ h => False.elim h
  | d + 1 => fun k as h r h1 ⟨md, hk, ga, w⟩ hm ad L hA hl has hcl H hR => by
    have hal : pm_al md = false := by
      unfold pm_mal at hm
      rw [hk] at hm
      exact hm
    obtain ⟨H1, hO, w1⟩ := w _ (rr_all hal hA (rn_X d)) hl (fun q hq => by
      have hin : ∀ (as : List Value) (n : Nat), ∀ q ∈ lv_args n as, q.2 ∈ as := fun as => by
        induction as with
        | nil => intro n q hq; cases hq
        | cons v r ih =>
          intro n q hq
          simp only [lv_args, List.mem_cons] at hq
          rcases hq with z | z
          · rw [z]; exact List.mem_cons_self
          · exact List.mem_cons_of_mem _ (ih _ q z)
      exact has _ (hin as 0 q hq)) (fun v hv => absurd hv List.not_mem_nil) hcl H hR
    refine ⟨H1, hO, md, hk, by rw [rn_asz]; exact ga, ?_⟩
    rw [rn_args]
    exact w1
/-- a run from a place on -/
theorem rn_W {kp : pm_K} {md : pm_M} {d hb sb pc : Nat} {ad : Nat → Nat} {L : Nat → Prop} {r : Option Value} {h h1 : pm_H} {lv : pm_L} {st : List Value} (hal : pm_al md = false) (hA : rn_ad ad L) (w : pm_W kp md (pm_X kp d) hb sb (fun r2 h2 => r2 = r ∧ h2 = h1) pc lv st h) : rn_F kp md (pm_X kp d) ad L r h1 pc lv st h := w _ (rr_all hal hA (rn_X d))
