/-! the class: roots parted by traces -/
theorem le_Po_splitParts_7  (n : Nat) (v1 : Int32) (v2 : Int32) (m : qm_M) : L_Po_splitParts_7 (n + 1) v1 v2 m = X_Po_splitParts_7 F_Po_copy F_Po_meet F_Po_degreeOf F_Po_divide (L_Po_splitParts_7 n) v1 v2 m := rfl
def sl (S : Nat → List nb_F) : Nat → Nat
  | 0 => 0
  | n + 1 => sl S n + (S n).length
theorem sl_s (S : Nat → List nb_F) (n : Nat) : sl S (n + 1) = sl S n + (S n).length := rfl
theorem sl_c {S U : Nat → List nb_F} : ∀ n, (∀ j, j < n → U j = S j) → sl U n = sl S n
  | 0, _ => rfl
  | n + 1, h => by rw [sl_s, sl_s, sl_c n (fun j hj => h j (by omega)), h n (by omega)]
theorem sl_up {S U : Nat → List nb_F} {v : Nat} : ∀ n, v < n → (∀ j, j < n → j ≠ v → U j = S j) → sl U n + (S v).length = sl S n + (U v).length
  | 0, h, _ => absurd h (Nat.not_lt_zero _)
  | n + 1, h, g => by
    rw [sl_s, sl_s]
    by_cases q : v = n
    · subst q
      rw [sl_c v (fun j hj => g j (by omega) (by omega))]
      omega
    · have := sl_up n (by omega) (fun j hj hv => g j (by omega) hv)
      rw [g n (by omega) (Ne.symm q)]
      omega
theorem sl_ge {S : Nat → List nb_F} : ∀ n, (∀ j, j < n → S j ≠ []) → n ≤ sl S n
  | 0, _ => Nat.le_refl _
  | n + 1, h => by
    have h1 := sl_ge n (fun j hj => h j (by omega))
    have h2 : 0 < (S n).length := by
      cases e : S n with
      | nil => exact absurd e (h n (by omega))
      | cons a l => exact Nat.succ_pos _
    rw [sl_s]
    omega
theorem flt_len (p : nb_F → Bool) : ∀ S : List nb_F, (S.filter p).length + (S.filter (fun r => !p r)).length = S.length
  | [] => rfl
  | a :: S => by
    have ih := flt_len p S
    cases h : p a with
    | true =>
      rw [List.filter_cons_of_pos h, List.filter_cons_of_neg (by rw [h]; decide), List.length_cons, List.length_cons]
      omega
    | false =>
      rw [List.filter_cons_of_neg (by rw [h]; decide), List.filter_cons_of_pos (by rw [h]; rfl), List.length_cons, List.length_cons]
      omega
/-- the parts of R -/
def sok (R : List nb_F) (n : Nat) (S : Nat → List nb_F) : Prop := (∀ j, j < n → (S j).Nodup) ∧ (∀ i j r, i < n → j < n → r ∈ S i → r ∈ S j → i = j) ∧ (∀ r, (∃ j, j < n ∧ r ∈ S j) ↔ r ∈ R) ∧ sl S n = R.length ∧ (n = 1 ∨ ∀ j, j < n → S j ≠ []) ∧ 1 ≤ n
theorem sok.le {R : List nb_F} {n : Nat} {S : Nat → List nb_F} (h : sok R n S) (hR : R.length ≤ 7) : n ≤ 7 := by
  obtain ⟨-, -, -, h4, h5, -⟩ := h
  rcases h5 with h5 | h5
  · omega
  · have := sl_ge n h5
    omega
theorem sl_mem {S : Nat → List nb_F} {j : Nat} : ∀ n, j < n → (S j).length ≤ sl S n
  | 0, h => absurd h (Nat.not_lt_zero _)
  | n + 1, h => by
    rw [sl_s]
    by_cases q : j = n
    · rw [q]
      omega
    · have := sl_mem (S := S) (j := j) n (by omega)
      omega
theorem sok.one {R : List nb_F} (h : R.Nodup) : sok R 1 (fun _ => R) := ⟨fun _ _ => h, fun i j r hi hj _ _ => by omega, fun r => ⟨fun ⟨_, _, h⟩ => h, fun h => ⟨0, by omega, h⟩⟩, by show 0 + R.length = R.length; omega, Or.inl rfl, Nat.le_refl _⟩
theorem sok.up {R : List nb_F} {n : Nat} {S : Nat → List nb_F} (h : sok R n S) {v : Nat} (hv : v < n) (p : nb_F → Bool) (h1 : (S v).filter p ≠ []) (h2 : (S v).filter (fun r => !p r) ≠ []) :
    sok R (n + 1) (fun j => if j = v then (S v).filter (fun r => !p r) else if j = n then (S v).filter p else S j) := by
  obtain ⟨g1, g2, g3, g4, g5, g6⟩ := h
  generalize hU : (fun j => if j = v then (S v).filter (fun r => !p r) else if j = n then (S v).filter p else S j) = U
  have uv : U v = (S v).filter (fun r => !p r) := by rw [← hU]; exact if_pos rfl
  have un : U n = (S v).filter p := by
    rw [← hU]
    show (if n = v then (S v).filter (fun r => !p r) else if n = n then (S v).filter p else S n) = _
    rw [if_neg (by omega), if_pos rfl]
  have uo : ∀ j, j < n → j ≠ v → U j = S j := fun j hj hne => by
    rw [← hU]
    show (if j = v then (S v).filter (fun r => !p r) else if j = n then (S v).filter p else S j) = _
    rw [if_neg hne, if_neg (by omega)]
  have sub : ∀ j r, j < n + 1 → r ∈ U j → ∃ i, i < n ∧ r ∈ S i ∧ (j = n → i = v) ∧ (j ≠ n → i = j) := fun j r hj hr => by
    by_cases q1 : j = n
    · rw [q1, un] at hr
      exact ⟨v, hv, (List.mem_filter.mp hr).1, fun _ => rfl, fun z => absurd q1 z⟩
    · by_cases q2 : j = v
      · rw [q2, uv] at hr
        exact ⟨v, hv, (List.mem_filter.mp hr).1, fun z => absurd z q1, fun _ => q2.symm⟩
      · rw [uo j (by omega) q2] at hr
        exact ⟨j, by omega, hr, fun z => absurd z q1, fun _ => rfl⟩
  have both : ∀ r, r ∈ U v → r ∈ U n → False := fun r a b => by
    rw [uv] at a
    rw [un] at b
    have a2 := (List.mem_filter.mp a).2
    rw [(List.mem_filter.mp b).2] at a2
    cases a2
  refine ⟨fun j hj => ?_, fun i j r hi hj ri rj => ?_, fun r => ⟨?_, ?_⟩, ?_, Or.inr (fun j hj => ?_), by omega⟩
  · by_cases q1 : j = n
    · rw [q1, un]
      exact List.Nodup.sublist List.filter_sublist (g1 v hv)
    · by_cases q2 : j = v
      · rw [q2, uv]
        exact List.Nodup.sublist List.filter_sublist (g1 v hv)
      · rw [uo j (by omega) q2]
        exact g1 j (by omega)
  · obtain ⟨i2, a1, a2, a3, a4⟩ := sub i r hi ri
    obtain ⟨j2, b1, b2, b3, b4⟩ := sub j r hj rj
    have e := g2 i2 j2 r a1 b1 a2 b2
    by_cases q1 : i = n
    · by_cases q2 : j = n
      · omega
      · have e1 := a3 q1
        have e2 := b4 q2
        rw [q1] at ri
        rw [show j = v by omega] at rj
        exact (both r rj ri).elim
    · by_cases q2 : j = n
      · have e1 := a4 q1
        have e2 := b3 q2
        rw [q2] at rj
        rw [show i = v by omega] at ri
        exact (both r ri rj).elim
      · have e1 := a4 q1
        have e2 := b4 q2
        omega
  · rintro ⟨j, hj, hr⟩
    obtain ⟨i2, a1, a2, -⟩ := sub j r hj hr
    exact (g3 r).mp ⟨i2, a1, a2⟩
  · intro hr
    obtain ⟨j, hj, hr⟩ := (g3 r).mpr hr
    by_cases q2 : j = v
    · rw [q2] at hr
      cases hp : p r with
      | true => exact ⟨n, by omega, by rw [un]; exact List.mem_filter.mpr ⟨hr, hp⟩⟩
      | false => exact ⟨v, by omega, by rw [uv]; exact List.mem_filter.mpr ⟨hr, by rw [hp]; rfl⟩⟩
    · exact ⟨j, by omega, by rw [uo j hj q2]; exact hr⟩
  · have e1 := sl_up n hv uo
    have e2 := flt_len p (S v)
    rw [sl_s, un]
    rw [uv] at e1
    omega
  · by_cases q1 : j = n
    · rw [q1, un]
      exact h1
    · by_cases q2 : j = v
      · rw [q2, uv]
        exact h2
      · rw [uo j (by omega) q2]
        rcases g5 with g5 | g5
        · omega
        · exact g5 j (by omega)
/-- alike under the first b traces -/
def ag (k b : Nat) (S : List nb_F) : Prop := ∀ r s, r ∈ S → s ∈ S → ∀ c, c < b → tq2 k c r = tq2 k c s
theorem ag.sub {k b : Nat} {S U : List nb_F} (h : ag k b S) (g : ∀ r, r ∈ U → r ∈ S) : ag k b U := fun r s hr hs c hc => h r s (g r hr) (g s hs) c hc
theorem ag.s {k b : Nat} {S : List nb_F} (h : ag k b S) (g : ∀ r s, r ∈ S → s ∈ S → tq2 k b r = tq2 k b s) : ag k (b + 1) S := fun r s hr hs c hc => by
  by_cases q : c = b
  · rw [q]
    exact g r s hr hs
  · exact h r s hr hs c (by omega)
def prt (m : qm_M) (j : Nat) (S : List nb_F) : Prop := ∃ c, pa m (97 + j) 16 c ∧ ∀ x, pf_e 16 c x = rp S x
theorem prt.c {m m1 : qm_M} {j : Nat} {S : List nb_F} (h : prt m j S) (e : m1.2 (97 + j) = m.2 (97 + j)) : prt m1 j S := by
  obtain ⟨c, c1, c2⟩ := h
  exact ⟨c, c1.c e, c2⟩
def spf (m m1 : qm_M) : Prop := (∀ a, a ≠ 70 → m1.1 a = m.1 a) ∧ (∀ j, j ≠ 13 → m1.1 70 j = m.1 70 j) ∧ ∀ a, a ≠ 75 → a ≠ 77 → a ≠ 78 → a < 97 ∨ 104 < a → m1.2 a = m.2 a
theorem spf.rf (m : qm_M) : spf m m := ⟨fun _ _ => rfl, fun _ _ => rfl, fun _ _ _ _ _ => rfl⟩
theorem spf.tr {m m1 m2 : qm_M} (h : spf m m1) (g : spf m1 m2) : spf m m2 := ⟨fun a x => (g.1 a x).trans (h.1 a x), fun a x => (g.2.1 a x).trans (h.2.1 a x), fun a x y z w => (g.2.2 a x y z w).trans (h.2.2 a x y z w)⟩
theorem spf.of {m m1 : qm_M} (h : m1.1 = m.1) (g : ∀ a, a ≠ 75 → a ≠ 77 → a ≠ 78 → a < 97 ∨ 104 < a → m1.2 a = m.2 a) : spf m m1 := ⟨fun _ _ => by rw [h], fun _ _ => by rw [h], g⟩
/-- every part is parted by one more trace -/
theorem nu_splitParts {m0 : qm_M} {R : List nb_F} (hR : R.length ≤ 7) {k b : Nat} (hk : k ≤ 4) (hb : b < 2 ^ k) (hin : ∀ r, r ∈ R → nb_in k r) {T : Nat → nb_F} (hT : pa m0 76 16 T) (hTr : ∀ r, r ∈ R → pf_e 16 T r = tq2 k b r) {n : Nat} {S : Nat → List nb_F} (hS : sok R n S) (hn : m0.1 70 13 = nI n) (hp : ∀ j, j < n → prt m0 j (S j)) (ha : ∀ j, j < n → ag k b (S j)) :
    ∃ m1 n1 U, F_Po_splitParts m0 = some (none, m1) ∧ sok R n1 U ∧ m1.1 70 13 = nI n1 ∧ (∀ j, j < n1 → prt m1 j (U j)) ∧ (∀ j, j < n1 → ag k (b + 1) (U j)) ∧ spf m0 m1 := by
  have hn7 := hS.le hR
  obtain ⟨m1, ⟨n1, U, g1, g2, g3, g4, g5, g6, g7, g8⟩, e⟩ := lpU (fun f v (m : qm_M) => L_Po_splitParts_7 f (nI n) (nI v) m) n (fun v m => ∃ n1 U, n ≤ n1 ∧ sok R n1 U ∧ m.1 70 13 = nI n1 ∧ (∀ j, j < n1 → prt m j (U j)) ∧ (∀ j, j < n1 → j < v ∨ n ≤ j → ag k (b + 1) (U j)) ∧ (∀ j, v ≤ j → j < n → ag k b (U j)) ∧ pa m 76 16 T ∧ spf m0 m) (fun m => some (none, m)) (fun f v m hv hI => by
      obtain ⟨n1, U, g1, g2, g3, g4, g5, g6, g7, g8⟩ := hI
      have n17 := g2.le hR
      obtain ⟨c, p1, p2⟩ := g4 v (by omega)
      have hUl : (U v).length ≤ 7 := by
        have := sl_mem (S := U) n1 (show v < n1 by omega)
        have := g2.2.2.2.1
        omega
      have hUm : ∀ r, r ∈ U v → r ∈ R := fun r hr => (g2.2.2.1 r).mp ⟨v, by omega, hr⟩
      have av := ary_of (o := 97 + v) (by omega)
      have an := ary_of (o := 97 + n1) (by omega)
      obtain ⟨m2, b1, b2, b3, b4⟩ := nu_copyP av an (by omega) (by omega) p1
      obtain ⟨m3, c1, c2, c3, c4⟩ := nu_copyP (ary_of (o := 76) (by omega)) (ary_of (o := 75) (by omega)) (by omega) (by omega) (g7.c (b4 76 (by omega)))
      obtain ⟨m4, g, d1, d2, d3, d4, d5, d6⟩ := nu_meet an (ary_of (o := 75) (by omega)) (ary_of (o := 77) (by omega)) (by omega) (by omega) (by decide) (by omega) (b2.c (c4 (97 + n1) (by omega))) c2
      obtain ⟨s1, s2, s3⟩ := gsp (g2.1 v (by omega)) (by omega) p2 d2.2 d3 d4
      generalize hq : (fun r => decide (pf_e 16 T r = 0)) = q at s1 s2 s3
      have qt : ∀ r, r ∈ U v → (q r = true ↔ tq2 k b r = 0) := fun r hr => by
        rw [← hq, ← hTr r (hUm r hr)]
        exact decide_eq_true_iff
      have tt : ∀ r, r ∈ U v → ¬ q r = true → tq2 k b r = 1 := fun r hr hq => (tq2_01 hk hb (hin r (hUm r hr))).resolve_left (fun z => hq ((qt r hr).mpr z))
      obtain ⟨L, l1, l2, l3⟩ := nu_degree an (by omega) d2
      have eL := isL_un l2 s2
      rw [eL, dv_s] at l3
      have f70 : m4.1 70 13 = nI n1 := by rw [d5, c3, b3]; exact g3
      have fr : ∀ a, a ≠ 97 + n1 → a ≠ 75 → a ≠ 77 → m4.2 a = m.2 a := fun a x y z => by rw [d6 a x y z, c4 a y, b4 a x]
      have e8 : nI n1 < (8 : Int32) := nI_lt (a := n1) (b := 8) (by omega) (by omega)
      have hle : ((U v).filter q).length ≤ (U v).length := List.length_filter_le _ _
      have p4 : pa m4 (97 + v) 16 c := p1.c (fr (97 + v) (by omega) (by omega) (by omega))
      obtain ⟨L2, k1, k2, k3⟩ := nu_degree av (by omega) p4
      have eL2 := isL_un k2 (rp_len (by omega) (by omega) p1.2 p2).1
      rw [eL2, dv_s] at k3
      show ∃ s', _ ∧ L_Po_splitParts_7 (f + 1) (nI n) (nI v) m = _
      rw [le_Po_splitParts_7]
      unfold X_Po_splitParts_7
      rw [if_pos (nI_lt hv (by omega)), g3, if_pos e8, qm_in_nI (show n1 < 8 by omega) (by omega), qe_b_e, qm_in_nI (show v < 8 by omega) (by omega), qe_b_e, nI_clamp (by omega), nI_clamp (by omega), rf96 (by omega), rf96 (by omega), b1, qe_rV_e, c1, qe_rV_e, d1, qe_rV_e, l3, qe_rI_e]
      have s4 : spf m m4 := spf.of (by rw [d5, c3, b3]) (fun a x y z w => fr a (by omega) x y)
      by_cases y0 : ((U v).filter q).length = 0
      · have hno : ∀ r, r ∈ U v → ¬ q r = true := fun r hr hq => by
          have := List.length_pos_of_mem (List.mem_filter.mpr ⟨hr, hq⟩)
          omega
        refine ⟨m4, ⟨n1, U, g1, g2, f70, fun j hj => (g4 j hj).c (fr (97 + j) (by omega) (by omega) (by omega)), fun j hj hc => ?_, fun j h1 h2 => g6 j (by omega) h2, g7.c (fr 76 (by omega) (by decide) (by decide)), g8.tr s4⟩, ?_⟩
        · by_cases z : j = v
          · rw [z]
            exact (g6 v (Nat.le_refl _) hv).s (fun r s hr hs => by rw [tt r hr (hno r hr), tt s hs (hno s hs)])
          · exact g5 j hj (by omega)
        · have e0 : ¬ (0 : Int32) < nI ((U v).filter q).length := by rw [y0]; decide
          rw [if_neg e0, nI_1]
      · have e0 : (0 : Int32) < nI ((U v).filter q).length := nI_lt (a := 0) (by omega) (by omega)
        rw [if_pos e0, qe_b_e, k3, qe_rI_e]
        by_cases y1 : ((U v).filter q).length < (U v).length
        · obtain ⟨m5, cr, qq, z1, z2, z3, z4, -, z6, z7, z8⟩ := nu_divide av an (ary_of (o := 78) (by omega)) (by omega) (by omega) (by omega) (by omega) p4 d2 s2 (fun _ => by rw [Nat.add_sub_cancel]; exact s3)
          have zq := qsp (g2.1 v (by omega)) (by omega) p2 s1 z6 (fun i hi => z4 (by omega) i (by omega))
          obtain ⟨m6, w1, w2, w3, w4⟩ := nu_copyP (ary_of (o := 78) (by omega)) av (by omega) (by omega) z3
          have fr6 : ∀ a, a ≠ 97 + v → a ≠ 78 → m6.2 a = m4.2 a := fun a x y => by rw [w4 a x, z8 a x y]
          have hn1 : (U v).filter q ≠ [] := fun z => y0 (by rw [z]; rfl)
          have hn2 : (U v).filter (fun r => !q r) ≠ [] := fun z => by
            have := flt_len q (U v)
            rw [z] at this
            have e : ([] : List nb_F).length = 0 := rfl
            omega
          have h6 : m6.1 70 13 = nI n1 := by rw [w3, z7]; exact f70
          have s6 : spf m4 (qm_sI m6 70 13 (nI (n1 + 1))) := ⟨fun a x => by rw [(qm_sI_other a x).1, w3, z7], fun j x => by rw [me_oth _ _ _ _ (Or.inr x), w3, z7], fun a x y z w => fr6 a (by omega) z⟩
          refine ⟨qm_sI m6 70 13 (nI (n1 + 1)), ⟨n1 + 1, _, by omega, g2.up (by omega) q hn1 hn2, me_self _ _ _ _, fun j hj => ?_, fun j hj hc => ?_, fun j h1 h2 => ?_, g7.c ((fr6 76 (by omega) (by decide)).trans (fr 76 (by omega) (by decide) (by decide))), (g8.tr s4).tr s6⟩, ?_⟩
          · show prt _ j (if j = v then (U v).filter (fun r => !q r) else if j = n1 then (U v).filter q else U j)
            by_cases x1 : j = v
            · rw [if_pos x1, x1]
              exact ⟨qq, w2, zq⟩
            · rw [if_neg x1]
              by_cases x2 : j = n1
              · rw [if_pos x2, x2]
                exact ⟨g, d2.c (fr6 (97 + n1) (by omega) (by omega)), s1⟩
              · rw [if_neg x2]
                exact (g4 j (by omega)).c ((fr6 (97 + j) (by omega) (by omega)).trans (fr (97 + j) (by omega) (by omega) (by omega)))
          · show ag k (b + 1) (if j = v then (U v).filter (fun r => !q r) else if j = n1 then (U v).filter q else U j)
            by_cases x1 : j = v
            · rw [if_pos x1]
              have hx : ∀ r, r ∈ (U v).filter (fun r => !q r) → r ∈ U v ∧ ¬ q r = true := fun r hr => by
                obtain ⟨a1, a2⟩ := List.mem_filter.mp hr
                refine ⟨a1, fun z => ?_⟩
                rw [z] at a2
                cases a2
              exact ((g6 v (Nat.le_refl _) hv).sub (fun r hr => (hx r hr).1)).s (fun r s hr hs => by rw [tt r (hx r hr).1 (hx r hr).2, tt s (hx s hs).1 (hx s hs).2])
            · rw [if_neg x1]
              by_cases x2 : j = n1
              · rw [if_pos x2]
                have hx : ∀ r, r ∈ (U v).filter q → r ∈ U v ∧ q r = true := fun r hr => List.mem_filter.mp hr
                exact ((g6 v (Nat.le_refl _) hv).sub (fun r hr => (hx r hr).1)).s (fun r s hr hs => by rw [(qt r (hx r hr).1).mp (hx r hr).2, (qt s (hx s hs).1).mp (hx s hs).2])
              · rw [if_neg x2]
                exact g5 j (by omega) (by omega)
          · show ag k b (if j = v then (U v).filter (fun r => !q r) else if j = n1 then (U v).filter q else U j)
            rw [if_neg (by omega), if_neg (by omega)]
            exact g6 j (by omega) h2
          · rw [if_pos (nI_lt y1 (by omega)), qe_b_e, z1, qe_rV_e, qe_b_e, w1, qe_rV_e]
            dsimp only
            rw [h6, nI_1, nI_1]
        · have hall : ∀ r, r ∈ U v → q r = true := fun r hr => by
            have e := (List.filter_sublist (p := q) (l := U v)).eq_of_length (by omega)
            rw [← e] at hr
            exact (List.mem_filter.mp hr).2
          refine ⟨m4, ⟨n1, U, g1, g2, f70, fun j hj => (g4 j hj).c (fr (97 + j) (by omega) (by omega) (by omega)), fun j hj hc => ?_, fun j h1 h2 => g6 j (by omega) h2, g7.c (fr 76 (by omega) (by decide) (by decide)), g8.tr s4⟩, ?_⟩
          · by_cases z : j = v
            · rw [z]
              exact (g6 v (Nat.le_refl _) hv).s (fun r s hr hs => by rw [(qt r hr).mp (hall r hr), (qt s hs).mp (hall s hs)])
            · exact g5 j hj (by omega)
          · rw [if_neg (nI_nlt (by omega) (by omega)), nI_1]) (fun f m _ => by
      show L_Po_splitParts_7 (f + 1) (nI n) (nI n) m = _
      rw [le_Po_splitParts_7]
      unfold X_Po_splitParts_7
      rw [if_neg (nI_nlt (Nat.le_refl _) (by omega))]) 1000000 0 m0 (Nat.zero_le _) (by omega) ⟨n, S, Nat.le_refl _, hS, hn, hp, fun j hj h => absurd h (by omega), fun j _ hj => ha j hj, hT, spf.rf m0⟩
  refine ⟨m1, n1, U, ?_, g2, g3, g4, fun j hj => g5 j hj (by omega), g8⟩
  unfold F_Po_splitParts X_Po_splitParts_e
  rw [hn]
  exact e
