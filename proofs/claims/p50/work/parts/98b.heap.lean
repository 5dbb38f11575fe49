/-! the machine's heap behind the class: cells of the law's own -/
theorem ap_g (H X : pm_H) (i : Nat) : (H ++ X)[H.length + i]? = X[i]? := by
  rw [List.getElem?_append_right (by omega), Nat.add_sub_cancel_left]
theorem ap_l (H X : pm_H) {a : Nat} (h : a < H.length) : (H ++ X)[a]? = H[a]? := List.getElem?_append_left h
theorem ap_lt {H : pm_H} {a : Nat} {c : va_E} (h : H[a]? = some c) : a < H.length := (List.getElem?_eq_some_iff.mp h).1
theorem ap_k {H : pm_H} (X : pm_H) {a : Nat} {c : va_E} (h : H[a]? = some c) : (H ++ X)[a]? = some c := by rw [ap_l H X (ap_lt h)]; exact h
theorem ap_s (H X : pm_H) (i : Nat) (c : va_E) : (H ++ X).set (H.length + i) c = H ++ X.set i c := by
  rw [List.set_append_right _ _ (by omega), Nat.add_sub_cancel_left]
theorem sl_app (X : pm_H) : ∀ H : pm_H, pm_sl (H ++ X) = pm_sl H + pm_sl X
  | [] => by simp [pm_sl]
  | c :: r => by
    show pm_sz c + pm_sl (r ++ X) = pm_sz c + pm_sl r + pm_sl X
    rw [sl_app X r, Nat.add_assoc]
/-! the number machine's heap is closed -/
theorem cl_tab : qm_rft.all (fun l => l.all (fun x => Nat.ble (x + 1) 123 || Nat.ble 1000000 x)) = true := by decide +kernel
theorem cl_rf (o i : Nat) : qm_rf o i < 123 ∨ 1000000 ≤ qm_rf o i := by
  unfold qm_rf
  rw [qm_nth_eq, qm_nth_eq]
  cases h1 : qm_rft[o]? with
  | none => exact Or.inl (by simp)
  | some l =>
    show (l[i]?).getD 0 < 123 ∨ _
    cases h2 : l[i]? with
    | none => exact Or.inl (by show 0 < 123; omega)
    | some x =>
      have c := List.all_eq_true.mp (List.all_eq_true.mp cl_tab l (List.mem_of_getElem? h1)) x (List.mem_of_getElem? h2)
      rw [Bool.or_eq_true] at c
      show x < 123 ∨ 1000000 ≤ (l[i]?).getD 0
      rw [h2]
      show x < 123 ∨ 1000000 ≤ x
      rcases c with c | c
      · exact Or.inl (Nat.le_of_ble_eq_true c)
      · exact Or.inr (Nat.le_of_ble_eq_true c)
theorem cl_up {f : Nat → Option Nat} {j v k a : Nat} (h : va_up f j (some v) k = some a) : a = v ∨ f k = some a := by
  unfold va_up at h
  by_cases q : k = j
  · rw [if_pos q] at h; cases h; exact Or.inl rfl
  · rw [if_neg q] at h; exact Or.inr h
theorem cl_ra {o j a : Nat} (h : qm_ra o j = some a) : a < 123 := by
  unfold qm_ra at h
  cases h5 : Nat.beq o 5 with
  | true =>
    rw [h5, cond_true] at h
    rcases cl_up h with q | h
    · omega
    rcases cl_up h with q | h
    · omega
    rcases cl_up h with q | h
    · omega
    rcases cl_up h with q | h
    · omega
    rcases cl_up h with q | h
    · omega
    rcases cl_up h with q | h
    · omega
    rcases cl_up h with q | h
    · omega
    rcases cl_up h with q | h
    · omega
    rcases cl_up h with q | h
    · omega
    rcases cl_up h with q | h
    · omega
    cases h
  | false =>
    rw [h5, cond_false] at h
    cases h36 : Nat.beq o 36 with
    | true =>
      rw [h36, cond_true] at h
      rcases cl_up h with q | h
      · omega
      rcases cl_up h with q | h
      · omega
      cases h
    | false =>
      rw [h36, cond_false] at h
      cases h79 : Nat.beq o 79 with
      | true =>
        rw [h79, cond_true] at h
        by_cases q : j < 16
        · rw [if_pos q] at h; cases h; omega
        · rw [if_neg q] at h; cases h
      | false =>
        rw [h79, cond_false] at h
        cases h96 : Nat.beq o 96 with
        | true =>
          rw [h96, cond_true] at h
          by_cases q : j < 8
          · rw [if_pos q] at h; cases h; omega
          · rw [if_neg q] at h; cases h
        | false =>
          rw [h96, cond_false] at h
          cases h116 : Nat.beq o 116 with
          | true =>
            rw [h116, cond_true] at h
            by_cases q : j < 6
            · rw [if_pos q] at h; cases h; omega
            · rw [if_neg q] at h; cases h
          | false => rw [h116, cond_false] at h; cases h
theorem cl_fs (m : qm_M) (o : Nat) : ∀ (l : List Nat) (i : Nat) (a : Nat), Value.ref a ∈ qm_fs m o l i → ∃ j, a = qm_rf o j
  | [], i, a, h => by cases h
  | k :: r, i, a, h => by
    have h1 : Value.ref a = qm_fv m o i k ∨ Value.ref a ∈ qm_fs m o r (i + 1) := List.mem_cons.mp h
    rcases h1 with h1 | h1
    · unfold qm_fv at h1
      split at h1
      · cases h1
      · cases h1
      · cases h1; exact ⟨i, rfl⟩
    · exact cl_fs m o r (i + 1) a h1
theorem cl_hp (m : qm_M) {n : Nat} (hn : 123 ≤ n) : rn_cl (fun k => k < n) (qm_hp m) := by
  intro k c hk gk a ha h6
  rw [qm_hp_at] at gk
  cases h1 : qm_lay[k]? with
  | none => rw [h1] at gk; cases gk
  | some e =>
    rw [h1] at gk
    have gk : qm_cell m k e = c := Option.some.inj gk
    subst gk
    show a < n
    have key : a < 123 ∨ 1000000 ≤ a := by
      unfold qm_cell at ha
      cases b1 : Nat.ble 100 e.1 with
      | true =>
        rw [b1, cond_true] at ha
        obtain ⟨j, hj⟩ := cl_fs m k _ 0 a ha
        rw [hj]
        exact cl_rf k j
      | false =>
        rw [b1, cond_false] at ha
        cases b2 : Nat.beq e.1 1 with
        | true => rw [b2, cond_true] at ha; exact False.elim ha
        | false =>
          rw [b2, cond_false] at ha
          cases b3 : Nat.ble 4 e.1 with
          | true =>
            rw [b3, cond_true] at ha
            obtain ⟨j, hj⟩ := ha
            exact Or.inl (cl_ra hj)
          | false => rw [b3, cond_false] at ha; exact False.elim ha
    omega
def qm_szc (e : Nat × Nat) : Nat := bif Nat.ble 100 e.1 then (qm_ks (e.1 - 100)).length else e.2
theorem qm_sz_cell (m : qm_M) (o : Nat) (e : Nat × Nat) : pm_sz (qm_cell m o e) = qm_szc e := by
  unfold qm_cell qm_szc
  cases h1 : Nat.ble 100 e.1 with
  | true => exact qm_fs_len m o _ 0
  | false =>
    cases h2 : Nat.beq e.1 1 with
    | true => rfl
    | false =>
      cases h3 : Nat.ble 4 e.1 with
      | true => rfl
      | false => rfl
theorem qm_hpl_sl (m : qm_M) : ∀ (l : List (Nat × Nat)) (o : Nat), pm_sl (qm_hpl m l o) = (l.map qm_szc).sum
  | [], o => rfl
  | e :: r, o => by
    simp only [qm_hpl, pm_sl, qm_sz_cell, qm_hpl_sl m r, List.map_cons, List.sum_cons]
theorem qm_hpl_len (m : qm_M) : ∀ (l : List (Nat × Nat)) (o : Nat), (qm_hpl m l o).length = l.length
  | [], o => rfl
  | e :: r, o => by simp only [qm_hpl, List.length_cons, qm_hpl_len m r]
theorem qm_hp_len (m : qm_M) : (qm_hp m).length = 124 := by
  unfold qm_hp
  rw [qm_hpl_len]
  decide +kernel
theorem rn_e_c {A B : Nat → Nat} {c : va_E} (h : ∀ a, rn_rf c a → A a = B a) : rn_e A c = rn_e B c := by
  obtain ⟨t, n, f | f | f | f | f⟩ | x := c
  · rfl
  · rfl
  · rfl
  · rfl
  · show (Sum.inl (t, (n, Sum.inr (Sum.inr (Sum.inr (Sum.inr (fun j => (f j).map A)))))) : va_E) = Sum.inl (t, (n, Sum.inr (Sum.inr (Sum.inr (Sum.inr (fun j => (f j).map B))))))
    have e : (fun j => (f j).map A) = fun j => (f j).map B := by
      funext j
      cases hj : f j with
      | none => rfl
      | some a => show some (A a) = some (B a); rw [h a ⟨j, hj⟩]
    rw [e]
  · show Sum.inr (x.1, x.2.map (rn_v A)) = Sum.inr (x.1, x.2.map (rn_v B))
    congr 2
    apply List.map_congr_left
    intro v hv
    cases v with
    | ref a => show Value.ref _ = Value.ref _; rw [h a hv]
    | _ => rfl
/-- class and board, the board's cells wherever they lie -/
def hbd' (A : Nat → Nat) (m : qm_M) (H : pm_H) : Prop := rn_ad A (fun k => k < 123) ∧ rn_R A (fun k => k < 123) (qm_hp m) H ∧ ∀ k, k < 112 → A k = k
theorem ge_use {kp : pm_K} {d k knd ci ret : Nat} {f : qe_F} (g : qe_GE kp d (k, knd, ci, ret, f)) {as : List Value} {m m1 : qm_M} {r : Option Value} (h : f as m = some (r, m1)) : pm_X kp d k as (qm_hp m) r (qm_hp m1) ∧ pm_mal k = false := ⟨g.2.2.2.2 as m (r, m1) h, g.1⟩
theorem hb_call {kp : pm_K} {A : Nat → Nat} {m m1 : qm_M} {H : pm_H} (hB : hbd' A m H) {d k : Nat} {as : List Value} {r : Option Value} (hx : pm_X kp d k as (qm_hp m) r (qm_hp m1) ∧ pm_mal k = false) (has : ∀ v ∈ as, rn_ok (fun k => k < 123) v) :
    ∃ H1, hbd' A m1 H1 ∧ rn_T A (fun k => k < 123) H H1 ∧ pm_X kp d k (as.map (rn_v A)) H (r.map (rn_v A)) H1 := by
  obtain ⟨H1, ⟨o1, o2, o3, o4, o5⟩, w⟩ := rn_X d k as (qm_hp m) r (qm_hp m1) hx.1 hx.2 A (fun k => k < 123) hB.1 (by rw [qm_hp_len]; omega) has (cl_hp m (Nat.le_refl _)) H hB.2.1
  exact ⟨H1, ⟨hB.1, o1, hB.2.2⟩, o4, w⟩
/-- the given words -/
def wg (i : Nat) : Nat → Int32 := fun j => (pm_wds.getD i []).getD j 0
def wL (i : Nat) : Nat := (pm_wds.getD i []).length
theorem wd_of (kp : pm_K) {i : Nat} (hi : i < 9) : wd kp (1000010 + i) (wL i) (wg i) := by
  match i, hi with
  | 0, _ => exact ⟨by omega, by omega, rfl, rfl, rfl, by decide⟩
  | 1, _ => exact ⟨by omega, by omega, rfl, rfl, rfl, by decide⟩
  | 2, _ => exact ⟨by omega, by omega, rfl, rfl, rfl, by decide⟩
  | 3, _ => exact ⟨by omega, by omega, rfl, rfl, rfl, by decide⟩
  | 4, _ => exact ⟨by omega, by omega, rfl, rfl, rfl, by decide⟩
  | 5, _ => exact ⟨by omega, by omega, rfl, rfl, rfl, by decide⟩
  | 6, _ => exact ⟨by omega, by omega, rfl, rfl, rfl, by decide⟩
  | 7, _ => exact ⟨by omega, by omega, rfl, rfl, rfl, by decide⟩
  | 8, _ => exact ⟨by omega, by omega, rfl, rfl, rfl, by decide⟩
  | i + 9, h => omega
/-! the builder, wherever it lies -/
def sbd (Wa V : Nat) (c : Int32) (f : Nat → Int32) (H : pm_H) : Prop := H[Wa]? = some (.inr (12, [.ref V, .int 0, .int 0, .int c])) ∧ H[V]? = some (.inl (2, (120, .inl f))) ∧ Wa ≠ V
def sba (Wa V : Nat) (k : Nat) : Nat := if k = 0 then Wa else if k = 1 then V else k
theorem sb_call {kp : pm_K} {Wa V : Nat} {c c1 : Int32} {f f1 : Nat → Int32} {H : pm_H} (hB : sbd Wa V c f H) {d k : Nat} {as : List Value} {r : Option Value} (hx : pm_X kp d k as (jbH c f) r (jbH c1 f1)) (hm : pm_mal k = false) (has : ∀ v ∈ as, rn_ok (fun k => k < 2) v) :
    ∃ H1, sbd Wa V c1 f1 H1 ∧ rn_T (sba Wa V) (fun k => k < 2) H H1 ∧ pm_X kp d k (as.map (rn_v (sba Wa V))) H (r.map (rn_v (sba Wa V))) H1 := by
  have hA : rn_ad (sba Wa V) (fun k => k < 2) := ⟨fun k hk => by unfold sba; rw [if_neg (by omega), if_neg (by omega)], fun j k hj hk e => by
    have hj : j < 2 := hj
    have hk : k < 2 := hk
    unfold sba at e
    rcases (by omega : j = 0 ∨ j = 1) with rfl | rfl <;> rcases (by omega : k = 0 ∨ k = 1) with rfl | rfl
    · rfl
    · exact absurd e hB.2.2
    · exact absurd e.symm hB.2.2
    · rfl⟩
  have hcl : rn_cl (fun k => k < 2) (jbH c f) := fun k c' hk gk a ha h6 => by
    have hk : k < 2 := hk
    show a < 2
    rcases (by omega : k = 0 ∨ k = 1) with rfl | rfl
    · cases gk
      have ha : Value.ref a ∈ [Value.ref 1, .int 0, .int 0, .int c] := ha
      simp at ha
      rw [ha]
      exact (by decide : (1 : Nat) < 2)
    · cases gk
      exact False.elim ha
  have hR : rn_R (sba Wa V) (fun k => k < 2) (jbH c f) H := fun k c' hk gk => by
    have hk : k < 2 := hk
    rcases (by omega : k = 0 ∨ k = 1) with rfl | rfl
    · cases gk
      exact hB.1
    · cases gk
      exact hB.2.1
  obtain ⟨H1, ⟨o1, o2, o3, o4, o5⟩, w⟩ := rn_X d k as (jbH c f) r (jbH c1 f1) hx hm (sba Wa V) (fun k => k < 2) hA (by show 2 ≤ 1000000; omega) has hcl H hR
  exact ⟨H1, ⟨o1 0 _ (by show 0 < 2; omega) rfl, o1 1 _ (by show 1 < 2; omega) rfl, hB.2.2⟩, o4, w⟩
