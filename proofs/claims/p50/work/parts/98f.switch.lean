/-! boards on the heap: which one is meant, what is written into it -/
theorem cl_tab2 : (qm_rft.take 112).all (fun l => l.all (fun x => Nat.ble (x + 1) 112 || Nat.ble 1000000 x)) = true := by decide +kernel
theorem cl_rf2 {o : Nat} (ho : o < 112) (i : Nat) : qm_rf o i < 112 ∨ 1000000 ≤ qm_rf o i := by
  unfold qm_rf
  rw [qm_nth_eq, qm_nth_eq]
  cases h1 : qm_rft[o]? with
  | none => exact Or.inl (by simp)
  | some l =>
    show (l[i]?).getD 0 < 112 ∨ _
    have hm : (qm_rft.take 112)[o]? = some l := by rw [List.getElem?_take, if_pos ho]; exact h1
    cases h2 : l[i]? with
    | none => exact Or.inl (by show 0 < 112; omega)
    | some x =>
      have c := List.all_eq_true.mp (List.all_eq_true.mp cl_tab2 l (List.mem_of_getElem? hm)) x (List.mem_of_getElem? h2)
      rw [Bool.or_eq_true] at c
      show x < 112 ∨ 1000000 ≤ (l[i]?).getD 0
      rw [h2]
      show x < 112 ∨ 1000000 ≤ x
      rcases c with c | c
      · exact Or.inl (Nat.le_of_ble_eq_true c)
      · exact Or.inr (Nat.le_of_ble_eq_true c)
theorem cl_ra2 {o j a : Nat} (ho : o < 112) (h : qm_ra o j = some a) : a < 112 := by
  have h3 : a < 123 := cl_ra h
  unfold qm_ra at h
  have h116 : Nat.beq o 116 = false := by
    cases q : Nat.beq o 116 with
    | false => rfl
    | true => have := Nat.eq_of_beq_eq_true q; omega
  rw [h116] at h
  cases h5 : Nat.beq o 5 with
  | true =>
    rw [h5, cond_true] at h
    rcases cl_up h with q | h
    · omega
    rcases cl_up h with q | h
    · omega
    rcases cl_up h with q | h
    · omega
    rcases cl_up h with q | h
    · omega
    rcases cl_up h with q | h
    · omega
    rcases cl_up h with q | h
    · omega
    rcases cl_up h with q | h
    · omega
    rcases cl_up h with q | h
    · omega
    rcases cl_up h with q | h
    · omega
    rcases cl_up h with q | h
    · omega
    cases h
  | false =>
    rw [h5, cond_false] at h
    cases h36 : Nat.beq o 36 with
    | true =>
      rw [h36, cond_true] at h
      rcases cl_up h with q | h
      · omega
      rcases cl_up h with q | h
      · omega
      cases h
    | false =>
      rw [h36, cond_false] at h
      cases h79 : Nat.beq o 79 with
      | true =>
        rw [h79, cond_true] at h
        by_cases q : j < 16
        · rw [if_pos q] at h; cases h; omega
        · rw [if_neg q] at h; cases h
      | false =>
        rw [h79, cond_false] at h
        cases h96 : Nat.beq o 96 with
        | true =>
          rw [h96, cond_true] at h
          by_cases q : j < 8
          · rw [if_pos q] at h; cases h; omega
          · rw [if_neg q] at h; cases h
        | false => rw [h96, cond_false] at h; cases h
theorem cl_hp2 (m : qm_M) : rn_cl (fun k => k < 112) (qm_hp m) := by
  intro k c hk gk a ha h6
  have hk : k < 112 := hk
  rw [qm_hp_at] at gk
  cases h1 : qm_lay[k]? with
  | none => rw [h1] at gk; cases gk
  | some e =>
    rw [h1] at gk
    have gk : qm_cell m k e = c := Option.some.inj gk
    subst gk
    show a < 112
    have key : a < 112 ∨ 1000000 ≤ a := by
      unfold qm_cell at ha
      cases b1 : Nat.ble 100 e.1 with
      | true =>
        rw [b1, cond_true] at ha
        obtain ⟨j, hj⟩ := cl_fs m k _ 0 a ha
        rw [hj]
        exact cl_rf2 hk j
      | false =>
        rw [b1, cond_false] at ha
        cases b2 : Nat.beq e.1 1 with
        | true => rw [b2, cond_true] at ha; exact False.elim ha
        | false =>
          rw [b2, cond_false] at ha
          cases b3 : Nat.ble 4 e.1 with
          | true =>
            rw [b3, cond_true] at ha
            obtain ⟨j, hj⟩ := ha
            exact Or.inl (cl_ra2 hk hj)
          | false => rw [b3, cond_false] at ha; exact False.elim ha
    omega
/-- the class of one memory, the board of another -/
def mix (m mB : qm_M) : qm_M := (fun o => if o < 112 then m.1 o else mB.1 o, fun o => if o < 112 then m.2 o else mB.2 o)
theorem mix_l {m mB : qm_M} {o : Nat} (h : o < 112) : (mix m mB).1 o = m.1 o ∧ (mix m mB).2 o = m.2 o := ⟨if_pos h, if_pos h⟩
theorem mix_h {m mB : qm_M} {o : Nat} (h : 112 ≤ o) : (mix m mB).1 o = mB.1 o ∧ (mix m mB).2 o = mB.2 o := ⟨if_neg (by omega), if_neg (by omega)⟩
theorem mix_CI {m mB : qm_M} {s : sT} (h : CI m s) : CI (mix m mB) s := ⟨h.1.fr (fun a ha => (mix_l (by omega)).1) (fun a ha => (mix_l (by omega)).2), h.2.1.hi (fun a h1 h2 => (mix_l (by omega)).1), h.2.2⟩
theorem mix_bd {m mB : qm_M} {s : sT} (h : bd mB s) : bd (mix m mB) s := ⟨by rw [(mix_h (by omega)).1]; exact h.1, fun j hj => by rw [(mix_h (by omega)).1, (mix_h (by omega)).1]; exact h.2.1 j hj, fun r c hr hc => by rw [(mix_h (by omega)).1]; exact h.2.2 r c hr hc⟩
theorem bH_of {A : Nat → Nat} {m : qm_M} {H : pm_H} (hB : hbd' A m H) : bH A m H := by
  have g : ∀ k c, k < 123 → (qm_hp m)[k]? = some c → H[A k]? = some (rn_e A c) := fun k c hk gk => hB.2.1 k c hk gk
  have e : ∀ k t, qm_lay[k]? = some t → (qm_hp m)[k]? = some (qm_cell m k t) := fun k t h => by rw [qm_hp_at, h]; rfl
  refine ⟨g 112 _ (by omega) (e 112 (111, 0) rfl), g 113 _ (by omega) (e 113 (0, 2) rfl), g 114 _ (by omega) (e 114 (0, 2) rfl), g 115 _ (by omega) (e 115 (0, 2) rfl), ⟨fun j => (qm_ra 116 j).map A, g 116 _ (by omega) (e 116 (6, 6) rfl), fun r hr => ?_, fun r hr => ?_⟩, fun r hr => ?_⟩
  · show ((if r < 6 then some (116 + 1 + r) else none) : Option Nat).map A = _
    rw [if_pos hr]; rfl
  · show ((if r < 6 then some (116 + 1 + r) else none) : Option Nat).map A = _
    rw [if_neg (by omega)]; rfl
  · match r, hr with
    | 0, _ => exact g 117 _ (by omega) (e 117 (3, 6) rfl)
    | 1, _ => exact g 118 _ (by omega) (e 118 (3, 6) rfl)
    | 2, _ => exact g 119 _ (by omega) (e 119 (3, 6) rfl)
    | 3, _ => exact g 120 _ (by omega) (e 120 (3, 6) rfl)
    | 4, _ => exact g 121 _ (by omega) (e 121 (3, 6) rfl)
    | 5, _ => exact g 122 _ (by omega) (e 122 (3, 6) rfl)
    | r + 6, h => omega
theorem hbd_sw {A B : Nat → Nat} {m mB : qm_M} {H : pm_H} (hB : hbd' A m H) (hb : bH B mB H) (b1 : rn_ad B (fun k => k < 123)) (b2 : ∀ k, k < 112 → B k = k) : hbd' B (mix m mB) H := by
  refine ⟨b1, fun k c hk gk => ?_, b2⟩
  have hk : k < 123 := hk
  by_cases q : k < 112
  · have e : (qm_hp (mix m mB))[k]? = (qm_hp m)[k]? := by
      rw [qm_hp_at, qm_hp_at]
      congr 1
      funext t
      exact qm_cell_eq (mix_l q).1 (mix_l q).2
    rw [e] at gk
    have h1 := hB.2.1 k c (by show k < 123; omega) gk
    rw [hB.2.2 k q] at h1
    rw [b2 k q, h1]
    congr 1
    exact rn_e_c (fun a ha => by
      by_cases z : a < 1000000
      · have : a < 112 := cl_hp2 m k c q gk a ha z
        rw [hB.2.2 a this, b2 a this]
      · rw [hB.1.1 a (by omega), b1.1 a (by omega)])
  · obtain ⟨c0, c1, c2, c3, ⟨f, c4, c5, c6⟩, c7⟩ : _ ∧ _ ∧ _ ∧ _ ∧ (∃ f : Nat → Option Nat, _ ∧ _ ∧ _) ∧ _ := hb
    have e : ∀ t, qm_lay[k]? = some t → c = qm_cell (mix m mB) k t := fun t h => by
      rw [qm_hp_at, h] at gk
      exact (Option.some.inj gk).symm
    rcases (by omega : k = 112 ∨ k = 113 ∨ k = 114 ∨ k = 115 ∨ k = 116 ∨ k = 117 ∨ k = 118 ∨ k = 119 ∨ k = 120 ∨ k = 121 ∨ k = 122) with rfl | rfl | rfl | rfl | rfl | rfl | rfl | rfl | rfl | rfl | rfl
    · rw [e (111, 0) rfl]; exact c0
    · rw [e (0, 2) rfl]; exact c1
    · rw [e (0, 2) rfl]; exact c2
    · rw [e (0, 2) rfl]; exact c3
    · rw [e (6, 6) rfl]
      have ef : f = fun j => ((if j < 6 then some (116 + 1 + j) else none) : Option Nat).map B := by
        funext j
        by_cases z : j < 6
        · rw [c5 j z, if_pos z]; rfl
        · rw [c6 j (by omega), if_neg z]; rfl
      rw [ef] at c4
      exact c4
    · rw [e (3, 6) rfl]; exact c7 0 (by omega)
    · rw [e (3, 6) rfl]; exact c7 1 (by omega)
    · rw [e (3, 6) rfl]; exact c7 2 (by omega)
    · rw [e (3, 6) rfl]; exact c7 3 (by omega)
    · rw [e (3, 6) rfl]; exact c7 4 (by omega)
    · rw [e (3, 6) rfl]; exact c7 5 (by omega)
/-- where a new board lies, a copy -/
def iA (n k : Nat) : Nat := if k < 112 then k else if k < 123 then n + (k - 112) else k
def cA (n k : Nat) : Nat := if k < 112 then k else if k < 113 then n else if k < 116 then n + 11 + (k - 113) else if k < 117 then n + 4 else if k < 123 then n + 14 + (k - 117) else k
theorem iA_ad {n : Nat} (hn : 112 ≤ n) (h2 : n ≤ 90000) : rn_ad (iA n) (fun k => k < 123) ∧ ∀ k, k < 112 → iA n k = k := by
  refine ⟨⟨fun k hk => ?_, fun j k hj hk e => ?_⟩, fun k hk => if_pos hk⟩
  · unfold iA; rw [if_neg (by omega), if_neg (by omega)]
  · have hj : j < 123 := hj
    have hk : k < 123 := hk
    unfold iA at e
    rw [if_pos hj, if_pos hk] at e
    by_cases q1 : j < 112
    · rw [if_pos q1] at e
      by_cases q2 : k < 112
      · rw [if_pos q2] at e; exact e
      · rw [if_neg q2] at e; omega
    · rw [if_neg q1] at e
      by_cases q2 : k < 112
      · rw [if_pos q2] at e; omega
      · rw [if_neg q2] at e; omega
theorem cA_lo {n k : Nat} (h : k < 112) : cA n k = k := if_pos h
theorem cA_hi {n k : Nat} (h : 112 ≤ k) (h2 : k < 123) : n ≤ cA n k ∧ cA n k < n + 20 := by
  unfold cA
  rw [if_neg (by omega)]
  by_cases q1 : k < 113
  · rw [if_pos q1]; omega
  · rw [if_neg q1]
    by_cases q2 : k < 116
    · rw [if_pos q2]; omega
    · rw [if_neg q2]
      by_cases q3 : k < 117
      · rw [if_pos q3]; omega
      · rw [if_neg q3, if_pos h2]; omega
theorem cA_inj : (List.range 11).all (fun i => (List.range 11).all (fun j => !(Nat.beq (cA 1000 (112 + i)) (cA 1000 (112 + j))) || Nat.beq i j)) = true := by decide +kernel
theorem cA_sh {n k : Nat} (h : 112 ≤ k) (h2 : k < 123) : cA n k + 1000 = cA 1000 k + n := by
  have q0 : ¬ k < 112 := by omega
  unfold cA
  rw [if_neg q0, if_neg q0]
  by_cases q1 : k < 113
  · rw [if_pos q1, if_pos q1]; omega
  · rw [if_neg q1, if_neg q1]
    by_cases q2 : k < 116
    · rw [if_pos q2, if_pos q2]; omega
    · rw [if_neg q2, if_neg q2]
      by_cases q3 : k < 117
      · rw [if_pos q3, if_pos q3]; omega
      · rw [if_neg q3, if_pos h2, if_neg q3, if_pos h2]; omega
theorem cA_ad {n : Nat} (hn : 112 ≤ n) (h2 : n ≤ 90000) : rn_ad (cA n) (fun k => k < 123) ∧ ∀ k, k < 112 → cA n k = k := by
  refine ⟨⟨fun k hk => ?_, fun j k hj hk e => ?_⟩, fun k hk => if_pos hk⟩
  · unfold cA; rw [if_neg (by omega), if_neg (by omega), if_neg (by omega), if_neg (by omega), if_neg (by omega)]
  · have hj : j < 123 := hj
    have hk : k < 123 := hk
    by_cases q1 : j < 112
    · by_cases q2 : k < 112
      · rw [cA_lo q1, cA_lo q2] at e; exact e
      · rw [cA_lo q1] at e
        have := cA_hi (n := n) (show 112 ≤ k by omega) hk
        omega
    · by_cases q2 : k < 112
      · rw [cA_lo q2] at e
        have := cA_hi (n := n) (show 112 ≤ j by omega) hj
        omega
      · have e1 := cA_sh (n := n) (show 112 ≤ j by omega) hj
        have e2 := cA_sh (n := n) (show 112 ≤ k by omega) hk
        have c := List.all_eq_true.mp (List.all_eq_true.mp cA_inj (j - 112) (List.mem_range.mpr (by omega))) (k - 112) (List.mem_range.mpr (by omega))
        rw [show 112 + (j - 112) = j by omega, show 112 + (k - 112) = k by omega, show cA 1000 j = cA 1000 k by omega] at c
        rw [Nat.beq_refl] at c
        have := Nat.eq_of_beq_eq_true (show Nat.beq (j - 112) (k - 112) = true from c)
        omega
/-- what a new board holds -/
def mI : qm_M := (fun o => if o = 113 then upd (upd (fun _ => 0) 0 3) 1 3 else if o = 115 then upd (upd (fun _ => 0) 0 2) 1 2 else fun _ => 0, fun _ _ => 0)
theorem bH_new (H : pm_H) : bH (iA H.length) mI (H ++ bI H.length) := by
  refine ⟨ap_g H _ 0, ap_g H _ 1, ap_g H _ 2, ap_g H _ 3, ⟨_, ap_g H _ 4, fun r hr => ?_, fun r hr => if_neg (by omega)⟩, fun r hr => ?_⟩
  · rw [if_pos hr]
    have : iA H.length (117 + r) = H.length + 4 + 1 + r := by
      unfold iA; rw [if_neg (by omega), if_pos (by omega)]; omega
    rw [this]
  · match r, hr with
    | 0, _ => exact ap_g H _ 5
    | 1, _ => exact ap_g H _ 6
    | 2, _ => exact ap_g H _ 7
    | 3, _ => exact ap_g H _ 8
    | 4, _ => exact ap_g H _ 9
    | 5, _ => exact ap_g H _ 10
    | r + 6, h => omega
theorem bH_copy (H : pm_H) (m : qm_M) : bH (cA H.length) m (H ++ bC' H.length m) := by
  refine ⟨ap_g H _ 0, ap_g H _ 11, ap_g H _ 12, ap_g H _ 13, ⟨_, ap_g H _ 4, fun r hr => ?_, fun r hr => ?_⟩, fun r hr => ?_⟩
  · match r, hr with
    | 0, _ => rfl
    | 1, _ => rfl
    | 2, _ => rfl
    | 3, _ => rfl
    | 4, _ => rfl
    | 5, _ => rfl
    | r + 6, h => omega
  · rw [va_up_ne _ _ (by omega), va_up_ne _ _ (by omega), va_up_ne _ _ (by omega), va_up_ne _ _ (by omega), va_up_ne _ _ (by omega), va_up_ne _ _ (by omega), if_neg (by omega)]
  · match r, hr with
    | 0, _ => exact ap_g H _ 14
    | 1, _ => exact ap_g H _ 15
    | 2, _ => exact ap_g H _ 16
    | 3, _ => exact ap_g H _ 17
    | 4, _ => exact ap_g H _ 18
    | 5, _ => exact ap_g H _ 19
    | r + 6, h => omega
/-! writing into the board -/
theorem hbd_set {A : Nat → Nat} {m : qm_M} {H : pm_H} (hB : hbd' A m H) {o t n : Nat} (ho : 112 ≤ o ∧ o < 123) (hl : qm_lay[o]? = some (t, n)) (ht : t = 0 ∨ t = 3) (j : Nat) (x : Int32) :
    H[A o]? = some (.inl (t, (n, .inl (m.1 o)))) ∧ hbd' A (qm_sI m o j x) (H.set (A o) (.inl (t, (n, .inl (upd (m.1 o) j x))))) ∧ rn_T A (fun k => k < 123) H (H.set (A o) (.inl (t, (n, .inl (upd (m.1 o) j x))))) := by
  have e1 : ∀ m : qm_M, qm_cell m o (t, n) = .inl (t, (n, .inl (m.1 o))) := fun m => by rcases ht with rfl | rfl <;> rfl
  have e2 : (qm_hp m)[o]? = some (.inl (t, (n, .inl (m.1 o)))) := by rw [qm_hp_at, hl]; exact congrArg some (e1 m)
  have e3 : (qm_sI m o j x).1 o = upd (m.1 o) j x := by
    funext i
    rw [me_1I, if_pos rfl]
    rfl
  obtain ⟨r1, r2⟩ := rn_set (L := fun k => k < 123) (h := qm_hp m) (H := H) (o := o) (c0 := .inl (t, (n, .inl (m.1 o)))) (c := .inl (t, (n, .inl (upd (m.1 o) j x)))) hB.1 hB.2.1 ho.2 e2 rfl
  have e4 := qm_hp_set (m := m) (m1 := qm_sI m o j x) hl (fun a ha => ⟨(qm_sI_other a ha).1, rfl⟩)
  rw [e1, e3] at e4
  rw [e4] at r1
  exact ⟨hB.2.1 o _ ho.2 e2, ⟨hB.1, r1, hB.2.2⟩, r2⟩
