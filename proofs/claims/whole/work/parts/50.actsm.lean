/-! the model's state; undone, kept, back -/
theorem qe_rI_e {α : Type} (v : Int32) (m : qm_M) (k : Int32 → qm_M → Option α) : qe_rI (some (some (.int v), m)) k = k v m := rfl
theorem qe_rL_e {α : Type} (v : Int64) (m : qm_M) (k : Int64 → qm_M → Option α) : qe_rL (some (some (.long v), m)) k = k v m := rfl
theorem qe_rV_e {α : Type} (m : qm_M) (k : qm_M → Option α) : qe_rV (some (none, m)) k = k m := rfl
theorem qe_b_e {α : Type} (x : Option α) : qe_b true x = x := rfl
def ms_now (m : qm_M) (P : sP) : Prop := ∀ k, k < 33 → m.2 113 k = P k
def ms_past (m : qm_M) (h : Nat × (Nat → sP)) : Prop := m.1 112 2 = nI h.1 ∧ ∀ i, i < h.1 → ∀ k, k < 33 → m.2 114 (33 * i + k) = h.2 i k
def ms_shelf (m : qm_M) (h : (Nat → Bool) × (Nat → sP)) : Prop := ∀ z, z < 2 → (m.1 116 z = if h.1 z then 1 else 0) ∧ (h.1 z = true → ∀ k, k < 33 → m.2 115 (33 * z + k) = h.2 z k)
def ms_tape (m : qm_M) (h : Nat × (Nat → Int32)) : Prop := m.1 112 24 = nI h.1 ∧ ∀ k, k < h.1 → m.1 129 k = h.2 k
def ms (m : qm_M) (s : sT) : Prop := (nt_ok 64 m ∧ np_ok m) ∧ ms_now m s.1 ∧ ms_past m s.2.1 ∧ ms_shelf m s.2.2.1 ∧ ms_tape m s.2.2.2
/-- cells ahead of the model's stay -/
def lo_fr (m m1 : qm_M) : Prop := (∀ a, a < 112 → m1.1 a = m.1 a) ∧ ∀ a, a < 112 → m1.2 a = m.2 a
theorem lo_fr.tr {m m1 m2 : qm_M} (h : lo_fr m m1) (g : lo_fr m1 m2) : lo_fr m m2 := ⟨fun a q => (g.1 a q).trans (h.1 a q), fun a q => (g.2 a q).trans (h.2 a q)⟩
theorem lo_fr.rf (m : qm_M) : lo_fr m m := ⟨fun _ _ => rfl, fun _ _ => rfl⟩
theorem lo_fr.I (m : qm_M) {o j : Nat} {x : Int32} (ho : 112 ≤ o) : lo_fr m (qm_sI m o j x) := ⟨fun a q => (qm_sI_other a (by omega)).1, fun _ _ => rfl⟩
theorem lo_fr.L (m : qm_M) {o j : Nat} {x : Int64} (ho : 112 ≤ o) : lo_fr m (qm_sL m o j x) := ⟨fun _ _ => rfl, fun a q => (qm_sL_other a (by omega)).2⟩
/-- cells of the model's stay -/
def up_fr (m m1 : qm_M) : Prop := (∀ a, 112 ≤ a → m1.1 a = m.1 a) ∧ ∀ a, 112 ≤ a → m1.2 a = m.2 a
/-- the model's other cells: those of its state are as they were -/
theorem ms.fr {m m1 : qm_M} {s : sT} (h : ms m s) (h2 : m1.1 112 2 = m.1 112 2) (h24 : m1.1 112 24 = m.1 112 24) (h116 : m1.1 116 = m.1 116) (h129 : m1.1 129 = m.1 129) (hL : ∀ a, 113 ≤ a → a ≤ 118 → m1.2 a = m.2 a) : ms m1 s := by
  obtain ⟨⟨a1, a2⟩, a3, ⟨a4, a5⟩, a6, ⟨a7, a8⟩⟩ := h
  refine ⟨⟨fun a b ha hb => ?_, fun k hk => ?_⟩, fun k hk => ?_, ⟨by rw [h2]; exact a4, fun i hi k hk => ?_⟩, fun z hz => ?_, by rw [h24]; exact a7, fun k hk => ?_⟩
  · rw [hL 117 (by omega) (by omega)]; exact a1 a b ha hb
  · rw [hL 118 (by omega) (by omega)]; exact a2 k hk
  · rw [hL 113 (by omega) (by omega)]; exact a3 k hk
  · rw [hL 114 (by omega) (by omega)]; exact a5 i hi k hk
  · rw [h116, hL 115 (by omega) (by omega)]; exact a6 z hz
  · rw [h129]; exact a8 k hk
theorem ms.up {m m1 : qm_M} {s : sT} (h : ms m s) (g : up_fr m m1) : ms m1 s := h.fr (by rw [g.1 112 (by omega)]) (by rw [g.1 112 (by omega)]) (g.1 116 (by omega)) (g.1 129 (by omega)) (fun a h1 _ => g.2 a (by omega))
/-- scratch of the model alone -/
theorem ms_sc {m m1 : qm_M} {s : sT} {S T : Nat → Prop} (h : ms m s) (g : fr S T m m1) (hS : ∀ a, S a → a ≠ 112 ∧ a ≠ 116 ∧ a ≠ 129) (hT : ∀ a, T a → 118 < a ∨ a < 113) : ms m1 s :=
  h.fr (by rw [g.1 112 (fun q => (hS _ q).1 rfl)]) (by rw [g.1 112 (fun q => (hS _ q).1 rfl)]) (g.1 116 (fun q => (hS _ q).2.1 rfl)) (g.1 129 (fun q => (hS _ q).2.2 rfl)) (fun a h1 h2 => g.2 a (fun q => by have := hT a q; omega))
theorem fr.lo {m m1 : qm_M} {S T : Nat → Prop} (g : fr S T m m1) (hS : ∀ a, S a → 112 ≤ a) (hT : ∀ a, T a → 112 ≤ a) : lo_fr m m1 := ⟨fun a q => g.1 a (fun z => by have := hS a z; omega), fun a q => g.2 a (fun z => by have := hT a z; omega)⟩
theorem fr.up2 {m m1 : qm_M} {S T : Nat → Prop} (g : fr S T m m1) (hS : ∀ a, S a → a < 112) (hT : ∀ a, T a → a < 112) : up_fr m m1 := ⟨fun a q => g.1 a (fun z => by have := hS a z; omega), fun a q => g.2 a (fun z => by have := hT a z; omega)⟩
theorem hi_fr.up {m m1 : qm_M} (h : hi_fr m m1) : up_fr m m1 := ⟨fun a q => h.1 a (by omega), fun a q => h.2 a (by omega)⟩
theorem mt_heads {m : qm_M} {P : sP} (h : ms_now m P) : F_M_heads m = some (some (.int (sH P)), m) := by
  unfold F_M_heads X_M_heads_e
  rw [mt_size, h 6 (by omega)]
  rfl
theorem nI_33 (k : Nat) : (33 : Int32) * nI k = nI (33 * k) := pk_mul 33 k
/-- one more act in the row of those kept -/
theorem mt_keeps52 {m0 : qm_M} {u : Nat} (hu : u < 10) (hm : m0.1 112 2 = nI u) (d : Nat) : ∀ (f k : Nat) (m : qm_M), 33 - k = d → k ≤ 33 → d < f → m.1 = m0.1 → (∀ a, a ≠ 114 → m.2 a = m0.2 a) → (∀ i, m.2 114 i = if 33 * u ≤ i ∧ i < 33 * u + k then m0.2 113 (i - 33 * u) else m0.2 114 i) →
    ∃ m1, L_M_keepsAct_52 f (nI k) m = some (none, m1) ∧ m1.1 = (qm_sI m0 112 2 (nI (u + 1))).1 ∧ (∀ a, a ≠ 114 → m1.2 a = m0.2 a) ∧ (∀ i, m1.2 114 i = if 33 * u ≤ i ∧ i < 33 * u + 33 then m0.2 113 (i - 33 * u) else m0.2 114 i) := by
  induction d with
  | zero =>
    intro f k m h1 h2 h3 q1 q2 q3
    obtain ⟨f, rfl⟩ : ∃ g, f = g + 1 := ⟨f - 1, by omega⟩
    have e : k = 33 := by omega
    subst e
    refine ⟨qm_sI m 112 2 (nI (u + 1)), ?_, ?_, q2, q3⟩
    · show X_M_keepsAct_52 _ _ _ = _
      unfold X_M_keepsAct_52
      rw [if_neg (by decide), q1, hm, nI_1]
    · funext a i
      rw [me_1I, me_1I, q1]
  | succ d ih =>
    intro f k m h1 h2 h3 q1 q2 q3
    obtain ⟨f, rfl⟩ : ∃ g, f = g + 1 := ⟨f - 1, by omega⟩
    obtain ⟨m1, r1, r2⟩ := ih f (k + 1) (qm_sL m 114 (33 * u + k) (m.2 113 k)) (by omega) (by omega) (by omega) q1 (fun a ha => by rw [(qm_sL_other a ha).2]; exact q2 a ha) (fun i => by
      rw [me_2L, if_pos rfl, q3]
      by_cases e : i = 33 * u + k
      · rw [if_pos e, if_pos (by omega), e, Nat.add_sub_cancel_left, q2 113 (by omega)]
      · rw [if_neg e]
        by_cases z : 33 * u ≤ i ∧ i < 33 * u + k
        · rw [if_pos z, if_pos (by omega)]
        · rw [if_neg z, if_neg (by omega)])
    refine ⟨m1, ?_, r2⟩
    show X_M_keepsAct_52 _ _ _ = _
    unfold X_M_keepsAct_52
    have e1 : nI k < (33 : Int32) := nI_lt (a := k) (b := 33) (by omega) (by omega)
    rw [if_pos e1, q1, hm, nI_33, nI_add, qm_in_nI (by omega) (by omega), qm_in_nI (by omega) (by omega), nI_clamp (by omega), nI_clamp (by omega), nI_1]
    exact r1
theorem mt_keeps12 {m0 : qm_M} (hm : m0.1 112 2 = nI 10) (d : Nat) : ∀ (f k : Nat) (m : qm_M), 330 - k = d → 33 ≤ k → k ≤ 330 → d < f → m.1 = m0.1 → (∀ a, a ≠ 114 → m.2 a = m0.2 a) → (∀ i, m.2 114 i = if i < k - 33 then m0.2 114 (i + 33) else m0.2 114 i) →
    ∃ m1, L_M_keepsAct_12 f (nI k) m = some (none, m1) ∧ m1.1 = (qm_sI m0 112 2 (nI 10)).1 ∧ (∀ a, a ≠ 114 → m1.2 a = m0.2 a) ∧ (∀ i, i < 330 → m1.2 114 i = if 297 ≤ i then m0.2 113 (i - 297) else m0.2 114 (i + 33)) := by
  induction d with
  | zero =>
    intro f k m h1 h0 h2 h3 q1 q2 q3
    obtain ⟨f, rfl⟩ : ∃ g, f = g + 1 := ⟨f - 1, by omega⟩
    have e : k = 330 := by omega
    subst e
    obtain ⟨m1, r1, r2, r3, r4⟩ := mt_keeps52 (m0 := qm_sI m 112 2 (nI 9)) (u := 9) (by omega) (by rw [me_1I, if_pos rfl, if_pos rfl]) 33 1000000 0 (qm_sI m 112 2 (nI 9)) rfl (by omega) (by omega) rfl (fun a _ => rfl) (fun i => by rw [if_neg (by omega)])
    refine ⟨m1, ?_, ?_, fun a ha => ?_, fun i hi => ?_⟩
    · show X_M_keepsAct_12 _ _ _ _ = _
      unfold X_M_keepsAct_12
      have e9 : nI 10 - 1 = nI 9 := rfl
      rw [if_neg (by decide), q1, hm, e9]
      exact r1
    · rw [r2]
      funext a i
      rw [me_1I, me_1I, me_1I, q1]
      by_cases ha : a = 112
      · rw [if_pos ha, if_pos ha, if_pos ha]
        by_cases hi : i = 2
        · rw [if_pos hi, if_pos hi]
        · rw [if_neg hi, if_neg hi, if_neg hi]
      · rw [if_neg ha, if_neg ha, if_neg ha]
    · rw [r3 a ha, me_2I, q2 a ha]
    · rw [r4, me_2I, q2 113 (by omega), q3]
      by_cases z : 297 ≤ i
      · rw [if_pos (by omega), if_pos z]
      · rw [if_neg (by omega), if_pos (by omega), if_neg z]
  | succ d ih =>
    intro f k m h1 h0 h2 h3 q1 q2 q3
    obtain ⟨f, rfl⟩ : ∃ g, f = g + 1 := ⟨f - 1, by omega⟩
    obtain ⟨m1, r1, r2⟩ := ih f (k + 1) (qm_sL m 114 (k - 33) (m.2 114 k)) (by omega) (by omega) (by omega) (by omega) q1 (fun a ha => by rw [(qm_sL_other a ha).2]; exact q2 a ha) (fun i => by
      rw [me_2L, if_pos rfl, q3 i, q3 k]
      by_cases e : i = k - 33
      · rw [if_pos e, if_neg (by omega), if_pos (by omega), e, show k - 33 + 33 = k by omega]
      · rw [if_neg e]
        by_cases z : i < k - 33
        · rw [if_pos z, if_pos (by omega)]
        · rw [if_neg z, if_neg (by omega)])
    refine ⟨m1, ?_, r2⟩
    show X_M_keepsAct_12 _ _ _ _ = _
    unfold X_M_keepsAct_12
    have e1 : nI k < (330 : Int32) := nI_lt (a := k) (b := 330) (by omega) (by omega)
    have e3 : nI k - 33 = nI (k - 33) := pk_sub (a := k) (b := 33) (by omega)
    rw [if_pos e1, e3, qm_in_nI (by omega) (by omega), qm_in_nI (by omega) (by omega), nI_clamp (by omega), nI_clamp (by omega), nI_1]
    exact r1
/-- an act is kept by the model -/
theorem mt_keepsAct {m : qm_M} {s : sT} (h : ms m s) (hd : s.2.1.1 ≤ 10) : ∃ m1, F_M_keepsAct m = some (none, m1) ∧ ms m1 (s.1, st_past s.1 s.2.1, s.2.2) ∧ m1.1 = (qm_sI m 112 2 (nI (st_past s.1 s.2.1).1)).1 ∧ ∀ a, a ≠ 114 → m1.2 a = m.2 a := by
  obtain ⟨a1, a3, ⟨a4, a5⟩, a6, a7⟩ := id h
  have fin : ∀ m1 : qm_M, m1.1 = (qm_sI m 112 2 (nI (st_past s.1 s.2.1).1)).1 → (∀ a, a ≠ 114 → m1.2 a = m.2 a) → (∀ i, i < (st_past s.1 s.2.1).1 → ∀ k, k < 33 → m1.2 114 (33 * i + k) = (st_past s.1 s.2.1).2 i k) → ms m1 (s.1, st_past s.1 s.2.1, s.2.2) := by
    intro m1 e1 e2 e3
    refine ⟨⟨fun a b ha hb => ?_, fun k hk => ?_⟩, fun k hk => ?_, ⟨?_, e3⟩, fun z hz => ?_, ?_, fun k hk => ?_⟩
    · rw [e2 117 (by omega)]; exact a1.1 a b ha hb
    · rw [e2 118 (by omega)]; exact a1.2 k hk
    · rw [e2 113 (by omega)]; exact a3 k hk
    · rw [e1, me_1I, if_pos rfl, if_pos rfl]
    · rw [e1, e2 115 (by omega), me_1I, if_neg (by omega)]; exact a6 z hz
    · rw [e1, me_1I, if_pos rfl, if_neg (by omega)]; exact a7.1
    · rw [e1, me_1I, if_neg (by omega)]; exact a7.2 k hk
  unfold F_M_keepsAct X_M_keepsAct_e
  rw [a4]
  by_cases q : s.2.1.1 < 10
  · have e1 : ¬ nI s.2.1.1 = 10 := fun z => by
      have := (nI_eq (a := s.2.1.1) (b := 10) (by omega) (by omega)).mp z
      omega
    obtain ⟨m1, r1, r2, r3, r4⟩ := mt_keeps52 q a4 33 1000000 0 m rfl (by omega) (by omega) rfl (fun a _ => rfl) (fun i => by rw [if_neg (by omega)])
    have ep : st_past s.1 s.2.1 = (s.2.1.1 + 1, fun i => if i = s.2.1.1 then s.1 else s.2.1.2 i) := by unfold st_past; rw [if_pos q]
    have r2' : m1.1 = (qm_sI m 112 2 (nI (st_past s.1 s.2.1).1)).1 := by rw [ep]; exact r2
    rw [if_neg e1]
    refine ⟨m1, r1, fin m1 r2' r3 (fun i hi k hk => ?_), r2', r3⟩
    rw [ep] at hi ⊢
    dsimp only at hi ⊢
    rw [r4]
    by_cases e : i = s.2.1.1
    · rw [if_pos e, if_pos (by omega), e, Nat.add_sub_cancel_left]
      exact a3 k hk
    · rw [if_neg e, if_neg (by omega)]
      exact a5 i (by omega) k hk
  · have hd10 : s.2.1.1 = 10 := by omega
    have e1 : nI s.2.1.1 = 10 := by rw [hd10]; rfl
    obtain ⟨m1, r1, r2, r3, r4⟩ := mt_keeps12 (m0 := m) (by rw [a4, hd10]) 297 1000000 33 m rfl (by omega) (by omega) (by omega) rfl (fun a _ => rfl) (fun i => by rw [if_neg (by omega)])
    have ep : st_past s.1 s.2.1 = (10, fun i => if i = 9 then s.1 else s.2.1.2 (i + 1)) := by unfold st_past; rw [if_neg q]
    have r2' : m1.1 = (qm_sI m 112 2 (nI (st_past s.1 s.2.1).1)).1 := by rw [ep]; exact r2
    rw [if_pos e1]
    refine ⟨m1, r1, fin m1 r2' r3 (fun i hi k hk => ?_), r2', r3⟩
    rw [ep] at hi ⊢
    dsimp only at hi ⊢
    rw [r4 _ (by omega)]
    by_cases e : i = 9
    · rw [if_pos e, if_pos (by omega), e, show 33 * 9 + k - 297 = k by omega]
      exact a3 k hk
    · rw [if_neg e, if_neg (by omega), show 33 * i + k + 33 = 33 * (i + 1) + k by omega]
      exact a5 (i + 1) (by omega) k hk
theorem mt_keepsAct_lo {m m1 : qm_M} {x : Int32} (h1 : m1.1 = (qm_sI m 112 2 x).1) (h2 : ∀ a, a ≠ 114 → m1.2 a = m.2 a) : lo_fr m m1 := ⟨fun a q => by rw [h1]; exact (qm_sI_other a (by omega)).1, fun a q => h2 a (by omega)⟩
/-- only the position is another one -/
theorem ms.now {m m1 : qm_M} {s : sT} (h : ms m s) (h1 : m1.1 = m.1) (h2 : ∀ a, a ≠ 113 → m1.2 a = m.2 a) {P : sP} (hP : ms_now m1 P) : ms m1 (P, s.2) := by
  obtain ⟨⟨a1, a2⟩, a3, ⟨a4, a5⟩, a6, ⟨a7, a8⟩⟩ := h
  refine ⟨⟨fun a b ha hb => ?_, fun k hk => ?_⟩, hP, ⟨by rw [h1]; exact a4, fun i hi k hk => ?_⟩, fun z hz => ?_, by rw [h1]; exact a7, fun k hk => ?_⟩
  · rw [h2 117 (by omega)]; exact a1 a b ha hb
  · rw [h2 118 (by omega)]; exact a2 k hk
  · rw [h2 114 (by omega)]; exact a5 i hi k hk
  · rw [h1, h2 115 (by omega)]; exact a6 z hz
  · rw [h1]; exact a8 k hk
theorem mt_undo21 {m0 : qm_M} {u : Nat} (hu : u < 10) (hm : m0.1 112 2 = nI u) (d : Nat) : ∀ (f k : Nat) (m : qm_M), 33 - k = d → k ≤ 33 → d < f → m.1 = m0.1 → (∀ a, a ≠ 113 → m.2 a = m0.2 a) → (∀ i, i < k → m.2 113 i = m0.2 114 (33 * u + i)) →
    ∃ m1, L_M_undo_21 f (nI k) m = some (some (.int (nI u)), m1) ∧ m1.1 = m0.1 ∧ (∀ a, a ≠ 113 → m1.2 a = m0.2 a) ∧ (∀ i, i < 33 → m1.2 113 i = m0.2 114 (33 * u + i)) := by
  induction d with
  | zero =>
    intro f k m h1 h2 h3 q1 q2 q3
    obtain ⟨f, rfl⟩ : ∃ g, f = g + 1 := ⟨f - 1, by omega⟩
    have e : k = 33 := by omega
    subst e
    refine ⟨m, ?_, q1, q2, q3⟩
    show X_M_undo_21 _ _ _ = _
    unfold X_M_undo_21
    rw [if_neg (by decide), q1, hm]
  | succ d ih =>
    intro f k m h1 h2 h3 q1 q2 q3
    obtain ⟨f, rfl⟩ : ∃ g, f = g + 1 := ⟨f - 1, by omega⟩
    obtain ⟨m1, r1, r2⟩ := ih f (k + 1) (qm_sL m 113 k (m.2 114 (33 * u + k))) (by omega) (by omega) (by omega) q1 (fun a ha => by rw [(qm_sL_other a ha).2]; exact q2 a ha) (fun i hi => by
      rw [me_2L, if_pos rfl, q2 114 (by omega)]
      by_cases e : i = k
      · rw [if_pos e, e]
      · rw [if_neg e]; exact q3 i (by omega))
    refine ⟨m1, ?_, r2⟩
    show X_M_undo_21 _ _ _ = _
    unfold X_M_undo_21
    have e1 : nI k < (33 : Int32) := nI_lt (a := k) (b := 33) (by omega) (by omega)
    rw [if_pos e1, q1, hm, nI_33, nI_add, qm_in_nI (by omega) (by omega), qm_in_nI (by omega) (by omega), nI_clamp (by omega), nI_clamp (by omega), nI_1]
    exact r1
theorem mw_undo {m : qm_M} {s : sT} (h : ms m s) (g : gd s) : ∃ m1, F_M_undo m = some (some (.int (if s.2.1.1 = 0 then -1 else nI (s.2.1.1 - 1))), m1) ∧ ms m1 (if s.2.1.1 = 0 then s else st_undo s) ∧ lo_fr m m1 := by
  unfold F_M_undo X_M_undo_e
  obtain ⟨a1, a3, ⟨a4, a5⟩, a6, a7⟩ := id h
  have hd := g.2.1
  rw [a4]
  by_cases q : s.2.1.1 = 0
  · rw [q, if_pos (by rfl), if_pos rfl, if_pos rfl]
    exact ⟨m, rfl, h, lo_fr.rf m⟩
  · have e5 : nI s.2.1.1 - 1 = nI (s.2.1.1 - 1) := pk_sub (a := s.2.1.1) (b := 1) (by omega)
    obtain ⟨m1, r1, r2, r3, r4⟩ := mt_undo21 (m0 := qm_sI m 112 2 (nI (s.2.1.1 - 1))) (u := s.2.1.1 - 1) (by omega) (by rw [me_1I, if_pos rfl, if_pos rfl]) 33 1000000 0 _ rfl (by omega) (by omega) rfl (fun a _ => rfl) (fun i hi => absurd hi (Nat.not_lt_zero _))
    rw [if_neg (nI_ne0 (by omega) (by omega)), if_neg q, if_neg q, e5]
    refine ⟨m1, r1, ⟨⟨fun a b ha hb => ?_, fun k hk => ?_⟩, fun k hk => ?_, ⟨?_, fun i hi k hk => ?_⟩, fun z hz => ?_, ?_, fun k hk => ?_⟩, ⟨fun a q => by rw [r2]; exact (qm_sI_other a (by omega)).1, fun a q => by rw [r3 a (by omega)]; rfl⟩⟩
    · rw [r3 117 (by omega)]; exact a1.1 a b ha hb
    · rw [r3 118 (by omega)]; exact a1.2 k hk
    · rw [r4 k hk]; exact a5 _ (by omega) k hk
    · rw [r2, me_1I, if_pos rfl, if_pos rfl]; rfl
    · rw [r3 114 (by omega)]; exact a5 i (by have : i < s.2.1.1 - 1 := hi; omega) k hk
    · rw [r2, r3 115 (by omega), me_1I, if_neg (by omega)]; exact a6 z hz
    · rw [r2, me_1I, if_pos rfl, if_neg (by omega)]; exact a7.1
    · rw [r2, me_1I, if_neg (by omega)]; exact a7.2 k hk
theorem mt_isShelf1 {z : Nat} (hz : z < 2) (m : qm_M) : F_M_isShelf (nI z) m = some (some (.int 1), m) := by
  unfold F_M_isShelf X_M_isShelf_e
  have ei := mt_isInI (nI z) 0 1 m
  rw [show (0 : Int32).toInt64 = 0 from rfl, show (1 : Int32).toInt64 = 1 from rfl] at ei
  have e1 : ¬ (1 : Int32) < nI z := nI_nlt (a := 1) (b := z) (by omega) (by omega)
  rw [ei, if_neg (nI_pos (by omega)), if_neg e1]
  rfl
theorem mt_isShelf0 {v : Int32} (h : v < 0 ∨ ¬ v < 2) (m : qm_M) : F_M_isShelf v m = some (some (.int 0), m) := by
  unfold F_M_isShelf X_M_isShelf_e
  have ei := mt_isInI v 0 1 m
  rw [show (0 : Int32).toInt64 = 0 from rfl, show (1 : Int32).toInt64 = 1 from rfl] at ei
  rw [ei]
  by_cases h1 : v < 0
  · rw [if_pos h1]; rfl
  · have h2 := h.resolve_left h1
    have h3 : (1 : Int32) < v := by
      obtain ⟨j, hj, rfl⟩ := nw_ex v h1
      refine nI_lt (a := 1) (b := j) ?_ hj
      by_cases q : 1 < j
      · exact q
      · exact absurd (nI_lt (a := j) (b := 2) (by omega) (by omega)) h2
    rw [if_neg h1, if_pos h3]; rfl
theorem mt_keep11 {m0 : qm_M} {s : sT} (h : ms m0 s) {z : Nat} (hz : z < 2) (d : Nat) : ∀ (f k : Nat) (m : qm_M), 33 - k = d → k ≤ 33 → d < f → m.1 = m0.1 → (∀ a, a ≠ 115 → m.2 a = m0.2 a) → (∀ i, m.2 115 i = if 33 * z ≤ i ∧ i < 33 * z + k then m0.2 113 (i - 33 * z) else m0.2 115 i) →
    ∃ m1, L_M_keep_11 f (nI z) (nI k) m = some (some (.int (sH s.1)), m1) ∧ m1.1 = (qm_sI m0 116 z 1).1 ∧ (∀ a, a ≠ 115 → m1.2 a = m0.2 a) ∧ (∀ i, m1.2 115 i = if 33 * z ≤ i ∧ i < 33 * z + 33 then m0.2 113 (i - 33 * z) else m0.2 115 i) := by
  induction d with
  | zero =>
    intro f k m h1 h2 h3 q1 q2 q3
    obtain ⟨f, rfl⟩ : ∃ g, f = g + 1 := ⟨f - 1, by omega⟩
    have e : k = 33 := by omega
    subst e
    refine ⟨qm_sI m 116 z 1, ?_, ?_, q2, q3⟩
    · show X_M_keep_11 _ _ _ _ _ _ = _
      unfold X_M_keep_11
      have hn : ms_now (qm_sI m 116 z ((1 : Int32) &&& 1)) s.1 := fun k hk => by rw [me_2I, q2 113 (by omega)]; exact h.2.1 k hk
      rw [if_neg (by decide), qm_in_nI hz (by omega), nI_clamp (by omega)]
      dsimp only [qe_b, cond_true]
      rw [mt_heads hn]
      rfl
    · funext a i
      rw [me_1I, me_1I, q1]
  | succ d ih =>
    intro f k m h1 h2 h3 q1 q2 q3
    obtain ⟨f, rfl⟩ : ∃ g, f = g + 1 := ⟨f - 1, by omega⟩
    obtain ⟨m1, r1, r2⟩ := ih f (k + 1) (qm_sL m 115 (33 * z + k) (m.2 113 k)) (by omega) (by omega) (by omega) q1 (fun a ha => by rw [(qm_sL_other a ha).2]; exact q2 a ha) (fun i => by
      rw [me_2L, if_pos rfl, q3]
      by_cases e : i = 33 * z + k
      · rw [if_pos e, if_pos (by omega), e, Nat.add_sub_cancel_left, q2 113 (by omega)]
      · rw [if_neg e]
        by_cases y : 33 * z ≤ i ∧ i < 33 * z + k
        · rw [if_pos y, if_pos (by omega)]
        · rw [if_neg y, if_neg (by omega)])
    refine ⟨m1, ?_, r2⟩
    show X_M_keep_11 _ _ _ _ _ _ = _
    unfold X_M_keep_11
    have e1 : nI k < (33 : Int32) := nI_lt (a := k) (b := 33) (by omega) (by omega)
    rw [if_pos e1, nI_33, nI_add, qm_in_nI (by omega) (by omega), qm_in_nI (by omega) (by omega), nI_clamp (by omega), nI_clamp (by omega), nI_1]
    exact r1
theorem mw_keep {m : qm_M} {s : sT} (h : ms m s) {z : Nat} (hz : z < 2) : ∃ m1, F_M_keep (nI z) m = some (some (.int (sH s.1)), m1) ∧ ms m1 (st_keep s z) ∧ lo_fr m m1 := by
  obtain ⟨m1, r1, r2, r3, r4⟩ := mt_keep11 h hz 33 1000000 0 m rfl (by omega) (by omega) rfl (fun a _ => rfl) (fun i => by rw [if_neg (by omega)])
  obtain ⟨a1, a3, ⟨a4, a5⟩, a6, a7⟩ := h
  refine ⟨m1, ?_, ⟨⟨fun a b ha hb => ?_, fun k hk => ?_⟩, fun k hk => ?_, ⟨?_, fun i hi k hk => ?_⟩, fun w hw => ?_, ?_, fun k hk => ?_⟩, ⟨fun a q => by rw [r2]; exact (qm_sI_other a (by omega)).1, fun a q => r3 a (by omega)⟩⟩
  · unfold F_M_keep X_M_keep_e
    rw [mt_isShelf1 hz, qe_rI_e, if_neg (by decide)]
    exact r1
  · rw [r3 117 (by omega)]; exact a1.1 a b ha hb
  · rw [r3 118 (by omega)]; exact a1.2 k hk
  · rw [r3 113 (by omega)]; exact a3 k hk
  · rw [r2, me_1I, if_neg (by omega)]; exact a4
  · rw [r3 114 (by omega)]; exact a5 i hi k hk
  · show m1.1 116 w = (if (if w = z then true else s.2.2.1.1 w) = true then 1 else 0) ∧ ((if w = z then true else s.2.2.1.1 w) = true → ∀ k, k < 33 → m1.2 115 (33 * w + k) = (if w = z then s.1 else s.2.2.1.2 w) k)
    rw [r2, me_1I, if_pos rfl]
    by_cases e : w = z
    · rw [if_pos e, if_pos e, e, if_pos rfl, if_pos rfl]
      refine ⟨rfl, fun _ k hk => ?_⟩
      rw [r4, if_pos (by omega), Nat.add_sub_cancel_left]
      exact a3 k hk
    · rw [if_neg e, if_neg e, if_neg e]
      refine ⟨(a6 w hw).1, fun q k hk => ?_⟩
      rw [r4, if_neg (by omega)]
      exact (a6 w hw).2 q k hk
  · rw [r2, me_1I, if_neg (by omega)]; exact a7.1
  · rw [r2, me_1I, if_neg (by omega)]; exact a7.2 k hk
theorem mw_keep0 {v : Int32} (h : v < 0 ∨ ¬ v < 2) (m : qm_M) : F_M_keep v m = some (some (.int (-1)), m) := by
  unfold F_M_keep X_M_keep_e
  rw [mt_isShelf0 h]
  rfl
theorem mt_back27 {m0 : qm_M} {z : Nat} (hz : z < 2) {P : sP} (hP : ∀ k, k < 33 → m0.2 115 (33 * z + k) = P k) (d : Nat) : ∀ (f k : Nat) (m : qm_M), 33 - k = d → k ≤ 33 → d < f → m.1 = m0.1 → (∀ a, a ≠ 113 → m.2 a = m0.2 a) → (∀ i, i < k → m.2 113 i = P i) →
    ∃ m1, L_M_back_27 f (nI z) (nI k) m = some (some (.int (sH P)), m1) ∧ m1.1 = m0.1 ∧ (∀ a, a ≠ 113 → m1.2 a = m0.2 a) ∧ ms_now m1 P := by
  induction d with
  | zero =>
    intro f k m h1 h2 h3 q1 q2 q3
    obtain ⟨f, rfl⟩ : ∃ g, f = g + 1 := ⟨f - 1, by omega⟩
    have e : k = 33 := by omega
    subst e
    refine ⟨m, ?_, q1, q2, q3⟩
    show X_M_back_27 _ _ _ _ _ _ _ = _
    unfold X_M_back_27
    rw [if_neg (by decide), mt_heads q3]
    rfl
  | succ d ih =>
    intro f k m h1 h2 h3 q1 q2 q3
    obtain ⟨f, rfl⟩ : ∃ g, f = g + 1 := ⟨f - 1, by omega⟩
    obtain ⟨m1, r1, r2⟩ := ih f (k + 1) (qm_sL m 113 k (m.2 115 (33 * z + k))) (by omega) (by omega) (by omega) q1 (fun a ha => by rw [(qm_sL_other a ha).2]; exact q2 a ha) (fun i hi => by
      rw [me_2L, if_pos rfl, q2 115 (by omega)]
      by_cases e : i = k
      · rw [if_pos e, e]; exact hP k (by omega)
      · rw [if_neg e]; exact q3 i (by omega))
    refine ⟨m1, ?_, r2⟩
    show X_M_back_27 _ _ _ _ _ _ _ = _
    unfold X_M_back_27
    have e1 : nI k < (33 : Int32) := nI_lt (a := k) (b := 33) (by omega) (by omega)
    rw [if_pos e1, nI_33, nI_add, qm_in_nI (by omega) (by omega), qm_in_nI (by omega) (by omega), nI_clamp (by omega), nI_clamp (by omega), nI_1]
    exact r1
theorem mw_back {m : qm_M} {s : sT} (h : ms m s) (g : gd s) {z : Nat} (hz : z < 2) : ∃ m1, F_M_back (nI z) m = some (some (.int (if s.2.2.1.1 z = true then sH (s.2.2.1.2 z) else -2)), m1) ∧ ms m1 (if s.2.2.1.1 z = true then st_act s (s.2.2.1.2 z) else s) ∧ lo_fr m m1 := by
  have a6 := h.2.2.2.1 z hz
  unfold F_M_back X_M_back_e
  rw [mt_isShelf1 hz]
  dsimp only [qe_rI]
  rw [if_neg (by decide), qm_in_nI hz (by omega), nI_clamp (by omega), a6.1]
  dsimp only [qe_b, cond_true]
  by_cases q : s.2.2.1.1 z = true
  · obtain ⟨m1, p1, p2, p3, p4⟩ := mt_keepsAct h g.2.1
    obtain ⟨m2, r1, r2, r3, r4⟩ := mt_back27 hz (P := s.2.2.1.2 z) (fun k hk => (p2.2.2.2.1 z hz).2 q k hk) 33 1000000 0 m1 rfl (by omega) (by omega) rfl (fun a _ => rfl) (fun i hi => absurd hi (Nat.not_lt_zero _))
    rw [if_pos q, if_neg (by decide), p1, if_pos q, if_pos q]
    exact ⟨m2, r1, p2.now r2 r3 r4, (mt_keepsAct_lo p3 p4).tr ⟨fun a _ => by rw [r2], fun a ha => r3 a (by omega)⟩⟩
  · rw [if_neg q, if_pos rfl, if_neg q, if_neg q]
    exact ⟨m, rfl, h, lo_fr.rf m⟩
theorem mw_back0 {v : Int32} (h : v < 0 ∨ ¬ v < 2) (m : qm_M) : F_M_back v m = some (some (.int (-1)), m) := by
  unfold F_M_back X_M_back_e
  rw [mt_isShelf0 h]
  rfl
