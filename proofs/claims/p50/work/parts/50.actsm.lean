/-! the model's state; undone, kept, back -/
theorem qe_rI_e {α : Type} (v : Int32) (m : qm_M) (k : Int32 → qm_M → Option α) : qe_rI (some (some (.int v), m)) k = k v m := rfl
theorem qe_rL_e {α : Type} (v : Int64) (m : qm_M) (k : Int64 → qm_M → Option α) : qe_rL (some (some (.long v), m)) k = k v m := rfl
theorem qe_rV_e {α : Type} (m : qm_M) (k : qm_M → Option α) : qe_rV (some (none, m)) k = k m := rfl
theorem qe_b_e {α : Type} (x : Option α) : qe_b true x = x := rfl
def ms_now (m : qm_M) (P : sP) : Prop := ∀ k, k < 33 → m.2 113 k = P k
def ms_past (m : qm_M) (h : Nat × (Nat → sP)) : Prop := m.1 112 2 = nI h.1 ∧ ∀ i, i < h.1 → ∀ k, k < 33 → m.2 114 (33 * i + k) = h.2 i k
def ms_shelf (m : qm_M) (h : (Nat → Bool) × (Nat → sP)) : Prop := ∀ z, z < 2 → (m.1 116 z = if h.1 z then 1 else 0) ∧ (h.1 z = true → ∀ k, k < 33 → m.2 115 (33 * z + k) = h.2 z k)
def ms_tape (m : qm_M) (h : Nat × (Nat → Int32)) : Prop := m.1 112 24 = nI h.1 ∧ ∀ k, k < h.1 → m.1 129 k = h.2 k
def ms (m : qm_M) (s : sT) : Prop := (nt_ok 64 m ∧ np_ok m) ∧ ms_now m s.1 ∧ ms_past m s.2.1 ∧ ms_shelf m s.2.2.1 ∧ ms_tape m s.2.2.2
/-- cells ahead of the model's stay -/
def lo_fr (m m1 : qm_M) : Prop := (∀ a, a < 112 → m1.1 a = m.1 a) ∧ ∀ a, a < 112 → m1.2 a = m.2 a
theorem lo_fr.rf (m : qm_M) : lo_fr m m := ⟨fun _ _ => rfl, fun _ _ => rfl⟩
/-- the model's other cells: those of its state are as they were -/
theorem ms.fr {m m1 : qm_M} {s : sT} (h : ms m s) (h2 : m1.1 112 2 = m.1 112 2) (h24 : m1.1 112 24 = m.1 112 24) (h116 : m1.1 116 = m.1 116) (h129 : m1.1 129 = m.1 129) (hL : ∀ a, 113 ≤ a → a ≤ 118 → m1.2 a = m.2 a) : ms m1 s := by
  obtain ⟨⟨a1, a2⟩, a3, ⟨a4, a5⟩, a6, ⟨a7, a8⟩⟩ := h
  refine ⟨⟨fun a b ha hb => ?_, fun k hk => ?_⟩, fun k hk => ?_, ⟨by rw [h2]; exact a4, fun i hi k hk => ?_⟩, fun z hz => ?_, by rw [h24]; exact a7, fun k hk => ?_⟩
  · rw [hL 117 (by omega) (by omega)]; exact a1 a b ha hb
  · rw [hL 118 (by omega) (by omega)]; exact a2 k hk
  · rw [hL 113 (by omega) (by omega)]; exact a3 k hk
  · rw [hL 114 (by omega) (by omega)]; exact a5 i hi k hk
  · rw [h116, hL 115 (by omega) (by omega)]; exact a6 z hz
  · rw [h129]; exact a8 k hk
/-- only the position is another one -/
theorem ms.now {m m1 : qm_M} {s : sT} (h : ms m s) (h1 : m1.1 = m.1) (h2 : ∀ a, a ≠ 113 → m1.2 a = m.2 a) {P : sP} (hP : ms_now m1 P) : ms m1 (P, s.2) := by
  obtain ⟨⟨a1, a2⟩, a3, ⟨a4, a5⟩, a6, ⟨a7, a8⟩⟩ := h
  refine ⟨⟨fun a b ha hb => ?_, fun k hk => ?_⟩, hP, ⟨by rw [h1]; exact a4, fun i hi k hk => ?_⟩, fun z hz => ?_, by rw [h1]; exact a7, fun k hk => ?_⟩
  · rw [h2 117 (by omega)]; exact a1 a b ha hb
  · rw [h2 118 (by omega)]; exact a2 k hk
  · rw [h2 114 (by omega)]; exact a5 i hi k hk
  · rw [h1, h2 115 (by omega)]; exact a6 z hz
  · rw [h1]; exact a8 k hk
