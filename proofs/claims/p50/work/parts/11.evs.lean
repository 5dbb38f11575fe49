/-! SOUNDNESS of the machine over numbers -/
def qe_V (kp : pm_K) (md : pm_M) (d : Nat) (x : qm_R) (pc : Nat) (lv : pm_L) (st : List Value) (m : qm_M) : Prop := pm_W kp md (pm_X kp d) (qm_hp x.2).length (pm_sl (qm_hp x.2)) (fun r h => r = x.1 ∧ h = qm_hp x.2) pc lv st (qm_hp m)
def qe_GE (kp : pm_K) (d : Nat) (e : Nat × Nat × Nat × Nat × qe_F) : Prop := pm_mal e.1 = false ∧ (e.2.1 = 1 → pm_knd e.1 1) ∧ (e.2.1 = 0 → pm_knd e.1 0 ∧ pm_mci e.1 = some e.2.2.1) ∧ (e.2.1 = 3 → pm_knd e.1 0 ∧ pm_mst e.1 = true) ∧
  ∀ as m x, e.2.2.2.2 as m = some x → pm_X kp d e.1 as (qm_hp m) x.1 (qm_hp x.2)
def qe_G (kp : pm_K) (d : Nat) (T : qe_T) : Prop := ∀ e ∈ T, qe_GE kp d e
/-- what E answers, the method answers from here on -/
def qe_J (kp : pm_K) (md : pm_M) (d : Nat) (E : Option qm_R) (pc : Nat) (lv : pm_L) (st : List Value) (m : qm_M) : Prop := ∀ x, E = some x → qe_V kp md d x pc lv st m
def qe_KG (kp : pm_K) (md : pm_M) (d : Nat) (K : qe_K) : Prop := ∀ pc lv st m, qe_J kp md d (K pc lv st m) pc lv st m
theorem qe_b_some {α : Type} {b : Bool} {e : Option α} {x : α} (h : qe_b b e = some x) : b = true ∧ e = some x := by
  cases b with
  | true => exact ⟨rfl, h⟩
  | false => cases h
theorem qe_get_some {α : Type} : ∀ {l : pm_L} {k : Nat} {c : Value → Option α} {x : α}, qe_get l k c = some x → ∃ (j : Nat) (v : Value), l[j]? = some (k, v) ∧ c v = some x
  | [], k, c, x, h => by cases h
  | q :: r, k, c, x, h => by
    unfold qe_get at h
    cases hb : Nat.beq q.1 k with
    | true =>
      rw [hb] at h
      have e := Nat.eq_of_beq_eq_true hb
      subst e
      exact ⟨0, q.2, rfl, h⟩
    | false =>
      rw [hb] at h
      obtain ⟨j, v, h1, h2⟩ := qe_get_some h
      exact ⟨j + 1, v, h1, h2⟩
theorem qe_flt_eq {α : Type} (p : Nat × Value → Bool) : ∀ (l : pm_L) (c : pm_L → Option α), qe_flt p l c = c (l.filter p)
  | [], c => rfl
  | q :: r, c => by
    unfold qe_flt
    cases hp : p q with
    | true => simp [hp, qe_flt_eq p r]
    | false => simp [hp, qe_flt_eq p r]
theorem pm_flt_eq (p : Nat × Value → Bool) : ∀ (l : pm_L) (c : pm_L → Option pm_L), pm_flt p l c = c (l.filter p)
  | [], c => rfl
  | q :: r, c => by
    unfold pm_flt
    cases hp : p q with
    | true => simp [hp, pm_flt_eq p r]
    | false => simp [hp, pm_flt_eq p r]
theorem qe_sto_some {α : Type} {k : Nat} {v : Value} {l : pm_L} {c : pm_L → Option α} {x : α} (h : qe_sto k v l c = some x) : ∃ l1, pm_sto k v l = some l1 ∧ c l1 = some x := by
  unfold qe_sto at h
  unfold pm_sto
  split at h
  · rw [qe_flt_eq] at h; exact ⟨_, by dsimp only; rw [pm_flt_eq], h⟩
  · rw [qe_flt_eq] at h; exact ⟨_, by dsimp only; rw [pm_flt_eq], h⟩
  · rw [qe_flt_eq] at h; exact ⟨_, by dsimp only; rw [pm_flt_eq], h⟩
  · cases h
theorem qe_spl_some {α : Type} : ∀ {n : Nat} {st acc : List Value} {c : List Value → List Value → Option α} {x : α}, qe_spl n st acc c = some x → ∃ as rest, pm_spl n st acc = some (as, rest) ∧ c as rest = some x
  | 0, st, acc, c, x, h => ⟨acc, st, rfl, h⟩
  | n + 1, [], acc, c, x, h => by cases h
  | n + 1, v :: st, acc, c, x, h => qe_spl_some (n := n) (st := st) h
theorem qe_look_mem : ∀ {T : qe_T} {k : Nat} {q : Nat × Nat × Nat × qe_F}, qe_look T k = some q → (k, q) ∈ T
  | [], k, q, h => by cases h
  | e :: r, k, q, h => by
    unfold qe_look at h
    cases hb : Nat.beq e.1 k with
    | true =>
      rw [hb] at h
      have e1 := Nat.eq_of_beq_eq_true hb
      cases h
      subst e1
      exact List.mem_cons_self
    | false =>
      rw [hb] at h
      exact List.mem_cons_of_mem _ (qe_look_mem h)
theorem qe_pick_some {α : Type} : ∀ {ks : List Nat} {l : pm_L} {c : List Value → Option α} {x : α}, qe_pick ks l c = some x → ∃ vs, c vs = some x ∧ ∀ q ∈ qe_zip ks vs, q ∈ l
  | [], l, c, x, h => ⟨[], h, fun q hq => absurd hq List.not_mem_nil⟩
  | k :: ks, l, c, x, h => by
    obtain ⟨j, v, h1, h2⟩ := qe_get_some (show qe_get l k (fun v => qe_pick ks l (fun vs => c (v :: vs))) = some x from h)
    obtain ⟨vs, h3, h4⟩ := qe_pick_some h2
    refine ⟨v :: vs, h3, fun q hq => ?_⟩
    rcases List.mem_cons.mp (show q ∈ (k, v) :: qe_zip ks vs from hq) with e | e
    · rw [e]; exact List.mem_of_getElem? h1
    · exact h4 q e
theorem qe_pck : ∀ (l1 l : pm_L) (c : pm_L → Option pm_L), (∀ q ∈ l1, q ∈ l) → ∃ js, pm_pck l js c = c l1
  | [], l, c, h => ⟨[], rfl⟩
  | q :: r, l, c, h => by
    obtain ⟨j, hj⟩ := List.getElem?_of_mem (h q List.mem_cons_self)
    obtain ⟨js, h1⟩ := qe_pck r l (fun t => c (q :: t)) (fun x hx => h x (List.mem_cons_of_mem _ hx))
    refine ⟨j :: js, ?_⟩
    unfold pm_pck
    rw [hj]
    exact h1
theorem qe_if_some {α : Type} {c : Jvm.ClassFile.Cond} {x y : Int32} {A B : Option α} {z : α} (h : qe_if c x y A B = some z) : (pm_cnd c x y → A = some z) ∧ (¬ pm_cnd c x y → B = some z) := by
  cases c
  · unfold qe_if at h
    dsimp only at h
    by_cases q : x = y
    · rw [if_pos q] at h; exact ⟨fun _ => h, fun n => absurd q n⟩
    · rw [if_neg q] at h; exact ⟨fun p => absurd p q, fun _ => h⟩
  · unfold qe_if at h
    dsimp only at h
    by_cases q : x = y
    · rw [if_pos q] at h; exact ⟨fun p => absurd q p, fun _ => h⟩
    · rw [if_neg q] at h; exact ⟨fun _ => h, fun n => absurd q n⟩
  · unfold qe_if at h
    dsimp only at h
    by_cases q : x < y
    · rw [if_pos q] at h; exact ⟨fun _ => h, fun n => absurd q n⟩
    · rw [if_neg q] at h; exact ⟨fun p => absurd p q, fun _ => h⟩
  · unfold qe_if at h
    dsimp only at h
    by_cases q : x < y
    · rw [if_pos q] at h; exact ⟨fun p => absurd q (Int32.not_lt.mpr p), fun _ => h⟩
    · rw [if_neg q] at h; exact ⟨fun _ => h, fun n => absurd (Int32.not_lt.mp q) n⟩
  · unfold qe_if at h
    dsimp only at h
    by_cases q : y < x
    · rw [if_pos q] at h; exact ⟨fun _ => h, fun n => absurd q n⟩
    · rw [if_neg q] at h; exact ⟨fun p => absurd p q, fun _ => h⟩
  · unfold qe_if at h
    dsimp only at h
    by_cases q : y < x
    · rw [if_pos q] at h; exact ⟨fun p => absurd q (Int32.not_lt.mpr p), fun _ => h⟩
    · rw [if_neg q] at h; exact ⟨fun _ => h, fun n => absurd (Int32.not_lt.mp q) n⟩
theorem qe_tsw_some {α : Type} {x : Int32} {K : Nat → Option α} {pc d : Nat} {z : α} : ∀ {l : List Int} {v : Int}, qe_tsw x K pc d v l = some z →
    (∃ (j k : Nat), l[j]? = some (Int.ofNat k) ∧ x.toInt = v + j ∧ K (pc + k) = some z) ∨ ((∀ j : Nat, j < l.length → x.toInt ≠ v + j) ∧ K (pc + d) = some z)
  | [], v, h => Or.inr ⟨fun j hj => absurd hj (Nat.not_lt_zero j), h⟩
  | off :: r, v, h => by
    unfold qe_tsw at h
    cases off with
    | negSucc k => cases h
    | ofNat k =>
      dsimp only at h
      by_cases q : x.toInt = v
      · rw [if_pos q] at h
        exact Or.inl ⟨0, k, rfl, by simp [q], h⟩
      · rw [if_neg q] at h
        rcases qe_tsw_some h with ⟨j, k1, h1, h2, h3⟩ | ⟨h1, h2⟩
        · exact Or.inl ⟨j + 1, k1, h1, by rw [h2]; simp; omega, h3⟩
        · refine Or.inr ⟨fun j hj => ?_, h2⟩
          cases j with
          | zero => simpa using q
          | succ j =>
            have := h1 j (by simpa using hj)
            intro e
            apply this
            rw [e]
            simp
            omega
theorem qe_lsw_some {α : Type} {x : Int32} {K : Nat → Option α} {pc d : Nat} {z : α} : ∀ {l : List (Int × Int)}, qe_lsw x K pc d l = some z →
    ∃ t : Nat, (pc : Int) + Op.lookupswitch.offset l (Int.ofNat d) x.toInt = (t : Int) ∧ K t = some z
  | [], h => ⟨pc + d, by simp [Op.lookupswitch.offset_nil], h⟩
  | (v, off) :: r, h => by
    unfold qe_lsw at h
    cases off with
    | negSucc k => cases h
    | ofNat k =>
      dsimp only at h
      rw [Op.lookupswitch.offset_cons]
      by_cases q : x.toInt = v
      · rw [if_pos q] at h
        rw [if_pos q.symm]
        exact ⟨pc + k, by simp, h⟩
      · rw [if_neg q] at h
        rw [if_neg (Ne.symm q)]
        exact qe_lsw_some h
section QS
variable {kp : pm_K} {sc : Option pm_K} {md : pm_M} {d : Nat} {T : qe_T} {i : Instr} {nx a b pc : Nat} {lv : pm_L} {st : List Value} {m : qm_M} {K : qe_K} {x : qm_R}
theorem qt_0 (hK : qe_KG kp md d K) (g : pm_at (pm_cd md) pc = some (i, nx, a, b)) (h : qe_s0 i nx lv st m K = some x) : qe_V kp md d x pc lv st m := by
  unfold qe_s0 at h
  split at h
  · rename_i v hv; exact pq_cst g hv (hK _ _ _ _ _ h)
  · cases h
theorem qt_1 (hK : qe_KG kp md d K) (g : pm_at (pm_cd md) pc = some (i, nx, a, b)) (h : qe_s1 i nx a lv st m K = some x) : qe_V kp md d x pc lv st m := by
  unfold qe_s1 at h
  cases hi : pm_isl i with
  | false => rw [hi] at h; cases h
  | true =>
    rw [hi] at h
    dsimp only [cond_true] at h
    split at h
    · rename_i v hv; exact pq_ldc g hi hv (hK _ _ _ _ _ h)
    · cases h
theorem qt_2 (hK : qe_KG kp md d K) (g : pm_at (pm_cd md) pc = some (i, nx, a, b)) (h : qe_s2 i nx lv st m K = some x) : qe_V kp md d x pc lv st m := by
  unfold qe_s2 at h
  split at h
  · rename_i k hk
    obtain ⟨j, v, h1, h2⟩ := qe_get_some h
    split at h2
    · rename_i k2 hk2
      obtain ⟨h3, h4⟩ := qe_b_some h2
      have e := Nat.eq_of_beq_eq_true h3
      subst e
      exact pq_ld j g hk2 h1 (hK _ _ _ _ _ h4)
    · cases h2
  · cases h
theorem qt_3 (hK : qe_KG kp md d K) (g : pm_at (pm_cd md) pc = some (i, nx, a, b)) (h : qe_s3 i nx lv st m K = some x) : qe_V kp md d x pc lv st m := by
  unfold qe_s3 at h
  split at h
  · rename_i v r
    split at h
    · rename_i k hk
      obtain ⟨l1, h1, h2⟩ := qe_sto_some h
      exact pq_sto g hk h1 (hK _ _ _ _ _ h2)
    · cases h
  · cases h
theorem qt_4 (hK : qe_KG kp md d K) (g : pm_at (pm_cd md) pc = some (i, nx, a, b)) (h : qe_s4 i nx lv st m K = some x) : qe_V kp md d x pc lv st m := by
  unfold qe_s4 at h
  split at h
  · split at h
    · rename_i v hv; exact pq_bop g hv (hK _ _ _ _ _ h)
    · cases h
  · cases h
theorem qe_dop_some {α : Type} {i : Instr} {y x : Value} {c : Value → Option α} {z : α} (h : qe_dop i y x c = some z) : ∃ v q, pm_dop i y x = some (v, q) ∧ q ∧ c v = some z := by
  unfold qe_dop at h
  split at h
  · obtain ⟨h1, h2⟩ := qe_b_some h; exact ⟨_, _, rfl, by simpa using h1, h2⟩
  · obtain ⟨h1, h2⟩ := qe_b_some h; exact ⟨_, _, rfl, by simpa using h1, h2⟩
  · obtain ⟨h1, h2⟩ := qe_b_some h; exact ⟨_, _, rfl, by simpa using h1, h2⟩
  · obtain ⟨h1, h2⟩ := qe_b_some h; exact ⟨_, _, rfl, by simpa using h1, h2⟩
  · cases h
theorem qt_5 (hK : qe_KG kp md d K) (g : pm_at (pm_cd md) pc = some (i, nx, a, b)) (h : qe_s5 i nx lv st m K = some x) : qe_V kp md d x pc lv st m := by
  unfold qe_s5 at h
  split at h
  · obtain ⟨v, q, h1, h2, h3⟩ := qe_dop_some h
    exact pq_dop g h1 h2 (hK _ _ _ _ _ h3)
  · cases h
theorem qt_6 (hK : qe_KG kp md d K) (g : pm_at (pm_cd md) pc = some (i, nx, a, b)) (h : qe_s6 i nx lv st m K = some x) : qe_V kp md d x pc lv st m := by
  unfold qe_s6 at h
  split at h
  · split at h
    · rename_i v hv; exact pq_uop g hv (hK _ _ _ _ _ h)
    · cases h
  · cases h
theorem qt_7 (hK : qe_KG kp md d K) (g : pm_at (pm_cd md) pc = some (i, nx, a, b)) (h : qe_s7 i nx lv st m K = some x) : qe_V kp md d x pc lv st m := by
  unfold qe_s7 at h
  split at h
  · rename_i v hv; exact pq_sop g hv (hK _ _ _ _ _ h)
  · cases h
theorem qt_8 (hK : qe_KG kp md d K) (g : pm_at (pm_cd md) pc = some (i, nx, a, b)) (h : qe_s8 i nx lv st m K = some x) : qe_V kp md d x pc lv st m := by
  unfold qe_s8 at h
  split at h
  · obtain ⟨j, v, h1, h2⟩ := qe_get_some h
    split at h2
    · obtain ⟨l1, h3, h4⟩ := qe_sto_some h2
      exact pq_inc j g h1 h3 (hK _ _ _ _ _ h4)
    · cases h2
  · cases h
theorem qt_9 (hK : qe_KG kp md d K) (g : pm_at (pm_cd md) pc = some (i, nx, a, b)) (h : qe_s9 i a lv st m K = some x) : qe_V kp md d x pc lv st m := by
  unfold qe_s9 at h
  split at h
  · exact pq_goto g (hK _ _ _ _ _ h)
  · cases h
theorem qt_10 (hK : qe_KG kp md d K) (g : pm_at (pm_cd md) pc = some (i, nx, a, b)) (h : qe_s10 i nx a lv st m K = some x) : qe_V kp md d x pc lv st m := by
  unfold qe_s10 at h
  split at h
  · obtain ⟨h1, h2⟩ := qe_if_some h
    exact pq_ifc g (fun q => hK _ _ _ _ _ (h1 q)) (fun q => hK _ _ _ _ _ (h2 q))
  · cases h
theorem qt_11 (hK : qe_KG kp md d K) (g : pm_at (pm_cd md) pc = some (i, nx, a, b)) (h : qe_s11 i nx a lv st m K = some x) : qe_V kp md d x pc lv st m := by
  unfold qe_s11 at h
  split at h
  · obtain ⟨h1, h2⟩ := qe_if_some h
    exact pq_icm g (fun q => hK _ _ _ _ _ (h1 q)) (fun q => hK _ _ _ _ _ (h2 q))
  · cases h
theorem qt_12 (hK : qe_KG kp md d K) (g : pm_at (pm_cd md) pc = some (i, nx, a, b)) (h : qe_s12 i pc lv st m K = some x) : qe_V kp md d x pc lv st m := by
  unfold qe_s12 at h
  split at h
  · rename_i dd lo hi os y r
    obtain ⟨h0, h1⟩ := qe_b_some h
    have h0 : hi + 1 = lo + os.size := of_decide_eq_true h0
    rcases qe_tsw_some h1 with ⟨j, k, h2, h3, h4⟩ | ⟨h2, h3⟩
    · have hj : j < os.size := by
        have := (List.getElem?_eq_some_iff.mp h2).1
        simpa using this
      refine pq_tsi (off := Int.ofNat k) (t := pc + k) g (by omega) (by omega) ?_ (by simp) (hK _ _ _ _ _ h4)
      rw [show (y.toInt - lo).toNat = j by omega]
      rw [← Array.getElem?_toList]
      exact h2
    · refine pq_tso (t := pc + dd) g ?_ (by simp) (hK _ _ _ _ _ h3)
      by_cases q : y.toInt < lo
      · exact Or.inl q
      · refine Or.inr (Int.not_le.mp fun q2 => ?_)
        exact h2 (y.toInt - lo).toNat (by simp; omega) (by omega)
  · cases h
theorem qt_13 (hK : qe_KG kp md d K) (g : pm_at (pm_cd md) pc = some (i, nx, a, b)) (h : qe_s13 i pc lv st m K = some x) : qe_V kp md d x pc lv st m := by
  unfold qe_s13 at h
  split at h
  · obtain ⟨h0, h1⟩ := qe_b_some h
    obtain ⟨t, h2, h3⟩ := qe_lsw_some h1
    exact pq_lsw g h0 h2 (hK _ _ _ _ _ h3)
  · cases h
theorem qm_obj {m : qm_M} {o ci : Nat} (h : qm_isO o ci = true) : (qm_hp m)[o]? = some (.inr (ci, qm_fs m o (qm_ks ci) 0)) := by
  obtain ⟨n, h1⟩ := qm_isO_at h
  rw [qm_hp_at, h1]
  unfold qm_cell
  have e : Nat.ble 100 (100 + ci) = true := Nat.ble_eq_true_of_le (by omega)
  simp [e]
theorem qt_14 (hK : qe_KG kp md d K) (g : pm_at (pm_cd md) pc = some (i, nx, a, b)) (h : qe_s14 i nx a b lv st m K = some x) : qe_V kp md d x pc lv st m := by
  unfold qe_s14 at h
  split at h
  · rename_i n o r
    cases ha : Nat.beq a 100 with
    | true =>
      rw [ha] at h
      obtain ⟨h1, h2⟩ := qe_b_some h
      split at h2
      · exact pq_gek g (Nat.eq_of_beq_eq_true ha) (by unfold pm_kfl; rw [h1]; rfl) (hK _ _ _ _ _ h2)
      · exact pq_gek g (Nat.eq_of_beq_eq_true ha) (by unfold pm_kfl; rw [h1]; rfl) (hK _ _ _ _ _ h2)
      · cases h2
    | false =>
      rw [ha] at h
      obtain ⟨h1, h2⟩ := qe_b_some h
      have hb : ∀ k, qm_nth (qm_ks a) b 9 = k → k ≠ 9 → (qm_fs m o (qm_ks a) 0)[b]? = some (qm_fv m o b k) := fun k hk hn => by
        rw [qm_fs_at, Nat.zero_add]
        rw [qm_nth_eq] at hk
        cases hl : (qm_ks a)[b]? with
        | none => rw [hl] at hk; exact absurd hk.symm hn
        | some z => rw [hl] at hk; rw [← hk]; rfl
      split at h2
      · rename_i q; exact pq_get g (qm_obj h1) (hb 0 q (by decide)) (hK _ _ _ _ _ h2)
      · rename_i q; exact pq_get g (qm_obj h1) (hb 1 q (by decide)) (hK _ _ _ _ _ h2)
      · rename_i q; exact pq_get g (qm_obj h1) (hb 2 q (by decide)) (hK _ _ _ _ _ h2)
      · cases h2
  · cases h
theorem pm_setc_some : ∀ (fs : List Value) (k : Nat) (v : Value) (c : List Value → Option (List Value)), k < fs.length → pm_setc fs k v c = c (fs.set k v)
  | [], k, v, c, h => absurd h (Nat.not_lt_zero _)
  | q :: r, 0, v, c, h => rfl
  | q :: r, k + 1, v, c, h => by
    unfold pm_setc
    rw [pm_setc_some r k v _ (by simpa using h)]
    rfl
theorem qm_nth_lt {α : Type} {l : List α} {k : Nat} {d v : α} (h : qm_nth l k d = v) (hv : v ≠ d) : l[k]? = some v := by
  rw [qm_nth_eq] at h
  cases hl : l[k]? with
  | none => rw [hl] at h; exact absurd h.symm hv
  | some z => rw [hl] at h; rw [← h]; rfl
theorem qm_fs_setI {m : qm_M} {o b : Nat} {y : Int32} {l : List Nat} (h : l[b]? = some 0) : (qm_fs m o l 0).set b (.int y) = qm_fs (qm_sI m o b y) o l 0 := by
  apply List.ext_getElem?
  intro k
  by_cases hk : b = k
  · subst hk
    have hl : b < (qm_fs m o l 0).length := by rw [qm_fs_len]; exact (List.getElem?_eq_some_iff.mp h).1
    rw [List.getElem?_set_self hl, qm_fs_at, h]
    simp [qm_fv, qm_sI, upd]
  · rw [List.getElem?_set_ne hk, qm_fs_at, qm_fs_at]
    congr 1
    funext e
    have : k ≠ b := Ne.symm hk
    simp only [Nat.zero_add]
    unfold qm_fv
    split
    · simp [qm_sI, upd, this]
    · simp [qm_sI]
    · rfl
theorem qm_fs_setL {m : qm_M} {o b : Nat} {y : Int64} {l : List Nat} (h : l[b]? = some 1) : (qm_fs m o l 0).set b (.long y) = qm_fs (qm_sL m o b y) o l 0 := by
  apply List.ext_getElem?
  intro k
  by_cases hk : b = k
  · subst hk
    have hl : b < (qm_fs m o l 0).length := by rw [qm_fs_len]; exact (List.getElem?_eq_some_iff.mp h).1
    rw [List.getElem?_set_self hl, qm_fs_at, h]
    simp [qm_fv, qm_sL, vp_updL]
  · rw [List.getElem?_set_ne hk, qm_fs_at, qm_fs_at]
    congr 1
    funext e
    have : k ≠ b := Ne.symm hk
    simp only [Nat.zero_add]
    unfold qm_fv
    split
    · simp [qm_sL]
    · simp [qm_sL, vp_updL, this]
    · rfl
theorem qm_sI_other {m : qm_M} {o j : Nat} {y : Int32} : ∀ a, a ≠ o → (qm_sI m o j y).1 a = m.1 a ∧ (qm_sI m o j y).2 a = m.2 a := fun a h => by
  have e : Nat.beq a o = false := by rw [Bool.eq_false_iff]; exact fun q => h (Nat.eq_of_beq_eq_true q)
  simp [qm_sI, e]
theorem qm_sL_other {m : qm_M} {o j : Nat} {y : Int64} : ∀ a, a ≠ o → (qm_sL m o j y).1 a = m.1 a ∧ (qm_sL m o j y).2 a = m.2 a := fun a h => by
  have e : Nat.beq a o = false := by rw [Bool.eq_false_iff]; exact fun q => h (Nat.eq_of_beq_eq_true q)
  simp [qm_sL, e]
theorem qt_15 (hK : qe_KG kp md d K) (g : pm_at (pm_cd md) pc = some (i, nx, a, b)) (h : qe_s15 i nx a b lv st m K = some x) : qe_V kp md d x pc lv st m := by
  unfold qe_s15 at h
  split at h
  · rename_i n v o r
    obtain ⟨h1, h2⟩ := qe_b_some h
    obtain ⟨N, hL⟩ := qm_isO_at h1
    have e : Nat.ble 100 (100 + a) = true := Nat.ble_eq_true_of_le (by omega)
    split at h2
    · rename_i ty hty
      split at h2
      · rename_i y
        obtain ⟨h3, h4⟩ := qe_b_some h2
        obtain ⟨h5, h6⟩ := qe_b_some h4
        have h7 := qm_nth_lt (Nat.eq_of_beq_eq_true h5) (by decide)
        have hl : b < (qm_fs m o (qm_ks a) 0).length := by rw [qm_fs_len]; exact (List.getElem?_eq_some_iff.mp h7).1
        refine pq_put g (qm_obj h1) hty (qm_fi_ok h3) (pm_setc_some _ _ _ _ hl) ?_
        have hs := qm_hp_set (m := m) (m1 := qm_sI m o b y) hL qm_sI_other
        rw [qm_fs_setI h7]
        have hc : qm_cell (qm_sI m o b y) o (100 + a, N) = .inr (a, qm_fs (qm_sI m o b y) o (qm_ks a) 0) := by
          unfold qm_cell
          simp [e]
        rw [hc] at hs
        rw [hs]
        exact hK _ _ _ _ _ h6
      · rename_i y
        obtain ⟨h5, h6⟩ := qe_b_some h2
        have h7 := qm_nth_lt (Nat.eq_of_beq_eq_true h5) (by decide)
        have hl : b < (qm_fs m o (qm_ks a) 0).length := by rw [qm_fs_len]; exact (List.getElem?_eq_some_iff.mp h7).1
        split at h6
        · refine pq_put g (qm_obj h1) hty ⟨rfl, rfl⟩ (pm_setc_some _ _ _ _ hl) ?_
          have hs := qm_hp_set (m := m) (m1 := qm_sL m o b y) hL qm_sL_other
          rw [qm_fs_setL h7]
          have hc : qm_cell (qm_sL m o b y) o (100 + a, N) = .inr (a, qm_fs (qm_sL m o b y) o (qm_ks a) 0) := by
            unfold qm_cell
            simp [e]
          rw [hc] at hs
          rw [hs]
          exact hK _ _ _ _ _ h6
        · cases h6
      · cases h2
    · cases h2
  · cases h
theorem qm_ints {m : qm_M} {o t n : Nat} (h : qm_lay[o]? = some (t, n)) (ht : t = 0 ∨ t = 2 ∨ t = 3) : (qm_hp m)[o]? = some (.inl (t, (n, .inl (m.1 o)))) := by
  rw [qm_hp_at, h]
  rcases ht with rfl | rfl | rfl <;> rfl
theorem qm_cell_i {m : qm_M} {o t n : Nat} (ht : t = 0 ∨ t = 2 ∨ t = 3) : qm_cell m o (t, n) = .inl (t, (n, .inl (m.1 o))) := by
  rcases ht with rfl | rfl | rfl <;> rfl
theorem qm_cell_l {m : qm_M} {o n : Nat} : qm_cell m o (1, n) = .inl (1, (n, .inr (.inl (m.2 o)))) := rfl
theorem qm_sI_self (m : qm_M) (o j : Nat) (y : Int32) : (qm_sI m o j y).1 o = upd (m.1 o) j y := by simp [qm_sI]
theorem qm_sL_self (m : qm_M) (o j : Nat) (y : Int64) : (qm_sL m o j y).2 o = vp_updL (m.2 o) j y := by simp [qm_sL]
set_option maxRecDepth 100000 in
theorem qm_kar {kp : pm_K} : ∀ k, k < 5 → pm_kar kp (1000030 + k) = some (2, ([2, 5, 5, 4, 5].getD k 0, .inl (fun i => (pm_wds.getD k []).getD i 0)))
  | 0, _ => rfl
  | 1, _ => rfl
  | 2, _ => rfl
  | 3, _ => rfl
  | 4, _ => rfl
  | k + 5, h => by omega
theorem qm_longs {m : qm_M} {o n : Nat} (h : qm_lay[o]? = some (1, n)) : (qm_hp m)[o]? = some (.inl (1, (n, .inr (.inl (m.2 o))))) := by
  rw [qm_hp_at, h]
  rfl
theorem qt_16 (hsc : ∀ q, sc = some q → q = kp) (hK : qe_KG kp md d K) (g : pm_at (pm_cd md) pc = some (.iaload, nx, a, b)) (h : qe_s16 sc nx lv st m K = some x) : qe_V kp md d x pc lv st m := by
  unfold qe_s16 at h
  split at h
  · rename_i j o r
    cases sc with
    | some q =>
      have e := hsc q rfl
      subst e
      dsimp only at h
      cases ho : Nat.beq o 1000000 with
      | false => rw [ho] at h; cases h
      | true =>
        rw [ho] at h
        have e := Nat.eq_of_beq_eq_true ho
        subst e
        rw [cond_true] at h
        obtain ⟨h1, h2⟩ := qe_b_some h
        exact pq_kil g rfl (qm_in_ok h1) (hK _ _ _ _ _ h2)
    | none =>
      dsimp only at h
      obtain ⟨h1, h2⟩ := qe_b_some h
      obtain ⟨h3, h4⟩ := qe_b_some h2
      obtain ⟨n, hL, hn⟩ := qm_isL_at h1 (by decide)
      rw [hn] at h3
      exact pq_ial g (qm_ints hL (Or.inl rfl)) (qm_in_ok h3) (hK _ _ _ _ _ h4)
  · cases h
theorem qm_small {o : Nat} {e : Nat × Nat} (h : qm_lay[o]? = some e) : Nat.ble 1000000 o = false := by
  have h1 := (List.getElem?_eq_some_iff.mp h).1
  have h2 : qm_lay.length = 124 := by decide +kernel
  rw [Bool.eq_false_iff]
  intro q
  have := Nat.le_of_ble_eq_true q
  omega
theorem qm_gv_some {o t : Nat} (h : Nat.beq (qm_gv o).1 t = true) (ht : t ≠ 99) : (o = 1000001 ∧ qm_gv o = (1, 6)) ∨ ∃ j, j < 5 ∧ o = 1000030 + j ∧ qm_gv o = (2, [2, 5, 5, 4, 5].getD j 0) := by
  by_cases h1 : o = 1000001
  · exact Or.inl ⟨h1, by rw [h1]; rfl⟩
  by_cases h3 : o = 1000030
  · exact Or.inr ⟨0, by decide, h3, by rw [h3]; rfl⟩
  by_cases h4 : o = 1000031
  · exact Or.inr ⟨1, by decide, h4, by rw [h4]; rfl⟩
  by_cases h5 : o = 1000032
  · exact Or.inr ⟨2, by decide, h5, by rw [h5]; rfl⟩
  by_cases h6 : o = 1000033
  · exact Or.inr ⟨3, by decide, h6, by rw [h6]; rfl⟩
  by_cases h7 : o = 1000034
  · exact Or.inr ⟨4, by decide, h7, by rw [h7]; rfl⟩
  exfalso
  have nb : ∀ k, o ≠ k → Nat.beq o k = false := fun k q => by rw [Bool.eq_false_iff]; exact fun z => q (Nat.eq_of_beq_eq_true z)
  unfold qm_gv at h
  rw [nb _ h1, nb _ h3, nb _ h4, nb _ h5, nb _ h6, nb _ h7] at h
  exact ht (Nat.eq_of_beq_eq_true h).symm
theorem qt_17 (hK : qe_KG kp md d K) (g : pm_at (pm_cd md) pc = some (.baload, nx, a, b)) (h : qe_s17 nx lv st m K = some x) : qe_V kp md d x pc lv st m := by
  unfold qe_s17 at h
  split at h
  · rename_i j o r
    obtain ⟨h1, h2⟩ := qe_b_some h
    obtain ⟨h3, h4⟩ := qe_b_some h2
    cases hb : Nat.ble 1000000 o with
    | false =>
      have e1 : qm_gk o = qm_kn o := by unfold qm_gk; rw [hb]; first | rw [cond_true] | rw [cond_false]
      have e2 : qm_gI m o j.toNatClampNeg = m.1 o j.toNatClampNeg := by unfold qm_gI; rw [hb]; first | rw [cond_true] | rw [cond_false]
      unfold qm_n at h3
      unfold qm_isA at h1
      rw [e1] at h1 h3
      rw [e2] at h4
      rcases Bool.or_eq_true_iff.mp h1 with q | q
      · obtain ⟨n, hL, hn⟩ := qm_isL_at (t := 2) q (by decide)
        unfold qm_nl at hn
        rw [hn] at h3
        exact pq_bal g (qm_ints hL (Or.inr (Or.inl rfl))) (qm_in_ok h3) (hK _ _ _ _ _ h4)
      · obtain ⟨n, hL, hn⟩ := qm_isL_at (t := 3) q (by decide)
        unfold qm_nl at hn
        rw [hn] at h3
        exact pq_zal g (qm_ints hL (Or.inr (Or.inr rfl))) (qm_in_ok h3) (hK _ _ _ _ _ h4)
    | true =>
      have e1 : qm_gk o = qm_gv o := by unfold qm_gk; rw [hb]; first | rw [cond_true] | rw [cond_false]
      have e2 : qm_gI m o j.toNatClampNeg = qm_gw o j.toNatClampNeg := by unfold qm_gI; rw [hb]; first | rw [cond_true] | rw [cond_false]
      unfold qm_n at h3
      unfold qm_isA at h1
      rw [e1] at h1 h3
      rw [e2] at h4
      rcases Bool.or_eq_true_iff.mp h1 with q | q
      · rcases qm_gv_some q (by decide) with ⟨rfl, -⟩ | ⟨k, hk, rfl, hg⟩
        · cases q
        · rw [hg] at h3
          have e3 : qm_gw (1000030 + k) j.toNatClampNeg = (pm_wds.getD k []).getD j.toNatClampNeg 0 := by
            unfold qm_gw
            rw [qm_nth_eq, qm_nth_eq, List.getD_eq_getElem?_getD, List.getD_eq_getElem?_getD, Nat.add_sub_cancel_left]
          rw [e3] at h4
          exact pq_kbl (f := fun i => (pm_wds.getD k []).getD i 0) (n := [2, 5, 5, 4, 5].getD k 0) g (qm_kar k hk) (qm_in_ok h3) (hK _ _ _ _ _ h4)
      · obtain ⟨n, hL, hn⟩ := qm_isL_at (t := 3) q (by decide)
        rw [qm_small hL] at hb
        cases hb
  · cases h
theorem qt_18 (hK : qe_KG kp md d K) (g : pm_at (pm_cd md) pc = some (.laload, nx, a, b)) (h : qe_s18 nx lv st m K = some x) : qe_V kp md d x pc lv st m := by
  unfold qe_s18 at h
  split at h
  · rename_i j o r
    obtain ⟨h1, h2⟩ := qe_b_some h
    obtain ⟨h3, h4⟩ := qe_b_some h2
    cases hb : Nat.ble 1000000 o with
    | false =>
      have e1 : qm_gk o = qm_kn o := by unfold qm_gk; rw [hb]; first | rw [cond_true] | rw [cond_false]
      have e2 : qm_gL m o j.toNatClampNeg = m.2 o j.toNatClampNeg := by unfold qm_gL; rw [hb, cond_false]
      unfold qm_n at h3
      unfold qm_isA at h1
      rw [e1] at h1 h3
      rw [e2] at h4
      obtain ⟨n, hL, hn⟩ := qm_isL_at (t := 1) h1 (by decide)
      unfold qm_nl at hn
      rw [hn] at h3
      exact pq_lal g (qm_longs hL) (qm_in_ok h3) (hK _ _ _ _ _ h4)
    | true =>
      have e1 : qm_gk o = qm_gv o := by unfold qm_gk; rw [hb]; first | rw [cond_true] | rw [cond_false]
      unfold qm_n at h3
      unfold qm_isA at h1
      rw [e1] at h1 h3
      rcases qm_gv_some h1 (by decide) with ⟨rfl, hg⟩ | ⟨k, hk, rfl, hg⟩
      · rw [hg] at h3
        have e3 : qm_gL m 1000001 j.toNatClampNeg = pm_low.getD j.toNatClampNeg 0 := by
          rw [List.getD_eq_getElem?_getD, ← qm_nth_eq]; rfl
        rw [e3] at h4
        exact pq_kll (f := fun i => pm_low.getD i 0) g rfl (qm_in_ok h3) (hK _ _ _ _ _ h4)
      · rw [hg] at h1
        cases h1
  · cases h
theorem qt_19 (hK : qe_KG kp md d K) (g : pm_at (pm_cd md) pc = some (.aaload, nx, a, b)) (h : qe_s19 nx lv st m K = some x) : qe_V kp md d x pc lv st m := by
  unfold qe_s19 at h
  split at h
  · rename_i j o r
    obtain ⟨h1, h2⟩ := qe_b_some h
    obtain ⟨h3, h4⟩ := qe_b_some h2
    have key : ∀ t, (t = 4 ∨ t = 5 ∨ t = 6) → qm_isL o t = true → qe_V kp md d x pc lv (.int j :: .ref o :: r) m := fun t ht q => by
      obtain ⟨n, hL, hn⟩ := qm_isL_at q (by omega)
      rw [hn] at h3
      have hc : (qm_hp m)[o]? = some (.inl (t, (n, .inr (.inr (.inr (.inr (qm_ra o))))))) := by
        rw [qm_hp_at, hL]
        rcases ht with rfl | rfl | rfl <;> rfl
      have hin := qm_in_ok h3
      have hlt : j.toNatClampNeg + 1 ≤ n := Nat.not_le.mp fun q => hin (Or.inr q)
      exact pq_aal g hc (by omega) hin (qm_ra_ok hL ht hlt) (hK _ _ _ _ _ h4)
    rcases Bool.or_eq_true_iff.mp h1 with q | q
    · rcases Bool.or_eq_true_iff.mp q with q | q
      · exact key 4 (Or.inl rfl) q
      · exact key 5 (Or.inr (Or.inl rfl)) q
    · exact key 6 (Or.inr (Or.inr rfl)) q
  · cases h
theorem qt_20 (hK : qe_KG kp md d K) (g : pm_at (pm_cd md) pc = some (.iastore, nx, a, b)) (h : qe_s20 nx lv st m K = some x) : qe_V kp md d x pc lv st m := by
  unfold qe_s20 at h
  split at h
  · rename_i y j o r
    obtain ⟨h1, h2⟩ := qe_b_some h
    obtain ⟨h3, h4⟩ := qe_b_some h2
    obtain ⟨n, hL, hn⟩ := qm_isL_at h1 (by decide)
    rw [hn] at h3
    refine pq_ias g (qm_ints hL (Or.inl rfl)) (qm_in_ok h3) ?_
    have hs := qm_hp_set (m := m) (m1 := qm_sI m o j.toNatClampNeg y) hL qm_sI_other
    rw [show qm_cell (qm_sI m o j.toNatClampNeg y) o (0, n) = .inl (0, (n, .inl (upd (m.1 o) j.toNatClampNeg y))) by rw [qm_cell_i (Or.inl rfl), qm_sI_self]] at hs
    rw [hs]
    exact hK _ _ _ _ _ h4
  · cases h
theorem qt_21 (hK : qe_KG kp md d K) (g : pm_at (pm_cd md) pc = some (.bastore, nx, a, b)) (h : qe_s21 nx lv st m K = some x) : qe_V kp md d x pc lv st m := by
  unfold qe_s21 at h
  split at h
  · rename_i y j o r
    cases hq : qm_isL o 2 with
    | true =>
      rw [hq] at h
      obtain ⟨h3, h4⟩ := qe_b_some h
      obtain ⟨n, hL, hn⟩ := qm_isL_at hq (by decide)
      rw [hn] at h3
      refine pq_bas g (qm_ints hL (Or.inr (Or.inl rfl))) (qm_in_ok h3) ?_
      have hs := qm_hp_set (m := m) (m1 := qm_sI m o j.toNatClampNeg (vp_nar .byte y)) hL qm_sI_other
      rw [show qm_cell (qm_sI m o j.toNatClampNeg (vp_nar .byte y)) o (2, n) = .inl (2, (n, .inl (upd (m.1 o) j.toNatClampNeg (vp_nar .byte y)))) by rw [qm_cell_i (Or.inr (Or.inl rfl)), qm_sI_self]] at hs
      rw [hs]
      exact hK _ _ _ _ _ h4
    | false =>
      rw [hq] at h
      obtain ⟨h1, h2⟩ := qe_b_some h
      obtain ⟨h3, h4⟩ := qe_b_some h2
      obtain ⟨n, hL, hn⟩ := qm_isL_at h1 (by decide)
      rw [hn] at h3
      refine pq_zas g (qm_ints hL (Or.inr (Or.inr rfl))) (qm_in_ok h3) ?_
      have hs := qm_hp_set (m := m) (m1 := qm_sI m o j.toNatClampNeg (vp_nar .boolean y)) hL qm_sI_other
      rw [show qm_cell (qm_sI m o j.toNatClampNeg (vp_nar .boolean y)) o (3, n) = .inl (3, (n, .inl (upd (m.1 o) j.toNatClampNeg (vp_nar .boolean y)))) by rw [qm_cell_i (Or.inr (Or.inr rfl)), qm_sI_self]] at hs
      rw [hs]
      exact hK _ _ _ _ _ h4
  · cases h
theorem qt_22 (hK : qe_KG kp md d K) (g : pm_at (pm_cd md) pc = some (.lastore, nx, a, b)) (h : qe_s22 nx lv st m K = some x) : qe_V kp md d x pc lv st m := by
  unfold qe_s22 at h
  split at h
  · rename_i y j o r
    obtain ⟨h1, h2⟩ := qe_b_some h
    obtain ⟨h3, h4⟩ := qe_b_some h2
    obtain ⟨n, hL, hn⟩ := qm_isL_at h1 (by decide)
    rw [hn] at h3
    refine pq_las g (qm_longs hL) (qm_in_ok h3) ?_
    have hs := qm_hp_set (m := m) (m1 := qm_sL m o j.toNatClampNeg y) hL qm_sL_other
    rw [show qm_cell (qm_sL m o j.toNatClampNeg y) o (1, n) = .inl (1, (n, .inr (.inl (vp_updL (m.2 o) j.toNatClampNeg y)))) by rw [qm_cell_l, qm_sL_self]] at hs
    rw [hs]
    exact hK _ _ _ _ _ h4
  · cases h
theorem qt_23 (hsc : ∀ q, sc = some q → q = kp) (hK : qe_KG kp md d K) (g : pm_at (pm_cd md) pc = some (.arraylength, nx, a, b)) (h : qe_s23 sc nx lv st m K = some x) : qe_V kp md d x pc lv st m := by
  unfold qe_s23 at h
  split at h
  · rename_i o r
    cases sc with
    | some q =>
      have e := hsc q rfl
      subst e
      dsimp only at h
      cases ho : Nat.beq o 1000000 with
      | false => rw [ho] at h; cases h
      | true =>
        rw [ho] at h
        have e := Nat.eq_of_beq_eq_true ho
        subst e
        exact pq_kle g rfl (hK _ _ _ _ _ h)
    | none =>
      dsimp only at h
      obtain ⟨h1, h2⟩ := qe_b_some h
      have h1 := Nat.le_of_ble_eq_true h1
      cases hb : Nat.ble 1000000 o with
      | false =>
        have e1 : qm_gk o = qm_kn o := by unfold qm_gk; rw [hb]; first | rw [cond_true] | rw [cond_false]
        unfold qm_n at h2
        rw [e1] at h1 h2
        have hq : qm_isL o (qm_kn o).1 = true := Nat.beq_refl _
        obtain ⟨n, hL, hn⟩ := qm_isL_at hq (by omega)
        unfold qm_nl at hn
        rw [hn] at h2
        have hc : ∃ y, (qm_hp m)[o]? = some (.inl ((qm_kn o).1, (n, y))) := by
          rw [qm_hp_at, hL]
          generalize (qm_kn o).1 = t at h1
          match t, h1 with
          | 0, _ => exact ⟨_, rfl⟩
          | 1, _ => exact ⟨_, rfl⟩
          | 2, _ => exact ⟨_, rfl⟩
          | 3, _ => exact ⟨_, rfl⟩
          | 4, _ => exact ⟨_, rfl⟩
          | 5, _ => exact ⟨_, rfl⟩
          | 6, _ => exact ⟨_, rfl⟩
          | k + 7, h => omega
        obtain ⟨y, hc⟩ := hc
        exact pq_len g hc (by omega) (hK _ _ _ _ _ h2)
      | true =>
        have e1 : qm_gk o = qm_gv o := by unfold qm_gk; rw [hb]; first | rw [cond_true] | rw [cond_false]
        unfold qm_n at h2
        rw [e1] at h1 h2
        have hq : Nat.beq (qm_gv o).1 (qm_gv o).1 = true := Nat.beq_refl _
        rcases qm_gv_some hq (by omega) with ⟨rfl, hg⟩ | ⟨k, hk, rfl, hg⟩
        · exact pq_kle g rfl (hK _ _ _ _ _ h2)
        · rw [hg] at h2
          exact pq_kle g (qm_kar k hk) (hK _ _ _ _ _ h2)
  · cases h
theorem qe_ret_some {α : Type} {ret : Nat} {r : Option qm_R} {rest : List Value} {k : List Value → qm_M → Option α} {z : α} (h : qe_ret ret r rest k = some z) : ∃ y, r = some y ∧ k (pm_pu y.1 rest) y.2 = some z := by
  unfold qe_ret at h
  split at h
  · unfold qe_rV at h
    split at h
    · exact ⟨_, rfl, h⟩
    · cases h
  · unfold qe_rI at h
    split at h
    · exact ⟨_, rfl, h⟩
    · cases h
  · unfold qe_rL at h
    split at h
    · exact ⟨_, rfl, h⟩
    · cases h
  · unfold qe_rR at h
    split at h
    · exact ⟨_, rfl, h⟩
    · cases h
  · cases h
theorem qt_24 (hT : qe_G kp d T) (hK : qe_KG kp md d K) {n : Nat} (g : pm_at (pm_cd md) pc = some (.invokestatic n, nx, a, b)) (h : qe_s24 T nx a b lv st m K = some x) : qe_V kp md d x pc lv st m := by
  unfold qe_s24 at h
  cases h1 : Nat.beq a 1001 with
  | true =>
    rw [h1] at h
    dsimp only [cond_true] at h
    split at h
    · obtain ⟨h3, h4⟩ := qe_b_some h
      exact pq_mmx g (Nat.eq_of_beq_eq_true h1) (Nat.le_of_ble_eq_true h3) (hK _ _ _ _ _ h4)
    · cases h
  | false =>
    rw [h1] at h
    dsimp only [cond_false] at h
    cases h2 : Nat.beq a 1002 with
    | true =>
      rw [h2] at h
      dsimp only [cond_true] at h
      split at h
      · obtain ⟨h3, h4⟩ := qe_b_some h
        exact pq_mmn g (Nat.eq_of_beq_eq_true h2) (Nat.le_of_ble_eq_true h3) (hK _ _ _ _ _ h4)
      · cases h
    | false =>
      rw [h2] at h
      dsimp only [cond_false] at h
      split at h
      · rename_i knd ci ret f hl
        obtain ⟨h3, h4⟩ := qe_b_some h
        obtain ⟨as, rest, h5, h6⟩ := qe_spl_some h4
        obtain ⟨h7, h8⟩ := qe_b_some h6
        obtain ⟨y, h9, h10⟩ := qe_ret_some h8
        obtain ⟨g1, g2, g3, g4, g5⟩ := hT _ (qe_look_mem hl)
        exact pq_cls g rfl (g2 (Nat.eq_of_beq_eq_true h3)) h5 (Nat.le_of_ble_eq_true h7) (Or.inl g1) (g5 as m y h9) (hK _ _ _ _ _ h10)
      · cases h
theorem qt_25 (hT : qe_G kp d T) (hK : qe_KG kp md d K) {n : Nat} (g : pm_at (pm_cd md) pc = some (.invokevirtual n, nx, a, b)) (h : qe_s25 T nx a b lv st m K = some x) : qe_V kp md d x pc lv st m := by
  unfold qe_s25 at h
  split at h
  · rename_i knd ci ret f hl
    obtain ⟨as, rest, h5, h6⟩ := qe_spl_some h
    split at h6
    · rename_i o as1
      obtain ⟨h7, h8⟩ := qe_b_some h6
      obtain ⟨h11, h12⟩ := qe_b_some h8
      obtain ⟨y, h9, h10⟩ := qe_ret_some h12
      obtain ⟨g1, g2, g3, g4, g5⟩ := hT _ (qe_look_mem hl)
      split at h11
      · obtain ⟨g6, g7⟩ := g3 rfl
        exact pq_clv g (Or.inl ⟨rfl, g6⟩) h5 (Nat.le_of_ble_eq_true h7) (qm_obj h11) g7 (Or.inl g1) (g5 _ m y h9) (hK _ _ _ _ _ h10)
      · obtain ⟨g6, g7⟩ := g4 rfl
        obtain ⟨q1, q2⟩ := Bool.and_eq_true_iff.mp h11
        exact pq_clk g g6 g7 h5 (Nat.le_of_ble_eq_true h7) (Nat.le_of_ble_eq_true q1) (Nat.le_of_ble_eq_true q2) g1 (g5 _ m y h9) (hK _ _ _ _ _ h10)
      · cases h11
    · cases h6
  · cases h
theorem qt_26 (g : pm_at (pm_cd md) pc = some (.ireturn, nx, a, b)) (h : qe_s26 md st m = some x) : qe_V kp md d x pc lv st m := by
  unfold qe_s26 at h
  split at h
  · split at h
    · rename_i ty hty
      obtain ⟨h1, h2⟩ := qe_b_some h
      cases h2
      exact pq_irt g hty (qm_ni_ok h1) ⟨rfl, rfl⟩
    · cases h
  · cases h
theorem qt_27 (g : pm_at (pm_cd md) pc = some (.lreturn, nx, a, b)) (h : qe_s27 md st m = some x) : qe_V kp md d x pc lv st m := by
  unfold qe_s27 at h
  split at h
  · split at h
    · rename_i hty
      cases h
      exact pq_lrt g hty ⟨rfl, rfl⟩
    · cases h
  · cases h
theorem qt_28 (g : pm_at (pm_cd md) pc = some (.areturn, nx, a, b)) (h : qe_s28 md st m = some x) : qe_V kp md d x pc lv st m := by
  unfold qe_s28 at h
  split at h
  · split at h
    · rename_i hty
      cases h
      exact pq_art g hty ⟨rfl, rfl⟩
    · cases h
  · cases h
theorem qt_29 (g : pm_at (pm_cd md) pc = some (.return_, nx, a, b)) (h : qe_s29 md st m = some x) : qe_V kp md d x pc lv st m := by
  unfold qe_s29 at h
  split at h
  · split at h
    · rename_i hty
      cases h
      exact pq_vrt g hty ⟨rfl, rfl⟩
    · cases h
  · cases h
theorem qt_30 (hK : qe_KG kp md d K) {n : Nat} (g : pm_at (pm_cd md) pc = some (.getstatic n, nx, a, b)) (h : qe_s30 nx a lv st m K = some x) : qe_V kp md d x pc lv st m := by
  unfold qe_s30 at h
  split at h
  · rename_i v hv; exact pq_gst g hv (hK _ _ _ _ _ h)
  · cases h
theorem qt_step (hsc : ∀ q, sc = some q → q = kp) (hT : qe_G kp d T) (hK : qe_KG kp md d K) (g : pm_at (pm_cd md) pc = some (i, nx, a, b)) (h : qe_step sc md T i nx a b pc lv st m K = some x) : qe_V kp md d x pc lv st m := by
  unfold qe_step at h
  split at h
  all_goals first
    | exact qt_0 hK g h
    | exact qt_1 hK g h
    | exact qt_2 hK g h
    | exact qt_3 hK g h
    | exact qt_4 hK g h
    | exact qt_5 hK g h
    | exact qt_6 hK g h
    | exact qt_7 hK g h
    | exact qt_8 hK g h
    | exact qt_9 hK g h
    | exact qt_10 hK g h
    | exact qt_11 hK g h
    | exact qt_12 hK g h
    | exact qt_13 hK g h
    | exact qt_14 hK g h
    | exact qt_15 hK g h
    | exact qt_16 hsc hK g h
    | exact qt_17 hK g h
    | exact qt_18 hK g h
    | exact qt_19 hK g h
    | exact qt_20 hK g h
    | exact qt_21 hK g h
    | exact qt_22 hK g h
    | exact qt_23 hsc hK g h
    | exact qt_24 hT hK g h
    | exact qt_25 hT hK g h
    | exact qt_26 g h
    | exact qt_27 g h
    | exact qt_28 g h
    | exact qt_29 g h
    | exact qt_30 hK g h
    | cases h
/-- what is known at the places of B -/
def qe_BE (kp : pm_K) (md : pm_M) (d : Nat) (q : Nat × List Nat × qe_P) : Prop := ∀ vs st m, qe_J kp md d (q.2.2 vs st m) q.1 (qe_zip q.2.1 vs) st m
def qe_BG (kp : pm_K) (md : pm_M) (d : Nat) (B : qe_B) : Prop := ∀ q ∈ B, qe_BE kp md d q
theorem qe_stop_mem : ∀ {B : qe_B} {pc : Nat} {ks : List Nat × qe_P}, qe_stop B pc = some ks → (pc, ks) ∈ B
  | [], pc, ks, h => by cases h
  | q :: r, pc, ks, h => by
    unfold qe_stop at h
    cases hb : Nat.beq q.1 pc with
    | true =>
      rw [hb] at h
      have e := Nat.eq_of_beq_eq_true hb
      cases h
      subst e
      exact List.mem_cons_self
    | false =>
      rw [hb] at h
      exact List.mem_cons_of_mem _ (qe_stop_mem h)
theorem qe_go_ok {B : qe_B} {f : qe_K} (hB : qe_BG kp md d B) (hf : qe_KG kp md d f) : qe_KG kp md d (qe_go B f) := by
  intro pc lv st m x h
  unfold qe_go at h
  split at h
  · rename_i ks p hs
    obtain ⟨vs, h1, h2⟩ := qe_pick_some h
    obtain ⟨js, h3⟩ := qe_pck (qe_zip ks vs) lv some h2
    exact pq_sub (nx := 0) (a := 0) (b := 0) js h3 (hB _ (qe_stop_mem hs) vs st m x h1)
  · exact hf pc lv st m x h
theorem qe_ev_ok (hsc : ∀ q, sc = some q → q = kp) (hT : qe_G kp d T) {B : qe_B} (hB : qe_BG kp md d B) : ∀ n, qe_KG kp md d (qe_ev sc md T B n)
  | 0 => fun _ _ _ _ _ h => by cases h
  | n + 1 => fun pc lv st m x h => by
    unfold qe_ev at h
    split at h
    · rename_i i nx a b g
      exact qt_step hsc hT (qe_go_ok hB (qe_ev_ok hsc hT hB n)) g h
    · cases h
/-- without the script -/
theorem qe_run {B : qe_B} {pc : Nat} {lv : pm_L} {st : List Value} {m : qm_M} {E : Option qm_R} {n : Nat} (hT : qe_G kp d T) (hB : qe_BG kp md d B) (e : E = qe_ev none md T B n pc lv st m) : qe_J kp md d E pc lv st m := fun x h =>
  qe_ev_ok (sc := none) (fun _ q => nomatch q) hT hB n pc lv st m x (by rw [← e]; exact h)
theorem qe_runs {B : qe_B} {pc : Nat} {lv : pm_L} {st : List Value} {m : qm_M} {E : Option qm_R} {n : Nat} (hT : qe_G kp d T) (hB : qe_BG kp md d B) (e : E = qe_ev (some kp) md T B n pc lv st m) : qe_J kp md d E pc lv st m := fun x h =>
  qe_ev_ok (sc := some kp) (fun _ q => (Option.some.inj q).symm) hT hB n pc lv st m x (by rw [← e]; exact h)
theorem qe_none {pc : Nat} {lv : pm_L} {st : List Value} {m : qm_M} {E : Option qm_R} (e : E = none) : qe_J kp md d E pc lv st m := fun x h => by
  rw [e] at h
  cases h
noncomputable def qe_chk (k knd ci : Nat) : Bool := match pt_M[k]? with
  | some md => !(pm_al md) && Nat.beq (pm_kind md) (bif Nat.beq knd 1 then 1 else 0) && (bif Nat.beq knd 0 then decide (pm_mci k = some ci) else true) && (bif Nat.beq knd 3 then md.1.cls == "java/lang/String" else true)
  | none => false
theorem qe_entry {k knd ci ret : Nat} {f : qe_F} (h : qe_chk k knd ci = true) (hf : ∀ as m x, f as m = some x → pm_X kp d k as (qm_hp m) x.1 (qm_hp x.2)) : qe_GE kp d (k, knd, ci, ret, f) := by
  unfold qe_chk at h
  cases hk : pt_M[k]? with
  | none => rw [hk] at h; cases h
  | some md =>
    rw [hk] at h
    simp only [Bool.and_eq_true] at h
    obtain ⟨⟨⟨h1, h2⟩, h3⟩, h4⟩ := h
    have e := Nat.eq_of_beq_eq_true h2
    refine ⟨?_, fun q => ?_, fun q => ?_, fun q => ?_, hf⟩
    · unfold pm_mal; dsimp only; rw [hk]; simpa using h1
    · dsimp only at q; subst q; unfold pm_knd; dsimp only; rw [hk]; show some _ = _; rw [e]; rfl
    · dsimp only at q; subst q
      refine ⟨by unfold pm_knd; dsimp only; rw [hk]; show some _ = _; rw [e]; rfl, ?_⟩
      exact of_decide_eq_true h3
    · dsimp only at q; subst q
      refine ⟨by unfold pm_knd; dsimp only; rw [hk]; show some _ = _; rw [e]; rfl, ?_⟩
      unfold pm_mst; dsimp only; rw [hk]; exact h4
theorem qe_G0 : qe_G kp d [] := fun _ h => absurd h List.not_mem_nil
theorem qe_G1 {e : Nat × Nat × Nat × Nat × qe_F} (h : qe_GE kp d e) (hr : qe_G kp d T) : qe_G kp d (e :: T) := List.forall_mem_cons.mpr ⟨h, hr⟩
theorem qe_B0 : qe_BG kp md d [] := fun _ h => absurd h List.not_mem_nil
theorem qe_B1 {q : Nat × List Nat × qe_P} {B : qe_B} (h : qe_BE kp md d q) (hr : qe_BG kp md d B) : qe_BG kp md d (q :: B) := List.forall_mem_cons.mpr ⟨h, hr⟩
end QS
theorem qe_sub {kp : pm_K} {md : pm_M} {d pc : Nat} {l1 lv : pm_L} {st : List Value} {m : qm_M} {E : Option qm_R} (h : ∀ q ∈ l1, q ∈ lv) (g : qe_J kp md d E pc l1 st m) : qe_J kp md d E pc lv st m := fun x e => by
  obtain ⟨js, h3⟩ := qe_pck l1 lv some h
  exact pq_sub (nx := 0) (a := 0) (b := 0) js h3 (g x e)
theorem qe_at {kp : pm_K} {d d1 : Nat} {e : Nat × Nat × Nat × Nat × qe_F} (h : d1 = d) (g : qe_GE kp d1 e) : qe_GE kp d e := h ▸ g
