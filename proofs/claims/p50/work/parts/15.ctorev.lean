/-! CONSTRUCTORS: runs over a heap that is written out -/
abbrev qa_S : Type := Nat × pm_L × List Value × pm_H × Nat × Nat
abbrev qa_K : Type := Nat → pm_L → List Value → pm_H → Nat → Nat → Option qa_S
def qa_set {α : Type} : pm_H → Nat → va_E → (pm_H → Option α) → Option α
  | [], _, _, _ => none
  | _ :: r, 0, v, c => c (v :: r)
  | q :: r, k + 1, v, c => qa_set r k v (fun t => c (q :: t))
def qa_app {α : Type} : pm_H → pm_H → (pm_H → Option α) → Option α
  | [], g, c => c g
  | q :: r, g, c => qa_app r g (fun t => c (q :: t))
def qa_at {α : Type} : pm_H → Nat → (va_E → Option α) → Option α
  | [], _, _ => none
  | q :: _, 0, c => c q
  | _ :: r, k + 1, c => qa_at r k c
def qa_vset {α : Type} : List Value → Nat → Value → (List Value → Option α) → Option α
  | [], _, _, _ => none
  | _ :: r, 0, v, c => c (v :: r)
  | q :: r, k + 1, v, c => qa_vset r k v (fun t => c (q :: t))
def qa_fit (ty : FieldType) (v : Value) : Bool := match v with
  | .int x => qm_fi ty x
  | .long _ => (match ty with
    | .long => true
    | _ => false)
  | .ref _ => (match ty with
    | .object _ => true
    | .array _ => true
    | _ => false)
  | _ => false
section QA
variable (md : pm_M) (own hb sb : Nat) (i : Instr) (nx a b : Nat) (lv : pm_L) (st : List Value) (h : pm_H) (hl sl : Nat) (K : qa_K)
noncomputable def qa_s0 : Option qa_S := match pm_cst i with
  | some v => K nx lv (v :: st) h hl sl
  | none => none
noncomputable def qa_s1 : Option qa_S := bif pm_isl i then match pt_ldc[a]? with
  | some v => K nx lv (v :: st) h hl sl
  | none => none
  else none
noncomputable def qa_s2 : Option qa_S := match qe_ldk i with
  | some k => qe_get lv k (fun v => match pm_ld i v with
    | some k2 => qe_b (Nat.beq k2 k) (K nx lv (v :: st) h hl sl)
    | none => none)
  | none => none
noncomputable def qa_s3 : Option qa_S := match st with
  | v :: r => match pm_st i v with
    | some k => qe_sto k v lv (fun l1 => K nx l1 r h hl sl)
    | none => none
  | [] => none
noncomputable def qa_s7 : Option qa_S := match pm_sop i st with
  | some st1 => K nx lv st1 h hl sl
  | none => none
noncomputable def qa_s8 : Option qa_S := match i with
  | .iinc k n => qe_get lv k (fun v => match v with
    | .int x => qe_sto k (.int (x + Int32.ofInt n)) lv (fun l1 => K nx l1 st h hl sl)
    | _ => none)
  | _ => none
noncomputable def qa_s9 : Option qa_S := match i with
  | .goto _ => K a lv st h hl sl
  | _ => none
noncomputable def qa_s11 : Option qa_S := match i, st with
  | .if_icmp c _, .int y :: .int x :: r => qe_if c x y (K a lv r h hl sl) (K nx lv r h hl sl)
  | _, _ => none
noncomputable def qa_s14 : Option qa_S := match i, st with
  | .getfield _, .ref o :: r => qa_at h o (fun e => match e with
    | .inr (ci, fs) => qe_b (Nat.beq ci a) (match fs[b]? with
      | some v => K nx lv (v :: r) h hl sl
      | none => none)
    | _ => none)
  | _, _ => none
noncomputable def qa_s15 : Option qa_S := match i, st with
  | .putfield _, v :: .ref o :: r => qa_at h o (fun e => match e with
    | .inr (ci, fs) => qe_b (Nat.beq ci a) (match pm_fty a b with
      | some (ty, fin) => qe_b (bif fin then Nat.beq a own else true) (qe_b (qa_fit ty v) (qa_vset fs b v (fun fs1 => qa_set h o (.inr (ci, fs1)) (fun h1 => K nx lv r h1 hl sl))))
      | none => none)
    | _ => none)
  | _, _ => none
noncomputable def qa_s22 : Option qa_S := match st with
  | .long x :: .int j :: .ref o :: r => qa_at h o (fun e => match e with
    | .inl (t, (n, .inr (.inl f))) => qe_b (Nat.beq t 1) (qe_b (qm_in j n) (qa_set h o (.inl (1, (n, .inr (.inl (vp_updL f j.toNatClampNeg x))))) (fun h1 => K nx lv r h1 hl sl)))
    | _ => none)
  | _ => none
noncomputable def qa_s21 : Option qa_S := match st with
  | .ref q :: .int j :: .ref o :: r => qa_at h o (fun e => match e with
    | .inl (t, (n, .inr (.inr (.inr (.inr f))))) => qe_b (Nat.beq t 4) (qe_b (qm_in j n) (qa_at h q (fun e2 => match e2 with
      | .inr (ci, _) => qe_b (Nat.beq ci 5) (qa_set h o (.inl (4, (n, .inr (.inr (.inr (.inr (va_up f j.toNatClampNeg (some q)))))))) (fun h1 => K nx lv r h1 hl sl))
      | _ => none)))
    | _ => none)
  | _ => none
noncomputable def qa_s23 : Option qa_S := match st with
  | .ref o :: r => qa_at h o (fun e => match e with
    | .inl (t, (n, _)) => qe_b (Nat.ble t 5) (K nx lv (.int (Int32.ofNat n) :: r) h hl sl)
    | _ => none)
  | _ => none
noncomputable def qa_new : Option qa_S := match pm_new a with
  | some fs => qe_b (pm_al md) (qe_b (Nat.ble (hl + 1) hb) (qe_b (Nat.ble (sl + fs.length) sb) (qe_b (Nat.ble hl 999) (qa_app h [.inr (a, fs)] (fun h1 => K nx lv (.ref hl :: st) h1 (hl + 1) (sl + fs.length))))))
  | none => none
noncomputable def qa_nwa : Option qa_S := match st with
  | .int n :: r => qe_b (pm_al md) (qe_b (!decide (n < 0)) (qe_b (Nat.ble n.toNatClampNeg 1000000) (qe_b (Nat.ble (hl + 1) hb) (qe_b (Nat.ble (sl + n.toNatClampNeg) sb) (qe_b (Nat.ble hl 999) (qa_app h [.inl (a, (n.toNatClampNeg, pm_zer a))] (fun h1 => K nx lv (.ref hl :: r) h1 (hl + 1) (sl + n.toNatClampNeg))))))))
  | _ => none
noncomputable def qa_nwr : Option qa_S := match st with
  | .int n :: r => qe_b (Nat.beq a 4) (qe_b (pm_al md) (qe_b (!decide (n < 0)) (qe_b (Nat.ble n.toNatClampNeg 1000000) (qe_b (Nat.ble (hl + 1) hb) (qe_b (Nat.ble (sl + n.toNatClampNeg) sb) (qe_b (Nat.ble hl 999) (qa_app h [.inl (4, (n.toNatClampNeg, .inr (.inr (.inr (.inr fun _ => none)))))] (fun h1 => K nx lv (.ref hl :: r) h1 (hl + 1) (sl + n.toNatClampNeg)))))))))
  | _ => none
noncomputable def qa_nwm : Option qa_S := match st with
  | .int m :: .int n :: r => qe_b (Nat.beq a 5) (qe_b (pm_al md) (qe_b (!decide (n < 0)) (qe_b (!decide (m < 0)) (qe_b (Nat.ble n.toNatClampNeg 100) (qe_b (Nat.ble m.toNatClampNeg 100) (qe_b (Nat.ble (hl + (1 + n.toNatClampNeg)) hb) (qe_b (Nat.ble (sl + (n.toNatClampNeg + n.toNatClampNeg * m.toNatClampNeg)) sb) (qe_b (Nat.ble (hl + n.toNatClampNeg) 999)
    (qa_app h ([.inl (5, (n.toNatClampNeg, .inr (.inr (.inr (.inr fun j => if j < n.toNatClampNeg then some (hl + 1 + j) else none)))))] ++ List.replicate n.toNatClampNeg (.inl (1, (m.toNatClampNeg, .inr (.inl fun _ => 0))))) (fun h1 => K nx lv (.ref hl :: r) h1 (hl + (1 + n.toNatClampNeg)) (sl + (n.toNatClampNeg + n.toNatClampNeg * m.toNatClampNeg))))))))))))
  | _ => none
noncomputable def qa_obj : Option qa_S := bif Nat.beq a 1000 then match st with
  | .ref _ :: r => qe_b (Nat.ble (pm_cat r) 8) (K nx lv r h hl sl)
  | _ => none
  else none
noncomputable def qa_step : Option qa_S := match i with
  | .iconst _ | .bipush _ | .sipush _ | .lconst _ => qa_s0 i nx lv st h hl sl K
  | .ldc _ | .ldc_w _ | .ldc2_w _ => qa_s1 i nx a lv st h hl sl K
  | .iload _ | .iload_n _ | .lload _ | .lload_n _ | .aload _ | .aload_n _ => qa_s2 i nx lv st h hl sl K
  | .istore _ | .istore_n _ | .lstore _ | .lstore_n _ | .astore _ | .astore_n _ => qa_s3 i nx lv st h hl sl K
  | .dup | .pop | .dup2 => qa_s7 i nx lv st h hl sl K
  | .iinc _ _ => qa_s8 i nx lv st h hl sl K
  | .goto _ => qa_s9 i a lv st h hl sl K
  | .if_icmp _ _ => qa_s11 i nx a lv st h hl sl K
  | .getfield _ => qa_s14 i nx a b lv st h hl sl K
  | .putfield _ => qa_s15 own i nx a b lv st h hl sl K
  | .lastore => qa_s22 nx lv st h hl sl K
  | .aastore => qa_s21 nx lv st h hl sl K
  | .arraylength => qa_s23 nx lv st h hl sl K
  | .new _ => qa_new md hb sb nx a lv st h hl sl K
  | .newarray _ => qa_nwa md hb sb nx a lv st h hl sl K
  | .anewarray _ => qa_nwr md hb sb nx a lv st h hl sl K
  | .multianewarray _ 2 => qa_nwm md hb sb nx a lv st h hl sl K
  | .invokespecial _ => qa_obj nx a lv st h hl sl K
  | _ => none
end QA
/-- n steps -/
noncomputable def qa_ev (md : pm_M) (own hb sb : Nat) : Nat → qa_K
  | 0 => fun pc lv st h hl sl => some (pc, lv, st, h, hl, sl)
  | n + 1 => fun pc lv st h hl sl => match pm_at (pm_cd md) pc with
    | some (i, nx, a, b) => qa_step md own hb sb i nx a b lv st h hl sl (qa_ev md own hb sb n)
    | none => none
theorem qa_set_some {α : Type} : ∀ {h : pm_H} {o : Nat} {v : va_E} {c : pm_H → Option α} {x : α}, qa_set h o v c = some x → c (h.set o v) = some x
  | [], o, v, c, x, e => by cases o <;> cases e
  | q :: r, 0, v, c, x, e => e
  | q :: r, k + 1, v, c, x, e => by
    have := qa_set_some (h := r) (o := k) e
    exact this
theorem qa_app_eq {α : Type} : ∀ (h g : pm_H) (c : pm_H → Option α), qa_app h g c = c (h ++ g)
  | [], g, c => rfl
  | q :: r, g, c => qa_app_eq r g (fun t => c (q :: t))
theorem qa_at_some {α : Type} : ∀ {h : pm_H} {o : Nat} {c : va_E → Option α} {x : α}, qa_at h o c = some x → ∃ e, h[o]? = some e ∧ c e = some x
  | [], o, c, x, e => by cases o <;> cases e
  | q :: r, 0, c, x, e => ⟨q, rfl, e⟩
  | q :: r, k + 1, c, x, e => by
    obtain ⟨z, h1, h2⟩ := qa_at_some (h := r) (o := k) e
    exact ⟨z, h1, h2⟩
theorem qa_vset_some {α : Type} : ∀ {fs : List Value} {k : Nat} {v : Value} {c : List Value → Option α} {x : α}, qa_vset fs k v c = some x → k < fs.length ∧ c (fs.set k v) = some x
  | [], k, v, c, x, e => by cases k <;> cases e
  | q :: r, 0, v, c, x, e => ⟨by simp, e⟩
  | q :: r, k + 1, v, c, x, e => by
    obtain ⟨h1, h2⟩ := qa_vset_some (fs := r) (k := k) e
    exact ⟨by simpa using h1, h2⟩
theorem qa_fit_ok {ty : FieldType} {v : Value} (h : qa_fit ty v = true) : pm_fit ty v := by
  unfold qa_fit at h
  split at h
  · exact qm_fi_ok h
  · split at h
    · exact ⟨rfl, rfl⟩
    · cases h
  · split at h
    · exact ⟨rfl, rfl⟩
    · exact ⟨rfl, rfl⟩
    · cases h
  · cases h
section QB
variable {kp : pm_K} {md : pm_M} {C : pm_C} {own hb sb : Nat} {Q : Option Value → pm_H → Prop} {i : Instr} {nx a b pc : Nat} {lv : pm_L} {st : List Value} {h : pm_H} {hl sl : Nat} {K : qa_K} {z : qa_S}
/-- what the end of a run knows, its beginning knows -/
def qa_G (kp : pm_K) (md : pm_M) (C : pm_C) (hb sb : Nat) (Q : Option Value → pm_H → Prop) (z : qa_S) (K : qa_K) : Prop := ∀ pc lv st h hl sl, K pc lv st h hl sl = some z → h.length = hl → pm_sl h = sl → z.2.2.2.1.length = z.2.2.2.2.1 ∧ pm_sl z.2.2.2.1 = z.2.2.2.2.2 ∧ (pm_W kp md C hb sb Q z.1 z.2.1 z.2.2.1 z.2.2.2.1 → pm_W kp md C hb sb Q pc lv st h)
theorem qa_one (hK : qa_G kp md C hb sb Q z K) {pc1 : Nat} {lv1 : pm_L} {st1 : List Value} {h1 : pm_H} {hl1 sl1 : Nat} (e : K pc1 lv1 st1 h1 hl1 sl1 = some z) (e1 : h1.length = hl1) (e2 : pm_sl h1 = sl1) (f : pm_W kp md C hb sb Q pc1 lv1 st1 h1 → pm_W kp md C hb sb Q pc lv st h) :
    z.2.2.2.1.length = z.2.2.2.2.1 ∧ pm_sl z.2.2.2.1 = z.2.2.2.2.2 ∧ (pm_W kp md C hb sb Q z.1 z.2.1 z.2.2.1 z.2.2.2.1 → pm_W kp md C hb sb Q pc lv st h) := by
  obtain ⟨q1, q2, q3⟩ := hK _ _ _ _ _ _ e e1 e2
  exact ⟨q1, q2, fun w => f (q3 w)⟩
theorem qa_sl1 (h : pm_H) (c : va_E) : pm_sl (h ++ [c]) = pm_sl h + pm_sz c := by
  rw [ps_sl_app]
  rfl
theorem qa_slr (c : va_E) : ∀ n, pm_sl (List.replicate n c) = n * pm_sz c
  | 0 => by simp [pm_sl]
  | n + 1 => by
    rw [List.replicate_succ, pm_sl, qa_slr c n, Nat.succ_mul]
    omega
theorem qa_step_ok (hown : own = 99 ∨ pm_own md own) (hK : qa_G kp md C hb sb Q z K) (g : pm_at (pm_cd md) pc = some (i, nx, a, b)) (e : qa_step md own hb sb i nx a b lv st h hl sl K = some z) (e1 : h.length = hl) (e2 : pm_sl h = sl) :
    z.2.2.2.1.length = z.2.2.2.2.1 ∧ pm_sl z.2.2.2.1 = z.2.2.2.2.2 ∧ (pm_W kp md C hb sb Q z.1 z.2.1 z.2.2.1 z.2.2.2.1 → pm_W kp md C hb sb Q pc lv st h) := by
  have t0 : ∀ {i : Instr}, pm_at (pm_cd md) pc = some (i, nx, a, b) → qa_s0 i nx lv st h hl sl K = some z → z.2.2.2.1.length = z.2.2.2.2.1 ∧ pm_sl z.2.2.2.1 = z.2.2.2.2.2 ∧ (pm_W kp md C hb sb Q z.1 z.2.1 z.2.2.1 z.2.2.2.1 → pm_W kp md C hb sb Q pc lv st h) := fun g e => by
    unfold qa_s0 at e
    split at e
    · rename_i hv; exact qa_one hK e e1 e2 (fun w => pq_cst g hv w)
    · cases e
  have t1 : ∀ {i : Instr}, pm_at (pm_cd md) pc = some (i, nx, a, b) → qa_s1 i nx a lv st h hl sl K = some z → z.2.2.2.1.length = z.2.2.2.2.1 ∧ pm_sl z.2.2.2.1 = z.2.2.2.2.2 ∧ (pm_W kp md C hb sb Q z.1 z.2.1 z.2.2.1 z.2.2.2.1 → pm_W kp md C hb sb Q pc lv st h) := fun {i} g e => by
    unfold qa_s1 at e
    cases hi : pm_isl i with
    | false => rw [hi] at e; cases e
    | true =>
      rw [hi, cond_true] at e
      split at e
      · rename_i hv; exact qa_one hK e e1 e2 (fun w => pq_ldc g hi hv w)
      · cases e
  have t2 : ∀ {i : Instr}, pm_at (pm_cd md) pc = some (i, nx, a, b) → qa_s2 i nx lv st h hl sl K = some z → z.2.2.2.1.length = z.2.2.2.2.1 ∧ pm_sl z.2.2.2.1 = z.2.2.2.2.2 ∧ (pm_W kp md C hb sb Q z.1 z.2.1 z.2.2.1 z.2.2.2.1 → pm_W kp md C hb sb Q pc lv st h) := fun g e => by
    unfold qa_s2 at e
    split at e
    · obtain ⟨j, v, h1, h2⟩ := qe_get_some e
      split at h2
      · rename_i k2 hk2
        obtain ⟨h3, h4⟩ := qe_b_some h2
        have e5 := Nat.eq_of_beq_eq_true h3
        subst e5
        exact qa_one hK h4 e1 e2 (fun w => pq_ld j g hk2 h1 w)
      · cases h2
    · cases e
  have t3 : ∀ {i : Instr}, pm_at (pm_cd md) pc = some (i, nx, a, b) → qa_s3 i nx lv st h hl sl K = some z → z.2.2.2.1.length = z.2.2.2.2.1 ∧ pm_sl z.2.2.2.1 = z.2.2.2.2.2 ∧ (pm_W kp md C hb sb Q z.1 z.2.1 z.2.2.1 z.2.2.2.1 → pm_W kp md C hb sb Q pc lv st h) := fun g e => by
    unfold qa_s3 at e
    split at e
    · split at e
      · rename_i hk
        obtain ⟨l1, h1, h2⟩ := qe_sto_some e
        exact qa_one hK h2 e1 e2 (fun w => pq_sto g hk h1 w)
      · cases e
    · cases e
  have t7 : ∀ {i : Instr}, pm_at (pm_cd md) pc = some (i, nx, a, b) → qa_s7 i nx lv st h hl sl K = some z → z.2.2.2.1.length = z.2.2.2.2.1 ∧ pm_sl z.2.2.2.1 = z.2.2.2.2.2 ∧ (pm_W kp md C hb sb Q z.1 z.2.1 z.2.2.1 z.2.2.2.1 → pm_W kp md C hb sb Q pc lv st h) := fun g e => by
    unfold qa_s7 at e
    split at e
    · rename_i hv; exact qa_one hK e e1 e2 (fun w => pq_sop g hv w)
    · cases e
  unfold qa_step at e
  split at e
  all_goals first
    | exact t0 g e
    | exact t1 g e
    | exact t2 g e
    | exact t3 g e
    | exact t7 g e
    | skip
  · unfold qa_s8 at e
    obtain ⟨j, v, h1, h2⟩ := qe_get_some e
    split at h2
    · obtain ⟨l1, h3, h4⟩ := qe_sto_some h2
      exact qa_one hK h4 e1 e2 (fun w => pq_inc j g h1 h3 w)
    · cases h2
  · exact qa_one hK e e1 e2 (fun w => pq_goto g w)
  · unfold qa_s11 at e
    split at e
    · rename_i heq
      obtain ⟨h1, h2⟩ := qe_if_some e
      cases heq
      exact (Classical.em _).elim (fun q => qa_one hK (h1 q) e1 e2 (fun w => pq_icm g (fun _ => w) (fun n => absurd q n))) (fun q => qa_one hK (h2 q) e1 e2 (fun w => pq_icm g (fun n => absurd n q) (fun _ => w)))
    · cases e
  · unfold qa_s14 at e
    split at e
    · rename_i heq
      cases heq
      obtain ⟨c, h1, h2⟩ := qa_at_some e
      split at h2
      · obtain ⟨h3, h4⟩ := qe_b_some h2
        have e5 := Nat.eq_of_beq_eq_true h3
        subst e5
        split at h4
        · rename_i hv
          exact qa_one hK h4 e1 e2 (fun w => pq_get g h1 hv w)
        · cases h4
      · cases h2
    · cases e
  · unfold qa_s15 at e
    split at e
    · rename_i n0 v o r heq
      cases heq
      obtain ⟨c, h1, h2⟩ := qa_at_some e
      split at h2
      · rename_i ci fs
        obtain ⟨h3, h4⟩ := qe_b_some h2
        have e5 := Nat.eq_of_beq_eq_true h3
        subst e5
        split at h4
        · rename_i ty fin hty
          obtain ⟨h5, h6⟩ := qe_b_some h4
          obtain ⟨h7, h8⟩ := qe_b_some h6
          obtain ⟨h9, h10⟩ := qa_vset_some h8
          have h11 := qa_set_some h10
          have hsz : pm_sz (.inr (ci, fs.set b v)) = pm_sz (.inr (ci, fs)) := by show (fs.set b v).length = fs.length; rw [List.length_set]
          refine qa_one hK h11 (by rw [List.length_set]; exact e1) (by rw [ps_sl_set h1 hsz]; exact e2) (fun w => ?_)
          cases fin with
          | false => exact pq_put g h1 hty (qa_fit_ok h7) (pm_setc_some _ _ _ _ h9) w
          | true =>
            have e6 := Nat.eq_of_beq_eq_true h5
            subst e6
            exact pq_puf g h1 hty (hown.resolve_left (fun z => by rw [z] at hty; cases hty)) (qa_fit_ok h7) (pm_setc_some _ _ _ _ h9) w
        · cases h4
      · cases h2
    · cases e
  · unfold qa_s22 at e
    split at e
    · obtain ⟨c, h1, h2⟩ := qa_at_some e
      split at h2
      · obtain ⟨h3, h4⟩ := qe_b_some h2
        have e5 := Nat.eq_of_beq_eq_true h3
        subst e5
        obtain ⟨h5, h6⟩ := qe_b_some h4
        have h11 := qa_set_some h6
        exact qa_one hK h11 (by rw [List.length_set]; exact e1) (by rw [ps_sl_set h1 (by rfl)]; exact e2) (fun w => pq_las g h1 (qm_in_ok h5) w)
      · cases h2
    · cases e
  · unfold qa_s21 at e
    split at e
    · obtain ⟨c, h1, h2⟩ := qa_at_some e
      split at h2
      · obtain ⟨h3, h4⟩ := qe_b_some h2
        have e5 := Nat.eq_of_beq_eq_true h3
        subst e5
        obtain ⟨h5, h6⟩ := qe_b_some h4
        obtain ⟨c2, h7, h8⟩ := qa_at_some h6
        split at h8
        · obtain ⟨h9, h10⟩ := qe_b_some h8
          have e6 := Nat.eq_of_beq_eq_true h9
          subst e6
          have h11 := qa_set_some h10
          exact qa_one hK h11 (by rw [List.length_set]; exact e1) (by rw [ps_sl_set h1 (by rfl)]; exact e2) (fun w => pq_aas g h1 (qm_in_ok h5) h7 w)
        · cases h8
      · cases h2
    · cases e
  · unfold qa_s23 at e
    split at e
    · obtain ⟨c, h1, h2⟩ := qa_at_some e
      split at h2
      · obtain ⟨h3, h4⟩ := qe_b_some h2
        have := Nat.le_of_ble_eq_true h3
        exact qa_one hK h4 e1 e2 (fun w => pq_len g h1 (by omega) w)
      · cases h2
    · cases e
  · unfold qa_new at e
    split at e
    · rename_i fs hfs
      obtain ⟨h1, e⟩ := qe_b_some e
      obtain ⟨h2, e⟩ := qe_b_some e
      obtain ⟨h3, e⟩ := qe_b_some e
      obtain ⟨h4, e⟩ := qe_b_some e
      rw [qa_app_eq] at e
      have h2 := Nat.le_of_ble_eq_true h2
      have h3 := Nat.le_of_ble_eq_true h3
      have h4 := Nat.le_of_ble_eq_true h4
      refine qa_one hK e (by rw [List.length_append, e1]; rfl) (by rw [qa_sl1, e2]; rfl) (fun w => ?_)
      rw [← e1] at w
      exact pq_new g h1 hfs (by omega) (by omega) (by omega) w
    · cases e
  · unfold qa_nwa at e
    split at e
    · obtain ⟨h1, e⟩ := qe_b_some e
      obtain ⟨h5, e⟩ := qe_b_some e
      obtain ⟨h6, e⟩ := qe_b_some e
      obtain ⟨h2, e⟩ := qe_b_some e
      obtain ⟨h3, e⟩ := qe_b_some e
      obtain ⟨h4, e⟩ := qe_b_some e
      rw [qa_app_eq] at e
      have h2 := Nat.le_of_ble_eq_true h2
      have h3 := Nat.le_of_ble_eq_true h3
      have h4 := Nat.le_of_ble_eq_true h4
      have h6 := Nat.le_of_ble_eq_true h6
      refine qa_one hK e (by rw [List.length_append, e1]; rfl) (by rw [qa_sl1, e2]; rfl) (fun w => ?_)
      rw [← e1] at w
      exact pq_nwa g h1 (by simpa using h5) rfl h6 (by omega) (by omega) (by omega) w
    · cases e
  · unfold qa_nwr at e
    split at e
    · obtain ⟨h0, e⟩ := qe_b_some e
      have h0' := Nat.eq_of_beq_eq_true h0
      obtain ⟨h1, e⟩ := qe_b_some e
      obtain ⟨h5, e⟩ := qe_b_some e
      obtain ⟨h6, e⟩ := qe_b_some e
      obtain ⟨h2, e⟩ := qe_b_some e
      obtain ⟨h3, e⟩ := qe_b_some e
      obtain ⟨h4, e⟩ := qe_b_some e
      rw [qa_app_eq] at e
      have h2 := Nat.le_of_ble_eq_true h2
      have h3 := Nat.le_of_ble_eq_true h3
      have h4 := Nat.le_of_ble_eq_true h4
      have h6 := Nat.le_of_ble_eq_true h6
      refine qa_one hK e (by rw [List.length_append, e1]; rfl) (by rw [qa_sl1, e2]; rfl) (fun w => ?_)
      rw [← e1] at w
      subst h0'
      exact pq_nwr g (Or.inl rfl) h1 (by simpa using h5) rfl h6 (by omega) (by omega) (by omega) w
    · cases e
  · unfold qa_nwm at e
    split at e
    · rename_i m n r
      obtain ⟨h0, e⟩ := qe_b_some e
      have h0' := Nat.eq_of_beq_eq_true h0
      obtain ⟨h1, e⟩ := qe_b_some e
      obtain ⟨h5, e⟩ := qe_b_some e
      obtain ⟨h6, e⟩ := qe_b_some e
      obtain ⟨h7, e⟩ := qe_b_some e
      obtain ⟨h8, e⟩ := qe_b_some e
      obtain ⟨h2, e⟩ := qe_b_some e
      obtain ⟨h3, e⟩ := qe_b_some e
      obtain ⟨h4, e⟩ := qe_b_some e
      rw [qa_app_eq] at e
      have h2 := Nat.le_of_ble_eq_true h2
      have h3 := Nat.le_of_ble_eq_true h3
      have h4 := Nat.le_of_ble_eq_true h4
      have h7 := Nat.le_of_ble_eq_true h7
      have h8 := Nat.le_of_ble_eq_true h8
      refine qa_one hK e (by rw [List.length_append, List.length_append, List.length_replicate, e1]; rfl) (by rw [ps_sl_app, ps_sl_app, qa_slr, e2]; rfl) (fun w => ?_)
      rw [← e1] at w
      subst h0'
      exact pq_nwm g (Or.inl rfl) h1 (by simpa using h5) (by simpa using h6) rfl rfl h7 h8 (by omega) (by omega) (by omega) w
    · cases e
  · unfold qa_obj at e
    cases ha : Nat.beq a 1000 with
    | false => rw [ha] at e; cases e
    | true =>
      rw [ha, cond_true] at e
      split at e
      · obtain ⟨h3, h4⟩ := qe_b_some e
        exact qa_one hK h4 e1 e2 (fun w => pq_obj g (Nat.eq_of_beq_eq_true ha) (Nat.le_of_ble_eq_true h3) w)
      · cases e
  · cases e
theorem qa_ev_ok (hown : own = 99 ∨ pm_own md own) : ∀ n, qa_G kp md C hb sb Q z (qa_ev md own hb sb n)
  | 0 => fun pc lv st h hl sl e e1 e2 => by
    cases e
    exact ⟨e1, e2, fun w => w⟩
  | n + 1 => fun pc lv st h hl sl e e1 e2 => by
    unfold qa_ev at e
    split at e
    · rename_i i nx a b g
      exact qa_step_ok hown (qa_ev_ok hown n) g e e1 e2
    · cases e
/-- a stretch without calls -/
theorem qa_run (hown : pm_own md own) (n : Nat) {pc1 : Nat} {lv1 : pm_L} {st1 : List Value} {h1 : pm_H} {hl1 sl1 : Nat} (e1 : h.length = hl) (e2 : pm_sl h = sl) (e : qa_ev md own hb sb n pc lv st h hl sl = some (pc1, lv1, st1, h1, hl1, sl1))
    (w : pm_W kp md C hb sb Q pc1 lv1 st1 h1) : pm_W kp md C hb sb Q pc lv st h := (qa_ev_ok (Or.inr hown) n pc lv st h hl sl e e1 e2).2.2 w
theorem qa_run0 (n : Nat) {pc1 : Nat} {lv1 : pm_L} {st1 : List Value} {h1 : pm_H} {hl1 sl1 : Nat} (e1 : h.length = hl) (e2 : pm_sl h = sl) (e : qa_ev md 99 hb sb n pc lv st h hl sl = some (pc1, lv1, st1, h1, hl1, sl1))
    (w : pm_W kp md C hb sb Q pc1 lv1 st1 h1) : pm_W kp md C hb sb Q pc lv st h := (qa_ev_ok (Or.inl rfl) n pc lv st h hl sl e e1 e2).2.2 w
end QB
theorem pm_Xn {kp : pm_K} {d k hb sb : Nat} {as : List Value} {h h1 : pm_H} {r : Option Value} (md : pm_M) (lv : pm_L) (g : pt_M[k]? = some md) (ga : pm_asz as ≤ md.2.2.1) (e : lv_args 0 as = lv) (e1 : h1.length = hb) (e2 : pm_sl h1 = sb)
    (w : pm_W kp md (pm_X kp d) hb sb (fun r2 h2 => r2 = r ∧ h2 = h1) 0 lv [] h) : pm_X kp (d + 1) k as h r h1 := pm_Xi md lv g ga e (by rw [e1, e2]; exact w)
