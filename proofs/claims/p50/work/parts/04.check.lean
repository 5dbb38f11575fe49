/-! SOUNDNESS: what the pure machine does, the machine does -/
def ps_ad (base : Nat) (adk : Nat → Nat) (k : Nat) : Nat := if k < 1000000 then base + k else adk k
def ps_cv (ad : Nat → Nat) (nf : Value) : Value → Value
  | .ref a => .ref (ad a)
  | .retAddr _ => nf
  | v => v
def ps_ca (ad : Nat → Nat) : vp_A → vp_A
  | (n, .inr (.inr (.inr (.inr f)))) => (n, .inr (.inr (.inr (.inr (fun j => (f j).map ad)))))
  | (n, .inr (.inr (.inr (.inl f)))) => (n, .inr (.inr (.inr (.inl f))))
  | (n, .inr (.inr (.inl f))) => (n, .inr (.inr (.inl f)))
  | (n, .inr (.inl f)) => (n, .inr (.inl f))
  | (n, .inl f) => (n, .inl f)
def ps_ce (dA : Nat → ClassId) (ad : Nat → Nat) (nf : Value) : va_E → va_E
  | .inl x => .inl (dA x.1, ps_ca ad x.2)
  | .inr x => .inr (x.1, x.2.map (ps_cv ad nf))
def ps_cw (dA : Nat → ClassId) (ad : Nat → Nat) (nf : Value) (h : pm_H) : va_W := h.mapIdx (fun k c => (ad k, ps_ce dA ad nf c))
def ps_tys (dA : Nat → ClassId) : List (ClassId × FieldType) := [(dA 0, .int), (dA 1, .long), (dA 2, .byte), (dA 3, .boolean), (dA 4, .object "TurnField$Position"), (dA 5, .array .long), (dA 6, .array .boolean), (dA 7, .object "java/lang/String")]
theorem ps_cw_at {dA : Nat → ClassId} {ad : Nat → Nat} {nf : Value} {h : pm_H} {o : Nat} {c : va_E} (g : h[o]? = some c) : (ps_cw dA ad nf h)[o]? = some (ad o, ps_ce dA ad nf c) := by
  unfold ps_cw
  rw [List.getElem?_mapIdx, g]
  rfl
theorem ps_cw_len {dA : Nat → ClassId} {ad : Nat → Nat} {nf : Value} {h : pm_H} : (ps_cw dA ad nf h).length = h.length := by
  unfold ps_cw
  rw [List.length_mapIdx]
theorem ps_cw_set {dA : Nat → ClassId} {ad : Nat → Nat} {nf : Value} {h : pm_H} {o : Nat} {c : va_E} : ps_cw dA ad nf (h.set o c) = (ps_cw dA ad nf h).set o (ad o, ps_ce dA ad nf c) := by
  unfold ps_cw
  apply List.ext_getElem?
  intro k
  by_cases e : o = k
  · subst e
    by_cases hl : o < h.length
    · rw [List.getElem?_mapIdx, List.getElem?_set_self hl, List.getElem?_set_self (by rw [List.length_mapIdx]; exact hl)]
      rfl
    · rw [List.getElem?_mapIdx, List.getElem?_eq_none (by rw [List.length_set]; omega), List.getElem?_eq_none (by rw [List.length_set, List.length_mapIdx]; omega)]
      rfl
  · rw [List.getElem?_mapIdx, List.getElem?_set_ne e, List.getElem?_set_ne e, List.getElem?_mapIdx]
theorem ps_cw_app {dA : Nat → ClassId} {ad : Nat → Nat} {nf : Value} {h : pm_H} {c : va_E} : ps_cw dA ad nf (h ++ [c]) = ps_cw dA ad nf h ++ [(ad h.length, ps_ce dA ad nf c)] := by
  unfold ps_cw
  rw [List.mapIdx_append]
  simp
theorem ps_sl_set {h : pm_H} {o : Nat} {c c1 : va_E} (g : h[o]? = some c) (e : pm_sz c1 = pm_sz c) : pm_sl (h.set o c1) = pm_sl h := by
  induction h generalizing o with
  | nil => simp at g
  | cons x r ih =>
    cases o with
    | zero =>
      simp at g
      subst g
      simp [pm_sl, e]
    | succ o =>
      simp at g
      simp [pm_sl, ih g]
theorem ps_sl_app (h g : pm_H) : pm_sl (h ++ g) = pm_sl h + pm_sl g := by
  induction h with
  | nil => simp [pm_sl]
  | cons x r ih => simp [pm_sl, ih]; omega
theorem ps_flt_eq (p : Nat × Value → Bool) : ∀ (l : pm_L) (c : pm_L → Option pm_L), pm_flt p l c = c (l.filter p)
  | [], c => rfl
  | q :: r, c => by
    unfold pm_flt
    cases hp : p q with
    | true => simp [hp, ps_flt_eq p r]
    | false => simp [hp, ps_flt_eq p r]
theorem ps_pck_in (l : pm_L) : ∀ (ks : List Nat) (c : pm_L → Option pm_L) (l1 : pm_L), pm_pck l ks c = some l1 → ∃ t, c t = some l1 ∧ ∀ q ∈ t, q ∈ l
  | [], c, l1, h => ⟨[], h, fun _ z => absurd z List.not_mem_nil⟩
  | k :: ks, c, l1, h => by
    unfold pm_pck at h
    cases hk : l[k]? with
    | none => rw [hk] at h; cases h
    | some q =>
      rw [hk] at h
      obtain ⟨t, h1, h2⟩ := ps_pck_in l ks _ l1 h
      refine ⟨q :: t, h1, fun x hx => ?_⟩
      rcases List.mem_cons.mp hx with e | e
      · rw [e]; exact List.mem_of_getElem? hk
      · exact h2 x e
theorem ps_set_eq : ∀ (fs : List Value) (k : Nat) (v : Value) (c : List Value → Option (List Value)) (fs1 : List Value), pm_setc fs k v c = some fs1 → k < fs.length ∧ c (fs.set k v) = some fs1
  | [], k, v, c, fs1, h => by cases k <;> cases h
  | q :: r, 0, v, c, fs1, h => ⟨by simp, h⟩
  | q :: r, k + 1, v, c, fs1, h => by
    obtain ⟨h1, h2⟩ := ps_set_eq r k v _ fs1 h
    exact ⟨by simp; omega, h2⟩
theorem ps_spl_eq : ∀ (n : Nat) (st acc as rest : List Value), pm_spl n st acc = some (as, rest) → ∃ t, as = t ++ acc ∧ st = t.reverse ++ rest ∧ t.length = n
  | 0, st, acc, as, rest, h => by cases h; exact ⟨[], rfl, rfl, rfl⟩
  | n + 1, [], acc, as, rest, h => by cases h
  | n + 1, v :: st, acc, as, rest, h => by
    obtain ⟨t, h1, h2, h3⟩ := ps_spl_eq n st (v :: acc) as rest h
    exact ⟨t ++ [v], by rw [h1]; simp, by rw [h2]; simp, by simp [h3]⟩
theorem ps_cat_eq (l : List Value) : pm_cat l = (l.map fun v => v.category).sum := by
  induction l with
  | nil => rfl
  | cons v r ih => simp [pm_cat, ih]
/-! THE TABLE IS THE CODE: what is checked by computing -/
noncomputable def ps_T : List Jvm.Cond := sb_tbl.filter goodWord
noncomputable def ps_w (p : Nat) (w : Jvm.Cond) : Bool := decide (sb_tbl[p]? = some w) && goodWord w
theorem ps_w_in {p : Nat} {w : Jvm.Cond} (h : ps_w p w = true) : w ∈ ps_T := by
  unfold ps_w at h
  obtain ⟨h1, h2⟩ := Bool.and_eq_true_iff.mp h
  exact List.mem_filter.mpr ⟨List.mem_of_getElem? (of_decide_eq_true h1), h2⟩
def ps_len : Instr → Nat
  | .bipush _ => 2
  | .ldc _ => 2
  | .iload _ => 2
  | .lload _ => 2
  | .aload _ => 2
  | .istore _ => 2
  | .lstore _ => 2
  | .astore _ => 2
  | .newarray _ => 2
  | .sipush _ => 3
  | .ldc_w _ => 3
  | .ldc2_w _ => 3
  | .iinc _ _ => 3
  | .goto _ => 3
  | .ifCond _ _ => 3
  | .if_icmp _ _ => 3
  | .getfield _ => 3
  | .putfield _ => 3
  | .getstatic _ => 3
  | .invokevirtual _ => 3
  | .invokestatic _ => 3
  | .invokespecial _ => 3
  | .new _ => 3
  | .checkcast _ => 3
  | .ifnonnull _ => 3
  | .invokeinterface _ _ => 5
  | .anewarray _ => 3
  | .multianewarray _ _ => 4
  | _ => 1
def ps_sw : Instr → Bool
  | .tableswitch _ _ _ _ => true
  | .lookupswitch _ _ => true
  | _ => false
def ps_aty (a : Nat) : FieldType := match a with
  | 0 => .int
  | 1 => .long
  | 2 => .byte
  | 3 => .boolean
  | _ => .float
/-- where String constants are named: class, entry, text, which -/
def ps_sr : List (String × Nat × String × Nat) := [("TurnField$Tape", 91, "up", 1000010), ("TurnField$Tape", 95, "exact", 1000011), ("TurnField$Tape", 97, "ruler", 1000012), ("TurnField$Tape", 99, "near", 1000013), ("TurnField$Tape", 69, "heads", 1000014), ("TurnFieldLaw", 117, "up", 1000010), ("TurnFieldLaw", 119, "exact", 1000011), ("TurnFieldLaw", 121, "ruler", 1000012), ("TurnFieldLaw", 123, "near", 1000013), ("TurnFieldLaw", 138, " ", 1000015), ("TurnFieldLaw", 140, "", 1000016), ("TurnFieldLaw", 148, " ;", 1000017), ("TurnFieldLaw", 150, "heads ", 1000018)]
/-- links to private constructors of nest mates -/
def ps_nst : List Jvm.Cond := [Jvm.Cond.methodLinkNest "TurnField" 9 ⟨"TurnField$Position", "<init>", "()V"⟩ "TurnField", Jvm.Cond.methodLinkNest "TurnField$Past" 22 ⟨"TurnField$Position", "<init>", "()V"⟩ "TurnField", Jvm.Cond.methodLinkNest "TurnField" 29 ⟨"TurnField$Tape", "<init>", "()V"⟩ "TurnField", Jvm.Cond.methodLinkNest "TurnField$Tape" 15 ⟨"TurnField$Position", "<init>", "()V"⟩ "TurnField", Jvm.Cond.methodLinkNest "TurnField" 36 ⟨"TurnField$Play", "<init>", "()V"⟩ "TurnField", Jvm.Cond.methodLinkNest "TurnField$Play" 9 ⟨"TurnField$Rule", "<init>", "()V"⟩ "TurnField", Jvm.Cond.methodLinkNest "TurnField" 43 ⟨"TurnField$Lengths", "<init>", "()V"⟩ "TurnField", Jvm.Cond.methodLinkNest "TurnField" 50 ⟨"TurnField$Span", "<init>", "()V"⟩ "TurnField", Jvm.Cond.methodLinkNest "TurnField" 57 ⟨"TurnField$Steps", "<init>", "()V"⟩ "TurnField", Jvm.Cond.methodLinkNest "TurnField" 64 ⟨"TurnField$Polynomials", "<init>", "()V"⟩ "TurnField", Jvm.Cond.methodLinkNest "TurnField" 71 ⟨"TurnField$Curve", "<init>", "()V"⟩ "TurnField", Jvm.Cond.methodLinkNest "TurnFieldLaw" 87 ⟨"TurnFieldLaw$Board", "<init>", "()V"⟩ "TurnFieldLaw"]
/-- links to fields of a nest mate -/
def ps_nsf : List Jvm.Cond := [Jvm.Cond.fieldLinkNest "TurnFieldLaw" 43 "TurnFieldLaw$Board" "many" "[I" "TurnFieldLaw", Jvm.Cond.fieldLinkNest "TurnFieldLaw" 49 "TurnFieldLaw$Board" "kind" "[I" "TurnFieldLaw", Jvm.Cond.fieldLinkNest "TurnFieldLaw" 52 "TurnFieldLaw$Board" "most" "[I" "TurnFieldLaw", Jvm.Cond.fieldLinkNest "TurnFieldLaw" 66 "TurnFieldLaw$Board" "heads" "[[Z" "TurnFieldLaw"]
def ps_npar (y : MethodName) : Option Nat := (parseMethodDescriptor y.desc).map (fun d => d.parameters.length)
/-- what is called by the interface -/
def ps_fcs : List MethodName := [⟨"java/lang/StringBuilder", "length", "()I"⟩, ⟨"java/lang/StringBuilder", "charAt", "(I)C"⟩]
/-- the words of a method itself: kind, code, class initialised, static or instance, selects, same (of AbstractStringBuilder's: 3 called on a StringBuilder, 4 by super alone; 5 by the interface) -/
noncomputable def ps_mok (m2 : pm_M) : Bool := match m2.2.2.2.2.2.1 with
  | [k, p1, p2, p3, p4, p5] => ps_w p1 (.code m2.1 m2.2.1 m2.2.2.1 (pm_ret m2)) && ps_w p2 (.initialized m2.1.cls) && decide (m2.1.cls ≠ "java/lang/invoke/MethodHandle" ∧ m2.1.cls ≠ "java/lang/invoke/VarHandle") && plainName m2.1.cls && Nat.ble m2.2.2.1 40 &&
      (bif Nat.beq k 1 then ps_w p3 (.static m2.1) else bif Nat.beq k 2 then ps_w p3 (.instanceMethod m2.1) && decide (m2.1.name = "<init>") && decide (pm_ret m2 = none) else
       bif Nat.beq k 3 then ps_w p3 (.instanceMethod m2.1) && ps_w p4 (.selects "java/lang/StringBuilder" m2.1 m2.1) && ps_w p5 (.sameMethod m2.1.cls m2.1.cls m2.1.name m2.1.desc) else
       bif Nat.beq k 4 then ps_w p3 (.instanceMethod m2.1) && decide (m2.1.name ≠ "<init>") && decide (m2.1.cls = "java/lang/AbstractStringBuilder") && ps_w p5 (.sameMethod m2.1.cls m2.1.cls m2.1.name m2.1.desc) else
       bif Nat.beq k 5 then ps_w p3 (.instanceMethod m2.1) && ps_w p4 (.selects "java/lang/StringBuilder" ⟨"java/lang/CharSequence", m2.1.name, m2.1.desc⟩ m2.1) && ps_fcs.any (fun y => decide (y = m2.1)) else
       bif Nat.beq k 0 then ps_w p3 (.instanceMethod m2.1) && ps_w p4 (.selects m2.1.cls m2.1 m2.1) else false)
  | _ => false
noncomputable def ps_wok (md : pm_M) (q : pm_I) : Bool := match q with
  | (pc, i, nx, a, b, p) => match i with
    | .getfield n => bif Nat.beq a 100 then bif Nat.beq b 0 then ps_w p (.fieldLink md.1.cls n "java/lang/String" "value" "[B") else ps_w p (.fieldLink md.1.cls n "java/lang/String" "coder" "B") else match pt_cl[a]? with
      | some (C, T, N) => Nat.ble (b + 1) N && (ps_w p (.fieldLink md.1.cls n (T b).1 (T b).2.1 (T b).2.2.1) || ps_nsf.any (fun w => decide (w = .fieldLinkNest md.1.cls n (T b).1 (T b).2.1 (T b).2.2.1 "TurnFieldLaw")))
      | none => false
    | .putfield n => match pt_cl[a]? with
      | some (C, T, N) => Nat.ble (b + 1) N && ps_w p (.fieldLink md.1.cls n (T b).1 (T b).2.1 (T b).2.2.1)
      | none => false
    | .getstatic n => match a with
      | 0 => ps_w p (.fieldLink md.1.cls n "TurnField$Numbers" "LOW" "[J")
      | 1 => ps_w p (.fieldLink md.1.cls n "java/lang/Integer" "DigitOnes" "[B")
      | 4 => ps_w p (.fieldLink md.1.cls n "java/lang/Integer" "DigitTens" "[B")
      | 2 => ps_w p (.fieldLink md.1.cls n "java/lang/String" "COMPACT_STRINGS" "Z")
      | 3 => ps_w p (.fieldLink md.1.cls n "jdk/internal/util/Preconditions" "SIOOBE_FORMATTER" "Ljava/util/function/BiFunction;")
      | _ => true
    | .invokestatic n => bif Nat.beq a 1001 then ps_w p (.methodLink md.1.cls n Lib.Math.max.name) else bif Nat.beq a 1002 then ps_w p (.methodLink md.1.cls n Lib.Math.min.name) else bif Nat.beq a 1004 then ps_w p (.methodLink md.1.cls n arraycopyName) else match pt_M[a]? with
      | some m2 => ps_w p (.methodLink md.1.cls n m2.1) && decide (ps_npar m2.1 = some b)
      | none => true
    | .invokeinterface n _ => match pt_M[a]? with
      | some m2 => ps_w p (.methodLink md.1.cls n ⟨"java/lang/CharSequence", m2.1.name, m2.1.desc⟩) && decide (ps_npar m2.1 = some (b - 1))
      | none => true
    | .checkcast n => ps_w p (.classLink md.1.cls n (bif Nat.beq a 0 then "[I" else "[Z"))
    | .ifnonnull o => decide ((pc : Int) + o = (a : Int))
    | .invokevirtual n => bif Nat.beq a 1003 then ps_w p (.methodLink md.1.cls n ⟨(bif Nat.beq b 0 then "[I" else "[Z"), "clone", "()Ljava/lang/Object;"⟩) else match pt_M[a]? with
      | some m2 => ps_w p (.methodLink md.1.cls n m2.1) && decide (ps_npar m2.1 = some (b - 1))
      | none => true
    | .invokespecial n => bif Nat.beq a 1000 then ps_w p (.methodLink md.1.cls n Lib.objectInit) else match pt_M[a]? with
      | some m2 => (ps_w p (.methodLink md.1.cls n m2.1) || ps_nst.any (fun w => decide (w = Jvm.Cond.methodLinkNest md.1.cls n m2.1 "TurnField") || decide (w = Jvm.Cond.methodLinkNest md.1.cls n m2.1 "TurnFieldLaw"))) && decide (ps_npar m2.1 = some (b - 1))
      | none => true
    | .new n => match pt_cl[a]? with
      | some (C, T, N) => ps_w p (.classLink md.1.cls n C)
      | none => true
    | .newarray ty => Nat.ble a 3 && decide (newarray.typeOf ty = ps_aty a)
    | .anewarray n => ps_w p (.classLink md.1.cls n (bif Nat.beq a 4 then "TurnField$Position" else "java/lang/String"))
    | .multianewarray n _ => ps_w p (.classLink md.1.cls n (bif Nat.beq a 5 then "[[J" else "[[Z"))
    | .ldc n => match pt_ldc[a]? with
      | some (.int v) => ps_w p (.constant md.1.cls n v)
      | some (.ref k) => ps_sr.any (fun r => r.1 == md.1.cls && Nat.beq r.2.1 n && Nat.beq r.2.2.2 k)
      | some _ => false
      | none => true
    | .ldc_w n => match pt_ldc[a]? with
      | some (.int v) => ps_w p (.constant md.1.cls n v)
      | some (.ref k) => ps_sr.any (fun r => r.1 == md.1.cls && Nat.beq r.2.1 n && Nat.beq r.2.2.2 k)
      | some _ => false
      | none => true
    | .ldc2_w n => match pt_ldc[a]? with
      | some (.long v) => ps_w p (.constantLong md.1.cls n v)
      | some _ => false
      | none => true
    | .istore k => Nat.ble (k + 1) md.2.2.1
    | .istore_n k => Nat.ble ((k : Nat) + 1) md.2.2.1
    | .astore k => Nat.ble (k + 1) md.2.2.1
    | .astore_n k => Nat.ble ((k : Nat) + 1) md.2.2.1
    | .lstore k => Nat.ble (k + 2) md.2.2.1
    | .lstore_n k => Nat.ble ((k : Nat) + 2) md.2.2.1
    | .iinc k _ => Nat.ble (k + 1) md.2.2.1
    | .goto o => decide ((pc : Int) + o = (a : Int))
    | .ifCond _ o => decide ((pc : Int) + o = (a : Int))
    | .if_icmp _ o => decide ((pc : Int) + o = (a : Int))
    | _ => true
noncomputable def ps_dok (md : pm_M) (q : pm_I) : Bool := decide (decode md.2.1 q.1 = .ok (q.2.1, q.2.2.1 - q.1)) && (ps_sw q.2.1 || Nat.beq q.2.2.1 (q.1 + ps_len q.2.1))
noncomputable def ps_ok (md : pm_M) : Bool := (pm_cd md).all (fun q => ps_dok md q && ps_wok md q)
theorem ps_at_mem : ∀ (cd : List pm_I) (pc : Nat) (x : Instr × Nat × Nat × Nat), pm_at cd pc = some x → ∃ pp, (pc, x.1, x.2.1, x.2.2.1, x.2.2.2, pp) ∈ cd
  | [], pc, x, h => by cases h
  | (k, i, nx, a, b, q) :: r, pc, x, h => by
    unfold pm_at at h
    cases hk : Nat.beq k pc with
    | true =>
      rw [hk] at h
      cases h
      have e : k = pc := Nat.eq_of_beq_eq_true hk
      subst e
      exact ⟨q, List.mem_cons_self⟩
    | false =>
      rw [hk] at h
      obtain ⟨pp, h1⟩ := ps_at_mem r pc x h
      exact ⟨pp, List.mem_cons_of_mem _ h1⟩
theorem ps_at1 {md : pm_M} {pc nx a b : Nat} {i : Instr} (hok : ps_ok md = true) (g : pm_at (pm_cd md) pc = some (i, nx, a, b)) :
    ∃ pp, decode md.2.1 pc = .ok (i, nx - pc) ∧ (ps_sw i = true ∨ nx = pc + ps_len i) ∧ ps_wok md (pc, i, nx, a, b, pp) = true := by
  obtain ⟨pp, hm⟩ := ps_at_mem _ _ _ g
  have h := List.all_eq_true.mp hok _ hm
  obtain ⟨h1, h2⟩ := Bool.and_eq_true_iff.mp h
  obtain ⟨h3, h4⟩ := Bool.and_eq_true_iff.mp h1
  refine ⟨pp, of_decide_eq_true h3, ?_, h2⟩
  rcases Bool.or_eq_true_iff.mp h4 with q | q
  · exact Or.inl q
  · exact Or.inr (Nat.eq_of_beq_eq_true q)
/-- of all but the switches -/
theorem ps_at2 {md : pm_M} {pc nx a b : Nat} {i : Instr} (hok : ps_ok md = true) (g : pm_at (pm_cd md) pc = some (i, nx, a, b)) (hs : ps_sw i = false) :
    ∃ pp, decode md.2.1 pc = .ok (i, ps_len i) ∧ nx = pc + ps_len i ∧ ps_wok md (pc, i, nx, a, b, pp) = true := by
  obtain ⟨pp, h1, h2, h3⟩ := ps_at1 hok g
  rcases h2 with q | q
  · rw [hs] at q; cases q
  · refine ⟨pp, ?_, q, h3⟩
    rw [h1, q, Nat.add_sub_cancel_left]
