/-! A PURE MACHINE: states are (pc, locals, stack, heap), the heap a list of cells whose references are places in it (from 1000000 on: given things).
pm_W is the least relation closed under the rules pm_R. -/
abbrev pm_H : Type := List va_E
abbrev pm_L : Type := List (Nat × Value)
abbrev pm_P : Type := Nat → pm_L → List Value → pm_H → Prop
abbrev pm_C : Type := Nat → List Value → pm_H → Option Value → pm_H → Prop
abbrev pm_K : Type := Nat × (Nat → Int32)
def pm_at : List pm_I → Nat → Option (Instr × Nat × Nat × Nat)
  | [], _ => none
  | (k, i, nx, a, b, _) :: r, pc => bif Nat.beq k pc then some (i, nx, a, b) else pm_at r pc
def pm_cd (md : pm_M) : List pm_I := md.2.2.2.2.2.2
def pm_al (md : pm_M) : Bool := md.2.2.2.2.1
def pm_ret (md : pm_M) : Option FieldType := md.2.2.2.1
def pm_kind (md : pm_M) : Nat := md.2.2.2.2.2.1.headD 0
noncomputable def pm_mal (k : Nat) : Bool := match pt_M[k]? with
  | some md => pm_al md
  | none => false
/-- how many fields and elements -/
def pm_sz : va_E → Nat
  | .inl x => x.2.1
  | .inr x => x.2.length
def pm_sl : pm_H → Nat
  | [] => 0
  | c :: r => pm_sz c + pm_sl r
def pm_cst : Instr → Option Value
  | .iconst n => some (.int (Int32.ofInt n))
  | .bipush n => some (.int (Int8.ofInt n).toInt32)
  | .sipush n => some (.int (Int16.ofInt n).toInt32)
  | .lconst n => some (.long (Int64.ofNat (n : Nat)))
  | _ => none
def pm_isl : Instr → Bool
  | .ldc _ => true
  | .ldc_w _ => true
  | .ldc2_w _ => true
  | _ => false
def pm_ld : Instr → Value → Option Nat
  | .iload k, .int _ => some k
  | .iload_n k, .int _ => some (k : Nat)
  | .lload k, .long _ => some k
  | .lload_n k, .long _ => some (k : Nat)
  | .aload k, .ref _ => some k
  | .aload_n k, .ref _ => some (k : Nat)
  | _, _ => none
def pm_st : Instr → Value → Option Nat
  | .istore k, .int _ => some k
  | .istore_n k, .int _ => some (k : Nat)
  | .lstore k, .long _ => some k
  | .lstore_n k, .long _ => some (k : Nat)
  | .astore k, .ref _ => some k
  | .astore_n k, .ref _ => some (k : Nat)
  | _, _ => none
def pm_flt (p : Nat × Value → Bool) : pm_L → (pm_L → Option pm_L) → Option pm_L
  | [], c => c []
  | q :: r, c => bif p q then pm_flt p r (fun t => c (q :: t)) else pm_flt p r c
def pm_k1 (k : Nat) (q : Nat × Value) : Bool := !(Nat.beq q.1 k) && !(Nat.beq (q.1 + 1) k && Nat.beq q.2.category 2)
def pm_k2 (k : Nat) (q : Nat × Value) : Bool := !(Nat.beq q.1 k) && (!(Nat.beq q.1 (k + 1)) && !(Nat.beq (q.1 + 1) k && Nat.beq q.2.category 2))
def pm_sto (k : Nat) (v : Value) (l : pm_L) : Option pm_L := match v with
  | .long x => pm_flt (pm_k2 k) l (fun t => some ((k, .long x) :: t))
  | .int x => pm_flt (pm_k1 k) l (fun t => some ((k, .int x) :: t))
  | .ref x => pm_flt (pm_k1 k) l (fun t => some ((k, .ref x) :: t))
  | _ => none
def pm_pck (l : pm_L) : List Nat → (pm_L → Option pm_L) → Option pm_L
  | [], c => c []
  | k :: ks, c => match l[k]? with
    | some q => pm_pck l ks (fun t => c (q :: t))
    | none => none
def pm_bop : Instr → Value → Value → Option Value
  | .iadd, .int y, .int x => some (.int (x + y))
  | .isub, .int y, .int x => some (.int (x - y))
  | .imul, .int y, .int x => some (.int (x * y))
  | .iand, .int y, .int x => some (.int (x &&& y))
  | .ior, .int y, .int x => some (.int (x ||| y))
  | .ixor, .int y, .int x => some (.int (x ^^^ y))
  | .ishl, .int y, .int x => some (.int (x <<< (y &&& 31)))
  | .ishr, .int y, .int x => some (.int (x >>> (y &&& 31)))
  | .iushr, .int y, .int x => some (.int (x.toUInt32 >>> (y.toUInt32 &&& Int32.toUInt32 31)).toInt32)
  | .ladd, .long y, .long x => some (.long (x + y))
  | .lsub, .long y, .long x => some (.long (x - y))
  | .lmul, .long y, .long x => some (.long (x * y))
  | .land, .long y, .long x => some (.long (x &&& y))
  | .lor, .long y, .long x => some (.long (x ||| y))
  | .lxor, .long y, .long x => some (.long (x ^^^ y))
  | .lshl, .int y, .long x => some (.long (x <<< (y.toInt64 &&& 63)))
  | .lshr, .int y, .long x => some (.long (x >>> (y.toInt64 &&& 63)))
  | .lushr, .int y, .long x => some (.long (x.toUInt64 >>> (y.toInt64.toUInt64 &&& Int64.toUInt64 63)).toInt64)
  | .lcmp, .long y, .long x => some (.int (lg_cmp x y))
  | _, _, _ => none
def pm_dop : Instr → Value → Value → Option (Value × Prop)
  | .idiv, .int y, .int x => some (.int (x / y), ¬ y = 0)
  | .irem, .int y, .int x => some (.int (x - x / y * y), ¬ y = 0)
  | .ldiv, .long y, .long x => some (.long (x / y), ¬ y = 0)
  | .lrem, .long y, .long x => some (.long (x - x / y * y), ¬ y = 0)
  | _, _, _ => none
def pm_uop : Instr → Value → Option Value
  | .ineg, .int x => some (.int (-x))
  | .lneg, .long x => some (.long (-x))
  | .i2l, .int x => some (.long x.toInt64)
  | .l2i, .long x => some (.int x.toInt32)
  | .i2b, .int x => some (.int x.toInt8.toInt32)
  | .i2c, .int x => some (.int (x.toUInt32 % 65536).toInt32)
  | _, _ => none
def pm_sop : Instr → List Value → Option (List Value)
  | .dup, a :: r => bif Nat.beq a.category 1 then some (a :: a :: r) else none
  | .pop, a :: r => bif Nat.beq a.category 1 then some r else none
  | .dup_x1, a :: b :: r => bif Nat.beq a.category 1 && Nat.beq b.category 1 then some (a :: b :: a :: r) else none
  | .dup2, a :: r => bif Nat.beq a.category 2 then some (a :: a :: r) else match r with
    | b :: t => bif Nat.beq a.category 1 && Nat.beq b.category 1 then some (a :: b :: a :: b :: t) else none
    | [] => none
  | _, _ => none
def pm_cnd : Jvm.ClassFile.Cond → Int32 → Int32 → Prop
  | .eq, x, y => x = y
  | .ne, x, y => ¬ x = y
  | .lt, x, y => x < y
  | .ge, x, y => y ≤ x
  | .gt, x, y => y < x
  | .le, x, y => x ≤ y
def pm_spl : Nat → List Value → List Value → Option (List Value × List Value)
  | 0, st, acc => some (acc, st)
  | _ + 1, [], _ => none
  | n + 1, v :: st, acc => pm_spl n st (v :: acc)
def pm_cat : List Value → Nat
  | [] => 0
  | v :: r => v.category + pm_cat r
def pm_pu (r : Option Value) (st : List Value) : List Value := match r with
  | some v => v :: st
  | none => st
def pm_inv : Instr → Option Nat
  | .invokestatic k => some k
  | .invokevirtual k => some k
  | .invokespecial k => some k
  | _ => none
/-- what a field of that type takes -/
def pm_fit (t : FieldType) (v : Value) : Prop := narrow t v = v ∧ fits t v = true
/-- the given arrays: the script, two tables of Numbers, the bytes of five words -/
def pm_low : List Int64 := [6148914691236517205, 3689348814741910323, 1085102592571150095, 71777214294589695, 281470681808895, 4294967295]
def pm_ones : List Int32 := [48, 49, 50, 51, 52, 53, 54, 55, 56, 57, 48, 49, 50, 51, 52, 53, 54, 55, 56, 57, 48, 49, 50, 51, 52, 53, 54, 55, 56, 57, 48, 49, 50, 51, 52, 53, 54, 55, 56, 57, 48, 49, 50, 51, 52, 53, 54, 55, 56, 57, 48, 49, 50, 51, 52, 53, 54, 55, 56, 57, 48, 49, 50, 51, 52, 53, 54, 55, 56, 57, 48, 49, 50, 51, 52, 53, 54, 55, 56, 57, 48, 49, 50, 51, 52, 53, 54, 55, 56, 57, 48, 49, 50, 51, 52, 53, 54, 55, 56, 57]
def pm_tens : List Int32 := [48, 48, 48, 48, 48, 48, 48, 48, 48, 48, 49, 49, 49, 49, 49, 49, 49, 49, 49, 49, 50, 50, 50, 50, 50, 50, 50, 50, 50, 50, 51, 51, 51, 51, 51, 51, 51, 51, 51, 51, 52, 52, 52, 52, 52, 52, 52, 52, 52, 52, 53, 53, 53, 53, 53, 53, 53, 53, 53, 53, 54, 54, 54, 54, 54, 54, 54, 54, 54, 54, 55, 55, 55, 55, 55, 55, 55, 55, 55, 55, 56, 56, 56, 56, 56, 56, 56, 56, 56, 56, 57, 57, 57, 57, 57, 57, 57, 57, 57, 57]
def pm_wds : List (List Int32) := [[117, 112], [101, 120, 97, 99, 116], [114, 117, 108, 101, 114], [110, 101, 97, 114], [104, 101, 97, 100, 115], [32], [], [32, 59], [104, 101, 97, 100, 115, 32]]
def pm_kt (kp : pm_K) : List (Nat × Nat × vp_A) := [(1000000, 0, (kp.1, .inl kp.2)),
  (1000001, 1, (6, .inr (.inl (fun i => pm_low.getD i 0)))),
  (1000002, 2, (100, .inl (fun i => pm_ones.getD i 0))),
  (1000003, 2, (100, .inl (fun i => pm_tens.getD i 0))),
  (1000030, 2, (2, .inl (fun i => (pm_wds.getD 0 []).getD i 0))),
  (1000031, 2, (5, .inl (fun i => (pm_wds.getD 1 []).getD i 0))),
  (1000032, 2, (5, .inl (fun i => (pm_wds.getD 2 []).getD i 0))),
  (1000033, 2, (4, .inl (fun i => (pm_wds.getD 3 []).getD i 0))),
  (1000034, 2, (5, .inl (fun i => (pm_wds.getD 4 []).getD i 0))),
  (1000035, 2, (1, .inl (fun i => (pm_wds.getD 5 []).getD i 0))),
  (1000036, 2, (0, .inl (fun i => (pm_wds.getD 6 []).getD i 0))),
  (1000037, 2, (2, .inl (fun i => (pm_wds.getD 7 []).getD i 0))),
  (1000038, 2, (6, .inl (fun i => (pm_wds.getD 8 []).getD i 0)))]
def pm_lk : List (Nat × Nat × vp_A) → Nat → Option (Nat × vp_A)
  | [], _ => none
  | q :: r, o => bif Nat.beq q.1 o then some q.2 else pm_lk r o
def pm_kar (kp : pm_K) (o : Nat) : Option (Nat × vp_A) := pm_lk (pm_kt kp) o
def pm_gst : Nat → Option Value
  | 0 => some (.ref 1000001)
  | 1 => some (.ref 1000002)
  | 2 => some (.int 1)
  | 3 => some (.retAddr 0)
  | 4 => some (.ref 1000003)
  | _ => none
def pm_kfl (o k : Nat) : Option Value :=
  bif Nat.ble 1000010 o && Nat.ble o 1000018 then match k with
    | 0 => some (.ref (o + 20))
    | 1 => some (.int 0)
    | _ => none
  else none
def pm_zer (t : Nat) : (Nat → Int32) ⊕ (Nat → Int64) ⊕ (Nat → UInt32) ⊕ (Nat → UInt64) ⊕ (Nat → Option Nat) := match t with
  | 1 => .inr (.inl fun _ => 0)
  | _ => .inl fun _ => 0
def pm_new (ci : Nat) : Option (List Value) := match ci with
  | 0 => some [.null, .null, .null, .null, .int 0, .int 0]
  | 1 => some [.null, .null, .null, .int 0, .int 0, .int 0, .int 0, .int 0, .int 0, .int 0]
  | 2 => some [.null, .int 0, .int 0]
  | 3 => some [.null, .null, .null, .int 0, .int 0, .int 0, .int 0]
  | 4 => some [.null, .null, .null, .null, .null, .null, .null, .null, .null, .null, .null, .null, .int 0, .int 0, .int 0]
  | 5 => some [.int 0, .int 0, .int 0, .int 0, .int 0, .int 0, .long 0, .null, .int 0, .int 0, .null, .int 0]
  | 6 => some [.null, .null, .null, .null, .int 0, .int 0]
  | 7 => some [.null, .null]
  | 8 => some [.null, .null, .int 0, .long 0]
  | 9 => some [.null, .null, .int 0, .int 0, .int 0]
  | 10 => some [.null, .null, .null, .null, .null, .null, .null, .null, .null, .null]
  | 11 => some [.null, .null, .null, .null]
  | 12 => some [.null, .int 0, .int 0, .int 0]
  | _ => none
def pm_row (a M : Nat) : va_E := bif Nat.beq a 5 then .inl (1, (M, .inr (.inl fun _ => 0))) else .inl (3, (M, .inl fun _ => 0))
def pm_tyk (ci : Nat) : Nat → FieldType := match ci with
  | 0 => pt_t0
  | 1 => pt_t1
  | 2 => pt_t2
  | 3 => pt_t3
  | 4 => pt_t4
  | 5 => pt_t5
  | 6 => pt_t6
  | 7 => pt_t7
  | 8 => pt_t8
  | 9 => pt_t9
  | 10 => pt_t10
  | 11 => pt_t11
  | _ => pt_t12
/-- a field's type, and whether it is final -/
def pm_fty (ci k : Nat) : Option (FieldType × Bool) := match pt_cl[ci]? with
  | some q => bif Nat.ble (k + 1) q.2.2 then some (pm_tyk ci k, (q.2.1 k).2.2.2) else none
  | none => none
def pm_setc : List Value → Nat → Value → (List Value → Option (List Value)) → Option (List Value)
  | [], _, _, _ => none
  | _ :: r, 0, v, c => c (v :: r)
  | q :: r, k + 1, v, c => pm_setc r k v (fun t => c (q :: t))
def pm_set (fs : List Value) (k : Nat) (v : Value) : Option (List Value) := pm_setc fs k v some
/-- a constructor of that class -/
def pm_own (md : pm_M) (ci : Nat) : Prop := md.1.name = "<init>" ∧ (pt_cl[ci]?).map (fun q => q.1) = some md.1.cls
def pm_knd (k n : Nat) : Prop := (pt_M[k]?).map pm_kind = some n
/-- the class of a method, by its place -/
noncomputable def pm_mci (k : Nat) : Option Nat := match pt_M[k]? with
  | some md => pt_cl.findIdx? (fun q => q.1 == md.1.cls)
  | none => none
noncomputable def pm_mst (k : Nat) : Bool := match pt_M[k]? with
  | some md => md.1.cls == "java/lang/String"
  | none => false

def pr_cst (kp : pm_K) (md : pm_M) (C : pm_C) (hb sb : Nat) (Q : Option Value → pm_H → Prop) (P : pm_P) : Prop := ∀ (pc nx a b : Nat) (lv : pm_L) (st : List Value) (h : pm_H) (i : Instr) (v : Value), pm_at (pm_cd md) pc = some (i, nx, a, b) → pm_cst i = some v → P nx lv (v :: st) h → P pc lv st h
def pr_ldc (kp : pm_K) (md : pm_M) (C : pm_C) (hb sb : Nat) (Q : Option Value → pm_H → Prop) (P : pm_P) : Prop := ∀ (pc nx a b : Nat) (lv : pm_L) (st : List Value) (h : pm_H) (i : Instr) (v : Value), pm_at (pm_cd md) pc = some (i, nx, a, b) → pm_isl i = true → pt_ldc[a]? = some v → P nx lv (v :: st) h → P pc lv st h
def pr_ld (kp : pm_K) (md : pm_M) (C : pm_C) (hb sb : Nat) (Q : Option Value → pm_H → Prop) (P : pm_P) : Prop := ∀ (pc nx a b : Nat) (lv : pm_L) (st : List Value) (h : pm_H) (i : Instr) (v : Value) (k : Nat) (j : Nat), pm_at (pm_cd md) pc = some (i, nx, a, b) → pm_ld i v = some k → lv[j]? = some (k, v) → P nx lv (v :: st) h → P pc lv st h
def pr_sto (kp : pm_K) (md : pm_M) (C : pm_C) (hb sb : Nat) (Q : Option Value → pm_H → Prop) (P : pm_P) : Prop := ∀ (pc nx a b : Nat) (lv : pm_L) (st : List Value) (h : pm_H) (i : Instr) (v : Value) (k : Nat) (lv1 : pm_L), pm_at (pm_cd md) pc = some (i, nx, a, b) → pm_st i v = some k → pm_sto k v lv = some lv1 → P nx lv1 st h → P pc lv (v :: st) h
def pr_bop (kp : pm_K) (md : pm_M) (C : pm_C) (hb sb : Nat) (Q : Option Value → pm_H → Prop) (P : pm_P) : Prop := ∀ (pc nx a b : Nat) (lv : pm_L) (st : List Value) (h : pm_H) (i : Instr) (v x y : Value), pm_at (pm_cd md) pc = some (i, nx, a, b) → pm_bop i y x = some v → P nx lv (v :: st) h → P pc lv (y :: x :: st) h
def pr_dop (kp : pm_K) (md : pm_M) (C : pm_C) (hb sb : Nat) (Q : Option Value → pm_H → Prop) (P : pm_P) : Prop := ∀ (pc nx a b : Nat) (lv : pm_L) (st : List Value) (h : pm_H) (i : Instr) (v x y : Value) (c : Prop), pm_at (pm_cd md) pc = some (i, nx, a, b) → pm_dop i y x = some (v, c) → c → P nx lv (v :: st) h → P pc lv (y :: x :: st) h
def pr_uop (kp : pm_K) (md : pm_M) (C : pm_C) (hb sb : Nat) (Q : Option Value → pm_H → Prop) (P : pm_P) : Prop := ∀ (pc nx a b : Nat) (lv : pm_L) (st : List Value) (h : pm_H) (i : Instr) (v x : Value), pm_at (pm_cd md) pc = some (i, nx, a, b) → pm_uop i x = some v → P nx lv (v :: st) h → P pc lv (x :: st) h
def pr_sop (kp : pm_K) (md : pm_M) (C : pm_C) (hb sb : Nat) (Q : Option Value → pm_H → Prop) (P : pm_P) : Prop := ∀ (pc nx a b : Nat) (lv : pm_L) (st : List Value) (h : pm_H) (i : Instr) (st1 : List Value), pm_at (pm_cd md) pc = some (i, nx, a, b) → pm_sop i st = some st1 → P nx lv st1 h → P pc lv st h
def pr_inc (kp : pm_K) (md : pm_M) (C : pm_C) (hb sb : Nat) (Q : Option Value → pm_H → Prop) (P : pm_P) : Prop := ∀ (pc nx a b : Nat) (lv : pm_L) (st : List Value) (h : pm_H) (k : Nat) (n : Int) (x : Int32) (lv1 : pm_L) (j : Nat), pm_at (pm_cd md) pc = some (.iinc k n, nx, a, b) → lv[j]? = some (k, .int x) → pm_sto k (.int (x + Int32.ofInt n)) lv = some lv1 → P nx lv1 st h → P pc lv st h
def pr_goto (kp : pm_K) (md : pm_M) (C : pm_C) (hb sb : Nat) (Q : Option Value → pm_H → Prop) (P : pm_P) : Prop := ∀ (pc nx a b : Nat) (lv : pm_L) (st : List Value) (h : pm_H) (n : Int), pm_at (pm_cd md) pc = some (.goto n, nx, a, b) → P a lv st h → P pc lv st h
def pr_ifc (kp : pm_K) (md : pm_M) (C : pm_C) (hb sb : Nat) (Q : Option Value → pm_H → Prop) (P : pm_P) : Prop := ∀ (pc nx a b : Nat) (lv : pm_L) (st : List Value) (h : pm_H) (c : Jvm.ClassFile.Cond) (n : Int) (x : Int32), pm_at (pm_cd md) pc = some (.ifCond c n, nx, a, b) → (pm_cnd c x 0 → P a lv st h) → (¬ pm_cnd c x 0 → P nx lv st h) → P pc lv (.int x :: st) h
def pr_icm (kp : pm_K) (md : pm_M) (C : pm_C) (hb sb : Nat) (Q : Option Value → pm_H → Prop) (P : pm_P) : Prop := ∀ (pc nx a b : Nat) (lv : pm_L) (st : List Value) (h : pm_H) (c : Jvm.ClassFile.Cond) (n : Int) (x y : Int32), pm_at (pm_cd md) pc = some (.if_icmp c n, nx, a, b) → (pm_cnd c x y → P a lv st h) → (¬ pm_cnd c x y → P nx lv st h) → P pc lv (.int y :: .int x :: st) h
def pr_tso (kp : pm_K) (md : pm_M) (C : pm_C) (hb sb : Nat) (Q : Option Value → pm_H → Prop) (P : pm_P) : Prop := ∀ (pc nx a b : Nat) (lv : pm_L) (st : List Value) (h : pm_H) (d lo hi : Int) (os : Array Int) (x : Int32) (t : Nat), pm_at (pm_cd md) pc = some (.tableswitch d lo hi os, nx, a, b) → (x.toInt < lo ∨ hi < x.toInt) → (pc : Int) + d = (t : Int) → P t lv st h → P pc lv (.int x :: st) h
def pr_tsi (kp : pm_K) (md : pm_M) (C : pm_C) (hb sb : Nat) (Q : Option Value → pm_H → Prop) (P : pm_P) : Prop := ∀ (pc nx a b : Nat) (lv : pm_L) (st : List Value) (h : pm_H) (d lo hi off : Int) (os : Array Int) (x : Int32) (t : Nat), pm_at (pm_cd md) pc = some (.tableswitch d lo hi os, nx, a, b) → ¬ x.toInt < lo → ¬ hi < x.toInt → os[(x.toInt - lo).toNat]? = some off → (pc : Int) + off = (t : Int) → P t lv st h → P pc lv (.int x :: st) h
def pr_lsw (kp : pm_K) (md : pm_M) (C : pm_C) (hb sb : Nat) (Q : Option Value → pm_H → Prop) (P : pm_P) : Prop := ∀ (pc nx a b : Nat) (lv : pm_L) (st : List Value) (h : pm_H) (d : Int) (ps : Array (Int × Int)) (x : Int32) (t : Nat), pm_at (pm_cd md) pc = some (.lookupswitch d ps, nx, a, b) → (ps.toList.zip (ps.toList.drop 1)).all (fun (a, next) => a.1 < next.1) = true → (pc : Int) + Op.lookupswitch.offset ps.toList d x.toInt = (t : Int) → P t lv st h → P pc lv (.int x :: st) h
def pr_get (kp : pm_K) (md : pm_M) (C : pm_C) (hb sb : Nat) (Q : Option Value → pm_H → Prop) (P : pm_P) : Prop := ∀ (pc nx a b : Nat) (lv : pm_L) (st : List Value) (h : pm_H) (n o : Nat) (fs : List Value) (v : Value), pm_at (pm_cd md) pc = some (.getfield n, nx, a, b) → h[o]? = some (.inr (a, fs)) → fs[b]? = some v → P nx lv (v :: st) h → P pc lv (.ref o :: st) h
def pr_gek (kp : pm_K) (md : pm_M) (C : pm_C) (hb sb : Nat) (Q : Option Value → pm_H → Prop) (P : pm_P) : Prop := ∀ (pc nx a b : Nat) (lv : pm_L) (st : List Value) (h : pm_H) (n o : Nat) (v : Value), pm_at (pm_cd md) pc = some (.getfield n, nx, a, b) → a = 100 → pm_kfl o b = some v → P nx lv (v :: st) h → P pc lv (.ref o :: st) h
def pr_put (kp : pm_K) (md : pm_M) (C : pm_C) (hb sb : Nat) (Q : Option Value → pm_H → Prop) (P : pm_P) : Prop := ∀ (pc nx a b : Nat) (lv : pm_L) (st : List Value) (h : pm_H) (n o : Nat) (fs fs1 : List Value) (v : Value) (ty : FieldType), pm_at (pm_cd md) pc = some (.putfield n, nx, a, b) → h[o]? = some (.inr (a, fs)) → pm_fty a b = some (ty, false) → pm_fit ty v → pm_set fs b v = some fs1 → P nx lv st (h.set o (.inr (a, fs1))) → P pc lv (v :: .ref o :: st) h
def pr_puf (kp : pm_K) (md : pm_M) (C : pm_C) (hb sb : Nat) (Q : Option Value → pm_H → Prop) (P : pm_P) : Prop := ∀ (pc nx a b : Nat) (lv : pm_L) (st : List Value) (h : pm_H) (n o : Nat) (fs fs1 : List Value) (v : Value) (ty : FieldType), pm_at (pm_cd md) pc = some (.putfield n, nx, a, b) → h[o]? = some (.inr (a, fs)) → pm_fty a b = some (ty, true) → pm_own md a → pm_fit ty v → pm_set fs b v = some fs1 → P nx lv st (h.set o (.inr (a, fs1))) → P pc lv (v :: .ref o :: st) h
def pr_ial (kp : pm_K) (md : pm_M) (C : pm_C) (hb sb : Nat) (Q : Option Value → pm_H → Prop) (P : pm_P) : Prop := ∀ (pc nx a b : Nat) (lv : pm_L) (st : List Value) (h : pm_H) (o n : Nat) (f : Nat → Int32) (j : Int32), pm_at (pm_cd md) pc = some (.iaload, nx, a, b) → h[o]? = some (.inl (0, (n, .inl f))) → vp_in j n → P nx lv (.int (f j.toNatClampNeg) :: st) h → P pc lv (.int j :: .ref o :: st) h
def pr_bal (kp : pm_K) (md : pm_M) (C : pm_C) (hb sb : Nat) (Q : Option Value → pm_H → Prop) (P : pm_P) : Prop := ∀ (pc nx a b : Nat) (lv : pm_L) (st : List Value) (h : pm_H) (o n : Nat) (f : Nat → Int32) (j : Int32), pm_at (pm_cd md) pc = some (.baload, nx, a, b) → h[o]? = some (.inl (2, (n, .inl f))) → vp_in j n → P nx lv (.int (f j.toNatClampNeg) :: st) h → P pc lv (.int j :: .ref o :: st) h
def pr_zal (kp : pm_K) (md : pm_M) (C : pm_C) (hb sb : Nat) (Q : Option Value → pm_H → Prop) (P : pm_P) : Prop := ∀ (pc nx a b : Nat) (lv : pm_L) (st : List Value) (h : pm_H) (o n : Nat) (f : Nat → Int32) (j : Int32), pm_at (pm_cd md) pc = some (.baload, nx, a, b) → h[o]? = some (.inl (3, (n, .inl f))) → vp_in j n → P nx lv (.int (f j.toNatClampNeg) :: st) h → P pc lv (.int j :: .ref o :: st) h
def pr_lal (kp : pm_K) (md : pm_M) (C : pm_C) (hb sb : Nat) (Q : Option Value → pm_H → Prop) (P : pm_P) : Prop := ∀ (pc nx a b : Nat) (lv : pm_L) (st : List Value) (h : pm_H) (o n : Nat) (f : Nat → Int64) (j : Int32), pm_at (pm_cd md) pc = some (.laload, nx, a, b) → h[o]? = some (.inl (1, (n, .inr (.inl f)))) → vp_in j n → P nx lv (.long (f j.toNatClampNeg) :: st) h → P pc lv (.int j :: .ref o :: st) h
def pr_aal (kp : pm_K) (md : pm_M) (C : pm_C) (hb sb : Nat) (Q : Option Value → pm_H → Prop) (P : pm_P) : Prop := ∀ (pc nx a b : Nat) (lv : pm_L) (st : List Value) (h : pm_H) (o n r : Nat) (f : Nat → Option Nat) (j : Int32) (t : Nat), pm_at (pm_cd md) pc = some (.aaload, nx, a, b) → h[o]? = some (.inl (t, (n, .inr (.inr (.inr (.inr f)))))) → (4 ≤ t ∧ t ≤ 7) → vp_in j n → f j.toNatClampNeg = some r → P nx lv (.ref r :: st) h → P pc lv (.int j :: .ref o :: st) h
def pr_kil (kp : pm_K) (md : pm_M) (C : pm_C) (hb sb : Nat) (Q : Option Value → pm_H → Prop) (P : pm_P) : Prop := ∀ (pc nx a b : Nat) (lv : pm_L) (st : List Value) (h : pm_H) (o n : Nat) (f : Nat → Int32) (j : Int32), pm_at (pm_cd md) pc = some (.iaload, nx, a, b) → pm_kar kp o = some (0, (n, .inl f)) → vp_in j n → P nx lv (.int (f j.toNatClampNeg) :: st) h → P pc lv (.int j :: .ref o :: st) h
def pr_kbl (kp : pm_K) (md : pm_M) (C : pm_C) (hb sb : Nat) (Q : Option Value → pm_H → Prop) (P : pm_P) : Prop := ∀ (pc nx a b : Nat) (lv : pm_L) (st : List Value) (h : pm_H) (o n : Nat) (f : Nat → Int32) (j : Int32), pm_at (pm_cd md) pc = some (.baload, nx, a, b) → pm_kar kp o = some (2, (n, .inl f)) → vp_in j n → P nx lv (.int (f j.toNatClampNeg) :: st) h → P pc lv (.int j :: .ref o :: st) h
def pr_kll (kp : pm_K) (md : pm_M) (C : pm_C) (hb sb : Nat) (Q : Option Value → pm_H → Prop) (P : pm_P) : Prop := ∀ (pc nx a b : Nat) (lv : pm_L) (st : List Value) (h : pm_H) (o n : Nat) (f : Nat → Int64) (j : Int32), pm_at (pm_cd md) pc = some (.laload, nx, a, b) → pm_kar kp o = some (1, (n, .inr (.inl f))) → vp_in j n → P nx lv (.long (f j.toNatClampNeg) :: st) h → P pc lv (.int j :: .ref o :: st) h
def pr_kle (kp : pm_K) (md : pm_M) (C : pm_C) (hb sb : Nat) (Q : Option Value → pm_H → Prop) (P : pm_P) : Prop := ∀ (pc nx a b : Nat) (lv : pm_L) (st : List Value) (h : pm_H) (o n : Nat) (t : Nat) (x : (Nat → Int32) ⊕ (Nat → Int64) ⊕ (Nat → UInt32) ⊕ (Nat → UInt64) ⊕ (Nat → Option Nat)), pm_at (pm_cd md) pc = some (.arraylength, nx, a, b) → pm_kar kp o = some (t, (n, x)) → P nx lv (.int (Int32.ofNat n) :: st) h → P pc lv (.ref o :: st) h
def pr_ias (kp : pm_K) (md : pm_M) (C : pm_C) (hb sb : Nat) (Q : Option Value → pm_H → Prop) (P : pm_P) : Prop := ∀ (pc nx a b : Nat) (lv : pm_L) (st : List Value) (h : pm_H) (o n : Nat) (f : Nat → Int32) (j x : Int32), pm_at (pm_cd md) pc = some (.iastore, nx, a, b) → h[o]? = some (.inl (0, (n, .inl f))) → vp_in j n → P nx lv st (h.set o (.inl (0, (n, .inl (upd f j.toNatClampNeg x))))) → P pc lv (.int x :: .int j :: .ref o :: st) h
def pr_bas (kp : pm_K) (md : pm_M) (C : pm_C) (hb sb : Nat) (Q : Option Value → pm_H → Prop) (P : pm_P) : Prop := ∀ (pc nx a b : Nat) (lv : pm_L) (st : List Value) (h : pm_H) (o n : Nat) (f : Nat → Int32) (j x : Int32), pm_at (pm_cd md) pc = some (.bastore, nx, a, b) → h[o]? = some (.inl (2, (n, .inl f))) → vp_in j n → P nx lv st (h.set o (.inl (2, (n, .inl (upd f j.toNatClampNeg (vp_nar .byte x)))))) → P pc lv (.int x :: .int j :: .ref o :: st) h
def pr_zas (kp : pm_K) (md : pm_M) (C : pm_C) (hb sb : Nat) (Q : Option Value → pm_H → Prop) (P : pm_P) : Prop := ∀ (pc nx a b : Nat) (lv : pm_L) (st : List Value) (h : pm_H) (o n : Nat) (f : Nat → Int32) (j x : Int32), pm_at (pm_cd md) pc = some (.bastore, nx, a, b) → h[o]? = some (.inl (3, (n, .inl f))) → vp_in j n → P nx lv st (h.set o (.inl (3, (n, .inl (upd f j.toNatClampNeg (vp_nar .boolean x)))))) → P pc lv (.int x :: .int j :: .ref o :: st) h
def pr_las (kp : pm_K) (md : pm_M) (C : pm_C) (hb sb : Nat) (Q : Option Value → pm_H → Prop) (P : pm_P) : Prop := ∀ (pc nx a b : Nat) (lv : pm_L) (st : List Value) (h : pm_H) (o n : Nat) (f : Nat → Int64) (j : Int32) (x : Int64), pm_at (pm_cd md) pc = some (.lastore, nx, a, b) → h[o]? = some (.inl (1, (n, .inr (.inl f)))) → vp_in j n → P nx lv st (h.set o (.inl (1, (n, .inr (.inl (vp_updL f j.toNatClampNeg x)))))) → P pc lv (.long x :: .int j :: .ref o :: st) h
def pr_aas (kp : pm_K) (md : pm_M) (C : pm_C) (hb sb : Nat) (Q : Option Value → pm_H → Prop) (P : pm_P) : Prop := ∀ (pc nx a b : Nat) (lv : pm_L) (st : List Value) (h : pm_H) (o n r : Nat) (f : Nat → Option Nat) (j : Int32) (fs : List Value), pm_at (pm_cd md) pc = some (.aastore, nx, a, b) → h[o]? = some (.inl (4, (n, .inr (.inr (.inr (.inr f)))))) → vp_in j n → h[r]? = some (.inr (5, fs)) → P nx lv st (h.set o (.inl (4, (n, .inr (.inr (.inr (.inr (va_up f j.toNatClampNeg (some r))))))))) → P pc lv (.ref r :: .int j :: .ref o :: st) h
def pr_len (kp : pm_K) (md : pm_M) (C : pm_C) (hb sb : Nat) (Q : Option Value → pm_H → Prop) (P : pm_P) : Prop := ∀ (pc nx a b : Nat) (lv : pm_L) (st : List Value) (h : pm_H) (o n : Nat) (t : Nat) (x : (Nat → Int32) ⊕ (Nat → Int64) ⊕ (Nat → UInt32) ⊕ (Nat → UInt64) ⊕ (Nat → Option Nat)), pm_at (pm_cd md) pc = some (.arraylength, nx, a, b) → h[o]? = some (.inl (t, (n, x))) → t < 8 → P nx lv (.int (Int32.ofNat n) :: st) h → P pc lv (.ref o :: st) h
def pr_new (kp : pm_K) (md : pm_M) (C : pm_C) (hb sb : Nat) (Q : Option Value → pm_H → Prop) (P : pm_P) : Prop := ∀ (pc nx a b : Nat) (lv : pm_L) (st : List Value) (h : pm_H) (n : Nat) (fs : List Value), pm_at (pm_cd md) pc = some (.new n, nx, a, b) → pm_al md = true → pm_new a = some fs → h.length + 1 ≤ hb → pm_sl h + fs.length ≤ sb → h.length < 100000 → P nx lv (.ref h.length :: st) (h ++ [.inr (a, fs)]) → P pc lv st h
def pr_nwa (kp : pm_K) (md : pm_M) (C : pm_C) (hb sb : Nat) (Q : Option Value → pm_H → Prop) (P : pm_P) : Prop := ∀ (pc nx a b : Nat) (lv : pm_L) (st : List Value) (h : pm_H) (ty : ArrayType) (n : Int32) (N : Nat), pm_at (pm_cd md) pc = some (.newarray ty, nx, a, b) → pm_al md = true → ¬ n < 0 → n.toNatClampNeg = N → N ≤ 1000000 → h.length + 1 ≤ hb → pm_sl h + N ≤ sb → h.length < 100000 → P nx lv (.ref h.length :: st) (h ++ [.inl (a, (N, pm_zer a))]) → P pc lv (.int n :: st) h
def pr_nwr (kp : pm_K) (md : pm_M) (C : pm_C) (hb sb : Nat) (Q : Option Value → pm_H → Prop) (P : pm_P) : Prop := ∀ (pc nx a b : Nat) (lv : pm_L) (st : List Value) (h : pm_H) (i : Nat) (n : Int32) (N : Nat), pm_at (pm_cd md) pc = some (.anewarray i, nx, a, b) → (a = 4 ∨ a = 7) → pm_al md = true → ¬ n < 0 → n.toNatClampNeg = N → N ≤ 1000000 → h.length + 1 ≤ hb → pm_sl h + N ≤ sb → h.length < 100000 → P nx lv (.ref h.length :: st) (h ++ [.inl (a, (N, .inr (.inr (.inr (.inr fun _ => none)))))]) → P pc lv (.int n :: st) h
def pr_nwm (kp : pm_K) (md : pm_M) (C : pm_C) (hb sb : Nat) (Q : Option Value → pm_H → Prop) (P : pm_P) : Prop := ∀ (pc nx a b : Nat) (lv : pm_L) (st : List Value) (h : pm_H) (i : Nat) (n m : Int32) (N M : Nat), pm_at (pm_cd md) pc = some (.multianewarray i 2, nx, a, b) → (a = 5 ∨ a = 6) → pm_al md = true → ¬ n < 0 → ¬ m < 0 → n.toNatClampNeg = N → m.toNatClampNeg = M → N ≤ 100 → M ≤ 100 → h.length + (1 + N) ≤ hb → pm_sl h + (N + N * M) ≤ sb → h.length + N < 100000 → P nx lv (.ref h.length :: st) (h ++ ([.inl (a, (N, .inr (.inr (.inr (.inr fun j => if j < N then some (h.length + 1 + j) else none)))))] ++ List.replicate N (pm_row a M))) → P pc lv (.int m :: .int n :: st) h
def pr_cls (kp : pm_K) (md : pm_M) (C : pm_C) (hb sb : Nat) (Q : Option Value → pm_H → Prop) (P : pm_P) : Prop := ∀ (pc nx a b : Nat) (lv : pm_L) (st : List Value) (h : pm_H) (i : Instr) (n : Nat) (as rest : List Value) (r : Option Value) (h1 : pm_H), pm_at (pm_cd md) pc = some (i, nx, a, b) → i = .invokestatic n → pm_knd a 1 → pm_spl b st [] = some (as, rest) → pm_cat rest ≤ 8 → (pm_mal a = false ∨ pm_al md = true ∧ h1.length ≤ hb ∧ pm_sl h1 ≤ sb) → C a as h r h1 → P nx lv (pm_pu r rest) h1 → P pc lv st h
def pr_clv (kp : pm_K) (md : pm_M) (C : pm_C) (hb sb : Nat) (Q : Option Value → pm_H → Prop) (P : pm_P) : Prop := ∀ (pc nx a b : Nat) (lv : pm_L) (st : List Value) (h : pm_H) (i : Instr) (n o ci : Nat) (as rest fs : List Value) (r : Option Value) (h1 : pm_H), pm_at (pm_cd md) pc = some (i, nx, a, b) → (i = .invokevirtual n ∧ pm_knd a 0 ∨ i = .invokespecial n ∧ pm_knd a 2) → pm_spl b st [] = some (.ref o :: as, rest) → pm_cat rest ≤ 8 → h[o]? = some (.inr (ci, fs)) → pm_mci a = some ci → (pm_mal a = false ∨ pm_al md = true ∧ h1.length ≤ hb ∧ pm_sl h1 ≤ sb) → C a (.ref o :: as) h r h1 → P nx lv (pm_pu r rest) h1 → P pc lv st h
def pr_clk (kp : pm_K) (md : pm_M) (C : pm_C) (hb sb : Nat) (Q : Option Value → pm_H → Prop) (P : pm_P) : Prop := ∀ (pc nx a b : Nat) (lv : pm_L) (st : List Value) (h : pm_H) (n o : Nat) (as rest : List Value) (r : Option Value) (h1 : pm_H), pm_at (pm_cd md) pc = some (.invokevirtual n, nx, a, b) → pm_knd a 0 → pm_mst a = true → pm_spl b st [] = some (.ref o :: as, rest) → pm_cat rest ≤ 8 → 1000010 ≤ o → o ≤ 1000018 → pm_mal a = false → C a (.ref o :: as) h r h1 → P nx lv (pm_pu r rest) h1 → P pc lv st h
def pr_clo (kp : pm_K) (md : pm_M) (C : pm_C) (hb sb : Nat) (Q : Option Value → pm_H → Prop) (P : pm_P) : Prop := ∀ (pc nx a b : Nat) (lv : pm_L) (st : List Value) (h : pm_H) (n o N : Nat) (f : Nat → Int32), pm_at (pm_cd md) pc = some (.invokevirtual n, nx, a, b) → a = 1003 → (b = 0 ∨ b = 3 ∧ ∀ i, i < N → f i = 0 ∨ f i = 1) → pm_al md = true → h[o]? = some (.inl (b, (N, .inl f))) → pm_cat st ≤ 8 → h.length + 1 ≤ hb → pm_sl h + N ≤ sb → h.length < 100000 → P nx lv (.ref h.length :: st) (h ++ [.inl (b, (N, .inl f))]) → P pc lv (.ref o :: st) h
def pr_cca (kp : pm_K) (md : pm_M) (C : pm_C) (hb sb : Nat) (Q : Option Value → pm_H → Prop) (P : pm_P) : Prop := ∀ (pc nx a b : Nat) (lv : pm_L) (st : List Value) (h : pm_H) (n o : Nat) (x : vp_A), pm_at (pm_cd md) pc = some (.checkcast n, nx, a, b) → (a = 0 ∨ a = 3) → h[o]? = some (.inl (a, x)) → P nx lv (.ref o :: st) h → P pc lv (.ref o :: st) h
def pr_aak (kp : pm_K) (md : pm_M) (C : pm_C) (hb sb : Nat) (Q : Option Value → pm_H → Prop) (P : pm_P) : Prop := ∀ (pc nx a b : Nat) (lv : pm_L) (st : List Value) (h : pm_H) (o n r : Nat) (f : Nat → Option Nat) (j : Int32), pm_at (pm_cd md) pc = some (.aastore, nx, a, b) → h[o]? = some (.inl (7, (n, .inr (.inr (.inr (.inr f)))))) → vp_in j n → 1000010 ≤ r → r ≤ 1000018 → P nx lv st (h.set o (.inl (7, (n, .inr (.inr (.inr (.inr (va_up f j.toNatClampNeg (some r))))))))) → P pc lv (.ref r :: .int j :: .ref o :: st) h
def pr_aam (kp : pm_K) (md : pm_M) (C : pm_C) (hb sb : Nat) (Q : Option Value → pm_H → Prop) (P : pm_P) : Prop := ∀ (pc nx a b : Nat) (lv : pm_L) (st : List Value) (h : pm_H) (o n r : Nat) (f : Nat → Option Nat) (j : Int32) (x : vp_A), pm_at (pm_cd md) pc = some (.aastore, nx, a, b) → h[o]? = some (.inl (6, (n, .inr (.inr (.inr (.inr f)))))) → vp_in j n → h[r]? = some (.inl (3, x)) → P nx lv st (h.set o (.inl (6, (n, .inr (.inr (.inr (.inr (va_up f j.toNatClampNeg (some r))))))))) → P pc lv (.ref r :: .int j :: .ref o :: st) h
def pr_inn (kp : pm_K) (md : pm_M) (C : pm_C) (hb sb : Nat) (Q : Option Value → pm_H → Prop) (P : pm_P) : Prop := ∀ (pc nx a b : Nat) (lv : pm_L) (st : List Value) (h : pm_H) (n : Int) (o : Nat), pm_at (pm_cd md) pc = some (.ifnonnull n, nx, a, b) → P a lv st h → P pc lv (.ref o :: st) h
def pr_clu (kp : pm_K) (md : pm_M) (C : pm_C) (hb sb : Nat) (Q : Option Value → pm_H → Prop) (P : pm_P) : Prop := ∀ (pc nx a b : Nat) (lv : pm_L) (st : List Value) (h : pm_H) (n o : Nat) (as rest fs : List Value) (r : Option Value) (h1 : pm_H), pm_at (pm_cd md) pc = some (.invokevirtual n, nx, a, b) → pm_knd a 3 → pm_spl b st [] = some (.ref o :: as, rest) → pm_cat rest ≤ 8 → h[o]? = some (.inr (12, fs)) → (pm_mal a = false ∨ pm_al md = true ∧ h1.length ≤ hb ∧ pm_sl h1 ≤ sb) → C a (.ref o :: as) h r h1 → P nx lv (pm_pu r rest) h1 → P pc lv st h
def pr_csu (kp : pm_K) (md : pm_M) (C : pm_C) (hb sb : Nat) (Q : Option Value → pm_H → Prop) (P : pm_P) : Prop := ∀ (pc nx a b : Nat) (lv : pm_L) (st : List Value) (h : pm_H) (n o : Nat) (as rest fs : List Value) (r : Option Value) (h1 : pm_H), pm_at (pm_cd md) pc = some (.invokespecial n, nx, a, b) → (pm_knd a 4 ∧ md.1.cls = "java/lang/StringBuilder" ∨ pm_knd a 2) → pm_spl b st [] = some (.ref o :: as, rest) → pm_cat rest ≤ 8 → h[o]? = some (.inr (12, fs)) → (pm_mal a = false ∨ pm_al md = true ∧ h1.length ≤ hb ∧ pm_sl h1 ≤ sb) → C a (.ref o :: as) h r h1 → P nx lv (pm_pu r rest) h1 → P pc lv st h
def pr_clf (kp : pm_K) (md : pm_M) (C : pm_C) (hb sb : Nat) (Q : Option Value → pm_H → Prop) (P : pm_P) : Prop := ∀ (pc nx a b : Nat) (lv : pm_L) (st : List Value) (h : pm_H) (n c o : Nat) (as rest fs : List Value) (r : Option Value) (h1 : pm_H), pm_at (pm_cd md) pc = some (.invokeinterface n c, nx, a, b) → pm_knd a 5 → pm_spl b st [] = some (.ref o :: as, rest) → pm_cat rest ≤ 8 → h[o]? = some (.inr (12, fs)) → (pm_mal a = false ∨ pm_al md = true ∧ h1.length ≤ hb ∧ pm_sl h1 ≤ sb) → C a (.ref o :: as) h r h1 → P nx lv (pm_pu r rest) h1 → P pc lv st h
def pr_acp (kp : pm_K) (md : pm_M) (C : pm_C) (hb sb : Nat) (Q : Option Value → pm_H → Prop) (P : pm_P) : Prop := ∀ (pc nx a b : Nat) (lv : pm_L) (st : List Value) (h : pm_H) (n o b0 n0 n1 : Nat) (f g : Nat → Int32) (sp dp k : Int32), pm_at (pm_cd md) pc = some (.invokestatic n, nx, a, b) → a = 1004 → pm_kar kp b0 = some (2, (n0, .inl f)) → h[o]? = some (.inl (2, (n1, .inl g))) → ¬ sp < 0 → ¬ dp < 0 → ¬ k < 0 → sp.toNatClampNeg + k.toNatClampNeg ≤ n0 → dp.toNatClampNeg + k.toNatClampNeg ≤ n1 → pm_cat st ≤ 8 → P nx lv st (h.set o (.inl (2, (n1, .inl (va_cpy f g sp.toNatClampNeg dp.toNatClampNeg k.toNatClampNeg))))) → P pc lv (.int k :: .int dp :: .ref o :: .int sp :: .ref b0 :: st) h
def pr_mmx (kp : pm_K) (md : pm_M) (C : pm_C) (hb sb : Nat) (Q : Option Value → pm_H → Prop) (P : pm_P) : Prop := ∀ (pc nx a b : Nat) (lv : pm_L) (st : List Value) (h : pm_H) (n : Nat) (x y : Int32), pm_at (pm_cd md) pc = some (.invokestatic n, nx, a, b) → a = 1001 → pm_cat st ≤ 8 → P nx lv (.int (if x < y then y else x) :: st) h → P pc lv (.int y :: .int x :: st) h
def pr_mmn (kp : pm_K) (md : pm_M) (C : pm_C) (hb sb : Nat) (Q : Option Value → pm_H → Prop) (P : pm_P) : Prop := ∀ (pc nx a b : Nat) (lv : pm_L) (st : List Value) (h : pm_H) (n : Nat) (x y : Int32), pm_at (pm_cd md) pc = some (.invokestatic n, nx, a, b) → a = 1002 → pm_cat st ≤ 8 → P nx lv (.int (if y < x then y else x) :: st) h → P pc lv (.int y :: .int x :: st) h
def pr_obj (kp : pm_K) (md : pm_M) (C : pm_C) (hb sb : Nat) (Q : Option Value → pm_H → Prop) (P : pm_P) : Prop := ∀ (pc nx a b : Nat) (lv : pm_L) (st : List Value) (h : pm_H) (n o : Nat), pm_at (pm_cd md) pc = some (.invokespecial n, nx, a, b) → a = 1000 → pm_cat st ≤ 8 → P nx lv st h → P pc lv (.ref o :: st) h
def pr_irt (kp : pm_K) (md : pm_M) (C : pm_C) (hb sb : Nat) (Q : Option Value → pm_H → Prop) (P : pm_P) : Prop := ∀ (pc nx a b : Nat) (lv : pm_L) (h : pm_H) (v : Int32) (ty : FieldType), pm_at (pm_cd md) pc = some (.ireturn, nx, a, b) → pm_ret md = some ty → narrow ty (.int v) = .int v → Q (some (.int v)) h → P pc lv ([.int v]) h
def pr_lrt (kp : pm_K) (md : pm_M) (C : pm_C) (hb sb : Nat) (Q : Option Value → pm_H → Prop) (P : pm_P) : Prop := ∀ (pc nx a b : Nat) (lv : pm_L) (h : pm_H) (v : Int64), pm_at (pm_cd md) pc = some (.lreturn, nx, a, b) → pm_ret md = some .long → Q (some (.long v)) h → P pc lv ([.long v]) h
def pr_art (kp : pm_K) (md : pm_M) (C : pm_C) (hb sb : Nat) (Q : Option Value → pm_H → Prop) (P : pm_P) : Prop := ∀ (pc nx a b : Nat) (lv : pm_L) (h : pm_H) (o : Nat) (n : String), pm_at (pm_cd md) pc = some (.areturn, nx, a, b) → pm_ret md = some (.object n) → Q (some (.ref o)) h → P pc lv ([.ref o]) h
def pr_vrt (kp : pm_K) (md : pm_M) (C : pm_C) (hb sb : Nat) (Q : Option Value → pm_H → Prop) (P : pm_P) : Prop := ∀ (pc nx a b : Nat) (lv : pm_L) (h : pm_H) , pm_at (pm_cd md) pc = some (.return_, nx, a, b) → pm_ret md = none → Q none h → P pc lv [] h
def pr_gst (kp : pm_K) (md : pm_M) (C : pm_C) (hb sb : Nat) (Q : Option Value → pm_H → Prop) (P : pm_P) : Prop := ∀ (pc nx a b : Nat) (lv : pm_L) (st : List Value) (h : pm_H) (n : Nat) (v : Value), pm_at (pm_cd md) pc = some (.getstatic n, nx, a, b) → pm_gst a = some v → P nx lv (v :: st) h → P pc lv st h
def pr_sub (kp : pm_K) (md : pm_M) (C : pm_C) (hb sb : Nat) (Q : Option Value → pm_H → Prop) (P : pm_P) : Prop := ∀ (pc nx a b : Nat) (lv : pm_L) (st : List Value) (h : pm_H) (ks : List Nat) (lv1 : pm_L), pm_pck lv ks some = some lv1 → P pc lv1 st h → P pc lv st h
def pm_R (kp : pm_K) (md : pm_M) (C : pm_C) (hb sb : Nat) (Q : Option Value → pm_H → Prop) (P : pm_P) : Prop := pr_cst kp md C hb sb Q P ∧ pr_ldc kp md C hb sb Q P ∧ pr_ld kp md C hb sb Q P ∧ pr_sto kp md C hb sb Q P ∧ pr_bop kp md C hb sb Q P ∧ pr_dop kp md C hb sb Q P ∧ pr_uop kp md C hb sb Q P ∧ pr_sop kp md C hb sb Q P ∧ pr_inc kp md C hb sb Q P ∧ pr_goto kp md C hb sb Q P ∧ pr_ifc kp md C hb sb Q P ∧ pr_icm kp md C hb sb Q P ∧ pr_tso kp md C hb sb Q P ∧ pr_tsi kp md C hb sb Q P ∧ pr_lsw kp md C hb sb Q P ∧ pr_get kp md C hb sb Q P ∧ pr_gek kp md C hb sb Q P ∧ pr_put kp md C hb sb Q P ∧ pr_puf kp md C hb sb Q P ∧ pr_ial kp md C hb sb Q P ∧ pr_bal kp md C hb sb Q P ∧ pr_zal kp md C hb sb Q P ∧ pr_lal kp md C hb sb Q P ∧ pr_aal kp md C hb sb Q P ∧ pr_kil kp md C hb sb Q P ∧ pr_kbl kp md C hb sb Q P ∧ pr_kll kp md C hb sb Q P ∧ pr_kle kp md C hb sb Q P ∧ pr_ias kp md C hb sb Q P ∧ pr_bas kp md C hb sb Q P ∧ pr_zas kp md C hb sb Q P ∧ pr_las kp md C hb sb Q P ∧ pr_aas kp md C hb sb Q P ∧ pr_len kp md C hb sb Q P ∧ pr_new kp md C hb sb Q P ∧ pr_nwa kp md C hb sb Q P ∧ pr_nwr kp md C hb sb Q P ∧ pr_nwm kp md C hb sb Q P ∧ pr_cls kp md C hb sb Q P ∧ pr_clv kp md C hb sb Q P ∧ pr_clk kp md C hb sb Q P ∧ pr_clo kp md C hb sb Q P ∧ pr_cca kp md C hb sb Q P ∧ pr_aak kp md C hb sb Q P ∧ pr_aam kp md C hb sb Q P ∧ pr_inn kp md C hb sb Q P ∧ pr_clu kp md C hb sb Q P ∧ pr_csu kp md C hb sb Q P ∧ pr_clf kp md C hb sb Q P ∧ pr_acp kp md C hb sb Q P ∧ pr_mmx kp md C hb sb Q P ∧ pr_mmn kp md C hb sb Q P ∧ pr_obj kp md C hb sb Q P ∧ pr_irt kp md C hb sb Q P ∧ pr_lrt kp md C hb sb Q P ∧ pr_art kp md C hb sb Q P ∧ pr_vrt kp md C hb sb Q P ∧ pr_gst kp md C hb sb Q P ∧ pr_sub kp md C hb sb Q P
def pm_W (kp : pm_K) (md : pm_M) (C : pm_C) (hb sb : Nat) (Q : Option Value → pm_H → Prop) : pm_P := fun pc lv st h => ∀ P : pm_P, pm_R kp md C hb sb Q P → P pc lv st h
section PQ
variable {kp : pm_K} {md : pm_M} {C : pm_C} {hb sb : Nat} {Q : Option Value → pm_H → Prop}
theorem pq_cst {pc nx a b : Nat} {lv : pm_L} {st : List Value} {h : pm_H} {i : Instr} {v : Value} (g0 : pm_at (pm_cd md) pc = some (i, nx, a, b)) (g1 : pm_cst i = some v) (g2 : pm_W kp md C hb sb Q nx lv (v :: st) h) : pm_W kp md C hb sb Q pc lv st h := fun P R => R.1 pc nx a b lv st h i v g0 g1 (g2 P R)
theorem pq_ldc {pc nx a b : Nat} {lv : pm_L} {st : List Value} {h : pm_H} {i : Instr} {v : Value} (g0 : pm_at (pm_cd md) pc = some (i, nx, a, b)) (g1 : pm_isl i = true) (g2 : pt_ldc[a]? = some v) (g3 : pm_W kp md C hb sb Q nx lv (v :: st) h) : pm_W kp md C hb sb Q pc lv st h := fun P R => R.2.1 pc nx a b lv st h i v g0 g1 g2 (g3 P R)
theorem pq_ld {pc nx a b : Nat} {lv : pm_L} {st : List Value} {h : pm_H} {i : Instr} {v : Value} {k : Nat} (j : Nat) (g0 : pm_at (pm_cd md) pc = some (i, nx, a, b)) (g1 : pm_ld i v = some k) (g2 : lv[j]? = some (k, v)) (g3 : pm_W kp md C hb sb Q nx lv (v :: st) h) : pm_W kp md C hb sb Q pc lv st h := fun P R => R.2.2.1 pc nx a b lv st h i v k j g0 g1 g2 (g3 P R)
theorem pq_sto {pc nx a b : Nat} {lv : pm_L} {st : List Value} {h : pm_H} {i : Instr} {v : Value} {k : Nat} {lv1 : pm_L} (g0 : pm_at (pm_cd md) pc = some (i, nx, a, b)) (g1 : pm_st i v = some k) (g2 : pm_sto k v lv = some lv1) (g3 : pm_W kp md C hb sb Q nx lv1 st h) : pm_W kp md C hb sb Q pc lv (v :: st) h := fun P R => R.2.2.2.1 pc nx a b lv st h i v k lv1 g0 g1 g2 (g3 P R)
theorem pq_bop {pc nx a b : Nat} {lv : pm_L} {st : List Value} {h : pm_H} {i : Instr} {v x y : Value} (g0 : pm_at (pm_cd md) pc = some (i, nx, a, b)) (g1 : pm_bop i y x = some v) (g2 : pm_W kp md C hb sb Q nx lv (v :: st) h) : pm_W kp md C hb sb Q pc lv (y :: x :: st) h := fun P R => R.2.2.2.2.1 pc nx a b lv st h i v x y g0 g1 (g2 P R)
theorem pq_dop {pc nx a b : Nat} {lv : pm_L} {st : List Value} {h : pm_H} {i : Instr} {v x y : Value} {c : Prop} (g0 : pm_at (pm_cd md) pc = some (i, nx, a, b)) (g1 : pm_dop i y x = some (v, c)) (g2 : c) (g3 : pm_W kp md C hb sb Q nx lv (v :: st) h) : pm_W kp md C hb sb Q pc lv (y :: x :: st) h := fun P R => R.2.2.2.2.2.1 pc nx a b lv st h i v x y c g0 g1 g2 (g3 P R)
theorem pq_uop {pc nx a b : Nat} {lv : pm_L} {st : List Value} {h : pm_H} {i : Instr} {v x : Value} (g0 : pm_at (pm_cd md) pc = some (i, nx, a, b)) (g1 : pm_uop i x = some v) (g2 : pm_W kp md C hb sb Q nx lv (v :: st) h) : pm_W kp md C hb sb Q pc lv (x :: st) h := fun P R => R.2.2.2.2.2.2.1 pc nx a b lv st h i v x g0 g1 (g2 P R)
theorem pq_sop {pc nx a b : Nat} {lv : pm_L} {st : List Value} {h : pm_H} {i : Instr} {st1 : List Value} (g0 : pm_at (pm_cd md) pc = some (i, nx, a, b)) (g1 : pm_sop i st = some st1) (g2 : pm_W kp md C hb sb Q nx lv st1 h) : pm_W kp md C hb sb Q pc lv st h := fun P R => R.2.2.2.2.2.2.2.1 pc nx a b lv st h i st1 g0 g1 (g2 P R)
theorem pq_inc {pc nx a b : Nat} {lv : pm_L} {st : List Value} {h : pm_H} {k : Nat} {n : Int} {x : Int32} {lv1 : pm_L} (j : Nat) (g0 : pm_at (pm_cd md) pc = some (.iinc k n, nx, a, b)) (g1 : lv[j]? = some (k, .int x)) (g2 : pm_sto k (.int (x + Int32.ofInt n)) lv = some lv1) (g3 : pm_W kp md C hb sb Q nx lv1 st h) : pm_W kp md C hb sb Q pc lv st h := fun P R => R.2.2.2.2.2.2.2.2.1 pc nx a b lv st h k n x lv1 j g0 g1 g2 (g3 P R)
theorem pq_goto {pc nx a b : Nat} {lv : pm_L} {st : List Value} {h : pm_H} {n : Int} (g0 : pm_at (pm_cd md) pc = some (.goto n, nx, a, b)) (g1 : pm_W kp md C hb sb Q a lv st h) : pm_W kp md C hb sb Q pc lv st h := fun P R => R.2.2.2.2.2.2.2.2.2.1 pc nx a b lv st h n g0 (g1 P R)
theorem pq_ifc {pc nx a b : Nat} {lv : pm_L} {st : List Value} {h : pm_H} {c : Jvm.ClassFile.Cond} {n : Int} {x : Int32} (g0 : pm_at (pm_cd md) pc = some (.ifCond c n, nx, a, b)) (g1 : (pm_cnd c x 0 → pm_W kp md C hb sb Q a lv st h)) (g2 : (¬ pm_cnd c x 0 → pm_W kp md C hb sb Q nx lv st h)) : pm_W kp md C hb sb Q pc lv (.int x :: st) h := fun P R => R.2.2.2.2.2.2.2.2.2.2.1 pc nx a b lv st h c n x g0 (fun q => g1 q P R) (fun q => g2 q P R)
theorem pq_icm {pc nx a b : Nat} {lv : pm_L} {st : List Value} {h : pm_H} {c : Jvm.ClassFile.Cond} {n : Int} {x y : Int32} (g0 : pm_at (pm_cd md) pc = some (.if_icmp c n, nx, a, b)) (g1 : (pm_cnd c x y → pm_W kp md C hb sb Q a lv st h)) (g2 : (¬ pm_cnd c x y → pm_W kp md C hb sb Q nx lv st h)) : pm_W kp md C hb sb Q pc lv (.int y :: .int x :: st) h := fun P R => R.2.2.2.2.2.2.2.2.2.2.2.1 pc nx a b lv st h c n x y g0 (fun q => g1 q P R) (fun q => g2 q P R)
theorem pq_tso {pc nx a b : Nat} {lv : pm_L} {st : List Value} {h : pm_H} {d lo hi : Int} {os : Array Int} {x : Int32} {t : Nat} (g0 : pm_at (pm_cd md) pc = some (.tableswitch d lo hi os, nx, a, b)) (g1 : (x.toInt < lo ∨ hi < x.toInt)) (g2 : (pc : Int) + d = (t : Int)) (g3 : pm_W kp md C hb sb Q t lv st h) : pm_W kp md C hb sb Q pc lv (.int x :: st) h := fun P R => R.2.2.2.2.2.2.2.2.2.2.2.2.1 pc nx a b lv st h d lo hi os x t g0 g1 g2 (g3 P R)
theorem pq_tsi {pc nx a b : Nat} {lv : pm_L} {st : List Value} {h : pm_H} {d lo hi off : Int} {os : Array Int} {x : Int32} {t : Nat} (g0 : pm_at (pm_cd md) pc = some (.tableswitch d lo hi os, nx, a, b)) (g1 : ¬ x.toInt < lo) (g2 : ¬ hi < x.toInt) (g3 : os[(x.toInt - lo).toNat]? = some off) (g4 : (pc : Int) + off = (t : Int)) (g5 : pm_W kp md C hb sb Q t lv st h) : pm_W kp md C hb sb Q pc lv (.int x :: st) h := fun P R => R.2.2.2.2.2.2.2.2.2.2.2.2.2.1 pc nx a b lv st h d lo hi off os x t g0 g1 g2 g3 g4 (g5 P R)
theorem pq_lsw {pc nx a b : Nat} {lv : pm_L} {st : List Value} {h : pm_H} {d : Int} {ps : Array (Int × Int)} {x : Int32} {t : Nat} (g0 : pm_at (pm_cd md) pc = some (.lookupswitch d ps, nx, a, b)) (g1 : (ps.toList.zip (ps.toList.drop 1)).all (fun (a, next) => a.1 < next.1) = true) (g2 : (pc : Int) + Op.lookupswitch.offset ps.toList d x.toInt = (t : Int)) (g3 : pm_W kp md C hb sb Q t lv st h) : pm_W kp md C hb sb Q pc lv (.int x :: st) h := fun P R => R.2.2.2.2.2.2.2.2.2.2.2.2.2.2.1 pc nx a b lv st h d ps x t g0 g1 g2 (g3 P R)
theorem pq_get {pc nx a b : Nat} {lv : pm_L} {st : List Value} {h : pm_H} {n o : Nat} {fs : List Value} {v : Value} (g0 : pm_at (pm_cd md) pc = some (.getfield n, nx, a, b)) (g1 : h[o]? = some (.inr (a, fs))) (g2 : fs[b]? = some v) (g3 : pm_W kp md C hb sb Q nx lv (v :: st) h) : pm_W kp md C hb sb Q pc lv (.ref o :: st) h := fun P R => R.2.2.2.2.2.2.2.2.2.2.2.2.2.2.2.1 pc nx a b lv st h n o fs v g0 g1 g2 (g3 P R)
theorem pq_gek {pc nx a b : Nat} {lv : pm_L} {st : List Value} {h : pm_H} {n o : Nat} {v : Value} (g0 : pm_at (pm_cd md) pc = some (.getfield n, nx, a, b)) (g1 : a = 100) (g2 : pm_kfl o b = some v) (g3 : pm_W kp md C hb sb Q nx lv (v :: st) h) : pm_W kp md C hb sb Q pc lv (.ref o :: st) h := fun P R => R.2.2.2.2.2.2.2.2.2.2.2.2.2.2.2.2.1 pc nx a b lv st h n o v g0 g1 g2 (g3 P R)
theorem pq_put {pc nx a b : Nat} {lv : pm_L} {st : List Value} {h : pm_H} {n o : Nat} {fs fs1 : List Value} {v : Value} {ty : FieldType} (g0 : pm_at (pm_cd md) pc = some (.putfield n, nx, a, b)) (g1 : h[o]? = some (.inr (a, fs))) (g2 : pm_fty a b = some (ty, false)) (g3 : pm_fit ty v) (g4 : pm_set fs b v = some fs1) (g5 : pm_W kp md C hb sb Q nx lv st (h.set o (.inr (a, fs1)))) : pm_W kp md C hb sb Q pc lv (v :: .ref o :: st) h := fun P R => R.2.2.2.2.2.2.2.2.2.2.2.2.2.2.2.2.2.1 pc nx a b lv st h n o fs fs1 v ty g0 g1 g2 g3 g4 (g5 P R)
theorem pq_puf {pc nx a b : Nat} {lv : pm_L} {st : List Value} {h : pm_H} {n o : Nat} {fs fs1 : List Value} {v : Value} {ty : FieldType} (g0 : pm_at (pm_cd md) pc = some (.putfield n, nx, a, b)) (g1 : h[o]? = some (.inr (a, fs))) (g2 : pm_fty a b = some (ty, true)) (g3 : pm_own md a) (g4 : pm_fit ty v) (g5 : pm_set fs b v = some fs1) (g6 : pm_W kp md C hb sb Q nx lv st (h.set o (.inr (a, fs1)))) : pm_W kp md C hb sb Q pc lv (v :: .ref o :: st) h := fun P R => R.2.2.2.2.2.2.2.2.2.2.2.2.2.2.2.2.2.2.1 pc nx a b lv st h n o fs fs1 v ty g0 g1 g2 g3 g4 g5 (g6 P R)
theorem pq_ial {pc nx a b : Nat} {lv : pm_L} {st : List Value} {h : pm_H} {o n : Nat} {f : Nat → Int32} {j : Int32} (g0 : pm_at (pm_cd md) pc = some (.iaload, nx, a, b)) (g1 : h[o]? = some (.inl (0, (n, .inl f)))) (g2 : vp_in j n) (g3 : pm_W kp md C hb sb Q nx lv (.int (f j.toNatClampNeg) :: st) h) : pm_W kp md C hb sb Q pc lv (.int j :: .ref o :: st) h := fun P R => R.2.2.2.2.2.2.2.2.2.2.2.2.2.2.2.2.2.2.2.1 pc nx a b lv st h o n f j g0 g1 g2 (g3 P R)
theorem pq_bal {pc nx a b : Nat} {lv : pm_L} {st : List Value} {h : pm_H} {o n : Nat} {f : Nat → Int32} {j : Int32} (g0 : pm_at (pm_cd md) pc = some (.baload, nx, a, b)) (g1 : h[o]? = some (.inl (2, (n, .inl f)))) (g2 : vp_in j n) (g3 : pm_W kp md C hb sb Q nx lv (.int (f j.toNatClampNeg) :: st) h) : pm_W kp md C hb sb Q pc lv (.int j :: .ref o :: st) h := fun P R => R.2.2.2.2.2.2.2.2.2.2.2.2.2.2.2.2.2.2.2.2.1 pc nx a b lv st h o n f j g0 g1 g2 (g3 P R)
theorem pq_zal {pc nx a b : Nat} {lv : pm_L} {st : List Value} {h : pm_H} {o n : Nat} {f : Nat → Int32} {j : Int32} (g0 : pm_at (pm_cd md) pc = some (.baload, nx, a, b)) (g1 : h[o]? = some (.inl (3, (n, .inl f)))) (g2 : vp_in j n) (g3 : pm_W kp md C hb sb Q nx lv (.int (f j.toNatClampNeg) :: st) h) : pm_W kp md C hb sb Q pc lv (.int j :: .ref o :: st) h := fun P R => R.2.2.2.2.2.2.2.2.2.2.2.2.2.2.2.2.2.2.2.2.2.1 pc nx a b lv st h o n f j g0 g1 g2 (g3 P R)
theorem pq_lal {pc nx a b : Nat} {lv : pm_L} {st : List Value} {h : pm_H} {o n : Nat} {f : Nat → Int64} {j : Int32} (g0 : pm_at (pm_cd md) pc = some (.laload, nx, a, b)) (g1 : h[o]? = some (.inl (1, (n, .inr (.inl f))))) (g2 : vp_in j n) (g3 : pm_W kp md C hb sb Q nx lv (.long (f j.toNatClampNeg) :: st) h) : pm_W kp md C hb sb Q pc lv (.int j :: .ref o :: st) h := fun P R => R.2.2.2.2.2.2.2.2.2.2.2.2.2.2.2.2.2.2.2.2.2.2.1 pc nx a b lv st h o n f j g0 g1 g2 (g3 P R)
theorem pq_aal {pc nx a b : Nat} {lv : pm_L} {st : List Value} {h : pm_H} {o n r : Nat} {f : Nat → Option Nat} {j : Int32} {t : Nat} (g0 : pm_at (pm_cd md) pc = some (.aaload, nx, a, b)) (g1 : h[o]? = some (.inl (t, (n, .inr (.inr (.inr (.inr f))))))) (g2 : (4 ≤ t ∧ t ≤ 7)) (g3 : vp_in j n) (g4 : f j.toNatClampNeg = some r) (g5 : pm_W kp md C hb sb Q nx lv (.ref r :: st) h) : pm_W kp md C hb sb Q pc lv (.int j :: .ref o :: st) h := fun P R => R.2.2.2.2.2.2.2.2.2.2.2.2.2.2.2.2.2.2.2.2.2.2.2.1 pc nx a b lv st h o n r f j t g0 g1 g2 g3 g4 (g5 P R)
theorem pq_kil {pc nx a b : Nat} {lv : pm_L} {st : List Value} {h : pm_H} {o n : Nat} {f : Nat → Int32} {j : Int32} (g0 : pm_at (pm_cd md) pc = some (.iaload, nx, a, b)) (g1 : pm_kar kp o = some (0, (n, .inl f))) (g2 : vp_in j n) (g3 : pm_W kp md C hb sb Q nx lv (.int (f j.toNatClampNeg) :: st) h) : pm_W kp md C hb sb Q pc lv (.int j :: .ref o :: st) h := fun P R => R.2.2.2.2.2.2.2.2.2.2.2.2.2.2.2.2.2.2.2.2.2.2.2.2.1 pc nx a b lv st h o n f j g0 g1 g2 (g3 P R)
theorem pq_kbl {pc nx a b : Nat} {lv : pm_L} {st : List Value} {h : pm_H} {o n : Nat} {f : Nat → Int32} {j : Int32} (g0 : pm_at (pm_cd md) pc = some (.baload, nx, a, b)) (g1 : pm_kar kp o = some (2, (n, .inl f))) (g2 : vp_in j n) (g3 : pm_W kp md C hb sb Q nx lv (.int (f j.toNatClampNeg) :: st) h) : pm_W kp md C hb sb Q pc lv (.int j :: .ref o :: st) h := fun P R => R.2.2.2.2.2.2.2.2.2.2.2.2.2.2.2.2.2.2.2.2.2.2.2.2.2.1 pc nx a b lv st h o n f j g0 g1 g2 (g3 P R)
theorem pq_kll {pc nx a b : Nat} {lv : pm_L} {st : List Value} {h : pm_H} {o n : Nat} {f : Nat → Int64} {j : Int32} (g0 : pm_at (pm_cd md) pc = some (.laload, nx, a, b)) (g1 : pm_kar kp o = some (1, (n, .inr (.inl f)))) (g2 : vp_in j n) (g3 : pm_W kp md C hb sb Q nx lv (.long (f j.toNatClampNeg) :: st) h) : pm_W kp md C hb sb Q pc lv (.int j :: .ref o :: st) h := fun P R => R.2.2.2.2.2.2.2.2.2.2.2.2.2.2.2.2.2.2.2.2.2.2.2.2.2.2.1 pc nx a b lv st h o n f j g0 g1 g2 (g3 P R)
theorem pq_kle {pc nx a b : Nat} {lv : pm_L} {st : List Value} {h : pm_H} {o n : Nat} {t : Nat} {x : (Nat → Int32) ⊕ (Nat → Int64) ⊕ (Nat → UInt32) ⊕ (Nat → UInt64) ⊕ (Nat → Option Nat)} (g0 : pm_at (pm_cd md) pc = some (.arraylength, nx, a, b)) (g1 : pm_kar kp o = some (t, (n, x))) (g2 : pm_W kp md C hb sb Q nx lv (.int (Int32.ofNat n) :: st) h) : pm_W kp md C hb sb Q pc lv (.ref o :: st) h := fun P R => R.2.2.2.2.2.2.2.2.2.2.2.2.2.2.2.2.2.2.2.2.2.2.2.2.2.2.2.1 pc nx a b lv st h o n t x g0 g1 (g2 P R)
theorem pq_ias {pc nx a b : Nat} {lv : pm_L} {st : List Value} {h : pm_H} {o n : Nat} {f : Nat → Int32} {j x : Int32} (g0 : pm_at (pm_cd md) pc = some (.iastore, nx, a, b)) (g1 : h[o]? = some (.inl (0, (n, .inl f)))) (g2 : vp_in j n) (g3 : pm_W kp md C hb sb Q nx lv st (h.set o (.inl (0, (n, .inl (upd f j.toNatClampNeg x)))))) : pm_W kp md C hb sb Q pc lv (.int x :: .int j :: .ref o :: st) h := fun P R => R.2.2.2.2.2.2.2.2.2.2.2.2.2.2.2.2.2.2.2.2.2.2.2.2.2.2.2.2.1 pc nx a b lv st h o n f j x g0 g1 g2 (g3 P R)
theorem pq_bas {pc nx a b : Nat} {lv : pm_L} {st : List Value} {h : pm_H} {o n : Nat} {f : Nat → Int32} {j x : Int32} (g0 : pm_at (pm_cd md) pc = some (.bastore, nx, a, b)) (g1 : h[o]? = some (.inl (2, (n, .inl f)))) (g2 : vp_in j n) (g3 : pm_W kp md C hb sb Q nx lv st (h.set o (.inl (2, (n, .inl (upd f j.toNatClampNeg (vp_nar .byte x))))))) : pm_W kp md C hb sb Q pc lv (.int x :: .int j :: .ref o :: st) h := fun P R => R.2.2.2.2.2.2.2.2.2.2.2.2.2.2.2.2.2.2.2.2.2.2.2.2.2.2.2.2.2.1 pc nx a b lv st h o n f j x g0 g1 g2 (g3 P R)
theorem pq_zas {pc nx a b : Nat} {lv : pm_L} {st : List Value} {h : pm_H} {o n : Nat} {f : Nat → Int32} {j x : Int32} (g0 : pm_at (pm_cd md) pc = some (.bastore, nx, a, b)) (g1 : h[o]? = some (.inl (3, (n, .inl f)))) (g2 : vp_in j n) (g3 : pm_W kp md C hb sb Q nx lv st (h.set o (.inl (3, (n, .inl (upd f j.toNatClampNeg (vp_nar .boolean x))))))) : pm_W kp md C hb sb Q pc lv (.int x :: .int j :: .ref o :: st) h := fun P R => R.2.2.2.2.2.2.2.2.2.2.2.2.2.2.2.2.2.2.2.2.2.2.2.2.2.2.2.2.2.2.1 pc nx a b lv st h o n f j x g0 g1 g2 (g3 P R)
theorem pq_las {pc nx a b : Nat} {lv : pm_L} {st : List Value} {h : pm_H} {o n : Nat} {f : Nat → Int64} {j : Int32} {x : Int64} (g0 : pm_at (pm_cd md) pc = some (.lastore, nx, a, b)) (g1 : h[o]? = some (.inl (1, (n, .inr (.inl f))))) (g2 : vp_in j n) (g3 : pm_W kp md C hb sb Q nx lv st (h.set o (.inl (1, (n, .inr (.inl (vp_updL f j.toNatClampNeg x))))))) : pm_W kp md C hb sb Q pc lv (.long x :: .int j :: .ref o :: st) h := fun P R => R.2.2.2.2.2.2.2.2.2.2.2.2.2.2.2.2.2.2.2.2.2.2.2.2.2.2.2.2.2.2.2.1 pc nx a b lv st h o n f j x g0 g1 g2 (g3 P R)
theorem pq_aas {pc nx a b : Nat} {lv : pm_L} {st : List Value} {h : pm_H} {o n r : Nat} {f : Nat → Option Nat} {j : Int32} {fs : List Value} (g0 : pm_at (pm_cd md) pc = some (.aastore, nx, a, b)) (g1 : h[o]? = some (.inl (4, (n, .inr (.inr (.inr (.inr f))))))) (g2 : vp_in j n) (g3 : h[r]? = some (.inr (5, fs))) (g4 : pm_W kp md C hb sb Q nx lv st (h.set o (.inl (4, (n, .inr (.inr (.inr (.inr (va_up f j.toNatClampNeg (some r)))))))))) : pm_W kp md C hb sb Q pc lv (.ref r :: .int j :: .ref o :: st) h := fun P R => R.2.2.2.2.2.2.2.2.2.2.2.2.2.2.2.2.2.2.2.2.2.2.2.2.2.2.2.2.2.2.2.2.1 pc nx a b lv st h o n r f j fs g0 g1 g2 g3 (g4 P R)
theorem pq_len {pc nx a b : Nat} {lv : pm_L} {st : List Value} {h : pm_H} {o n : Nat} {t : Nat} {x : (Nat → Int32) ⊕ (Nat → Int64) ⊕ (Nat → UInt32) ⊕ (Nat → UInt64) ⊕ (Nat → Option Nat)} (g0 : pm_at (pm_cd md) pc = some (.arraylength, nx, a, b)) (g1 : h[o]? = some (.inl (t, (n, x)))) (g2 : t < 8) (g3 : pm_W kp md C hb sb Q nx lv (.int (Int32.ofNat n) :: st) h) : pm_W kp md C hb sb Q pc lv (.ref o :: st) h := fun P R => R.2.2.2.2.2.2.2.2.2.2.2.2.2.2.2.2.2.2.2.2.2.2.2.2.2.2.2.2.2.2.2.2.2.1 pc nx a b lv st h o n t x g0 g1 g2 (g3 P R)
theorem pq_new {pc nx a b : Nat} {lv : pm_L} {st : List Value} {h : pm_H} {n : Nat} {fs : List Value} (g0 : pm_at (pm_cd md) pc = some (.new n, nx, a, b)) (g1 : pm_al md = true) (g2 : pm_new a = some fs) (g3 : h.length + 1 ≤ hb) (g4 : pm_sl h + fs.length ≤ sb) (g5 : h.length < 100000) (g6 : pm_W kp md C hb sb Q nx lv (.ref h.length :: st) (h ++ [.inr (a, fs)])) : pm_W kp md C hb sb Q pc lv st h := fun P R => R.2.2.2.2.2.2.2.2.2.2.2.2.2.2.2.2.2.2.2.2.2.2.2.2.2.2.2.2.2.2.2.2.2.2.1 pc nx a b lv st h n fs g0 g1 g2 g3 g4 g5 (g6 P R)
theorem pq_nwa {pc nx a b : Nat} {lv : pm_L} {st : List Value} {h : pm_H} {ty : ArrayType} {n : Int32} {N : Nat} (g0 : pm_at (pm_cd md) pc = some (.newarray ty, nx, a, b)) (g1 : pm_al md = true) (g2 : ¬ n < 0) (g3 : n.toNatClampNeg = N) (g4 : N ≤ 1000000) (g5 : h.length + 1 ≤ hb) (g6 : pm_sl h + N ≤ sb) (g7 : h.length < 100000) (g8 : pm_W kp md C hb sb Q nx lv (.ref h.length :: st) (h ++ [.inl (a, (N, pm_zer a))])) : pm_W kp md C hb sb Q pc lv (.int n :: st) h := fun P R => R.2.2.2.2.2.2.2.2.2.2.2.2.2.2.2.2.2.2.2.2.2.2.2.2.2.2.2.2.2.2.2.2.2.2.2.1 pc nx a b lv st h ty n N g0 g1 g2 g3 g4 g5 g6 g7 (g8 P R)
theorem pq_nwr {pc nx a b : Nat} {lv : pm_L} {st : List Value} {h : pm_H} {i : Nat} {n : Int32} {N : Nat} (g0 : pm_at (pm_cd md) pc = some (.anewarray i, nx, a, b)) (g1 : (a = 4 ∨ a = 7)) (g2 : pm_al md = true) (g3 : ¬ n < 0) (g4 : n.toNatClampNeg = N) (g5 : N ≤ 1000000) (g6 : h.length + 1 ≤ hb) (g7 : pm_sl h + N ≤ sb) (g8 : h.length < 100000) (g9 : pm_W kp md C hb sb Q nx lv (.ref h.length :: st) (h ++ [.inl (a, (N, .inr (.inr (.inr (.inr fun _ => none)))))])) : pm_W kp md C hb sb Q pc lv (.int n :: st) h := fun P R => R.2.2.2.2.2.2.2.2.2.2.2.2.2.2.2.2.2.2.2.2.2.2.2.2.2.2.2.2.2.2.2.2.2.2.2.2.1 pc nx a b lv st h i n N g0 g1 g2 g3 g4 g5 g6 g7 g8 (g9 P R)
theorem pq_nwm {pc nx a b : Nat} {lv : pm_L} {st : List Value} {h : pm_H} {i : Nat} {n m : Int32} {N M : Nat} (g0 : pm_at (pm_cd md) pc = some (.multianewarray i 2, nx, a, b)) (g1 : (a = 5 ∨ a = 6)) (g2 : pm_al md = true) (g3 : ¬ n < 0) (g4 : ¬ m < 0) (g5 : n.toNatClampNeg = N) (g6 : m.toNatClampNeg = M) (g7 : N ≤ 100) (g8 : M ≤ 100) (g9 : h.length + (1 + N) ≤ hb) (g10 : pm_sl h + (N + N * M) ≤ sb) (g11 : h.length + N < 100000) (g12 : pm_W kp md C hb sb Q nx lv (.ref h.length :: st) (h ++ ([.inl (a, (N, .inr (.inr (.inr (.inr fun j => if j < N then some (h.length + 1 + j) else none)))))] ++ List.replicate N (pm_row a M)))) : pm_W kp md C hb sb Q pc lv (.int m :: .int n :: st) h := fun P R => R.2.2.2.2.2.2.2.2.2.2.2.2.2.2.2.2.2.2.2.2.2.2.2.2.2.2.2.2.2.2.2.2.2.2.2.2.2.1 pc nx a b lv st h i n m N M g0 g1 g2 g3 g4 g5 g6 g7 g8 g9 g10 g11 (g12 P R)
theorem pq_cls {pc nx a b : Nat} {lv : pm_L} {st : List Value} {h : pm_H} {i : Instr} {n : Nat} {as rest : List Value} {r : Option Value} {h1 : pm_H} (g0 : pm_at (pm_cd md) pc = some (i, nx, a, b)) (g1 : i = .invokestatic n) (g2 : pm_knd a 1) (g3 : pm_spl b st [] = some (as, rest)) (g4 : pm_cat rest ≤ 8) (g5 : (pm_mal a = false ∨ pm_al md = true ∧ h1.length ≤ hb ∧ pm_sl h1 ≤ sb)) (g6 : C a as h r h1) (g7 : pm_W kp md C hb sb Q nx lv (pm_pu r rest) h1) : pm_W kp md C hb sb Q pc lv st h := fun P R => R.2.2.2.2.2.2.2.2.2.2.2.2.2.2.2.2.2.2.2.2.2.2.2.2.2.2.2.2.2.2.2.2.2.2.2.2.2.2.1 pc nx a b lv st h i n as rest r h1 g0 g1 g2 g3 g4 g5 g6 (g7 P R)
theorem pq_clv {pc nx a b : Nat} {lv : pm_L} {st : List Value} {h : pm_H} {i : Instr} {n o ci : Nat} {as rest fs : List Value} {r : Option Value} {h1 : pm_H} (g0 : pm_at (pm_cd md) pc = some (i, nx, a, b)) (g1 : (i = .invokevirtual n ∧ pm_knd a 0 ∨ i = .invokespecial n ∧ pm_knd a 2)) (g2 : pm_spl b st [] = some (.ref o :: as, rest)) (g3 : pm_cat rest ≤ 8) (g4 : h[o]? = some (.inr (ci, fs))) (g5 : pm_mci a = some ci) (g6 : (pm_mal a = false ∨ pm_al md = true ∧ h1.length ≤ hb ∧ pm_sl h1 ≤ sb)) (g7 : C a (.ref o :: as) h r h1) (g8 : pm_W kp md C hb sb Q nx lv (pm_pu r rest) h1) : pm_W kp md C hb sb Q pc lv st h := fun P R => R.2.2.2.2.2.2.2.2.2.2.2.2.2.2.2.2.2.2.2.2.2.2.2.2.2.2.2.2.2.2.2.2.2.2.2.2.2.2.2.1 pc nx a b lv st h i n o ci as rest fs r h1 g0 g1 g2 g3 g4 g5 g6 g7 (g8 P R)
theorem pq_clk {pc nx a b : Nat} {lv : pm_L} {st : List Value} {h : pm_H} {n o : Nat} {as rest : List Value} {r : Option Value} {h1 : pm_H} (g0 : pm_at (pm_cd md) pc = some (.invokevirtual n, nx, a, b)) (g1 : pm_knd a 0) (g2 : pm_mst a = true) (g3 : pm_spl b st [] = some (.ref o :: as, rest)) (g4 : pm_cat rest ≤ 8) (g5 : 1000010 ≤ o) (g6 : o ≤ 1000018) (g7 : pm_mal a = false) (g8 : C a (.ref o :: as) h r h1) (g9 : pm_W kp md C hb sb Q nx lv (pm_pu r rest) h1) : pm_W kp md C hb sb Q pc lv st h := fun P R => R.2.2.2.2.2.2.2.2.2.2.2.2.2.2.2.2.2.2.2.2.2.2.2.2.2.2.2.2.2.2.2.2.2.2.2.2.2.2.2.2.1 pc nx a b lv st h n o as rest r h1 g0 g1 g2 g3 g4 g5 g6 g7 g8 (g9 P R)
theorem pq_clo {pc nx a b : Nat} {lv : pm_L} {st : List Value} {h : pm_H} {n o N : Nat} {f : Nat → Int32} (g0 : pm_at (pm_cd md) pc = some (.invokevirtual n, nx, a, b)) (g1 : a = 1003) (g2 : (b = 0 ∨ b = 3 ∧ ∀ i, i < N → f i = 0 ∨ f i = 1)) (g3 : pm_al md = true) (g4 : h[o]? = some (.inl (b, (N, .inl f)))) (g5 : pm_cat st ≤ 8) (g6 : h.length + 1 ≤ hb) (g7 : pm_sl h + N ≤ sb) (g8 : h.length < 100000) (g9 : pm_W kp md C hb sb Q nx lv (.ref h.length :: st) (h ++ [.inl (b, (N, .inl f))])) : pm_W kp md C hb sb Q pc lv (.ref o :: st) h := fun P R => R.2.2.2.2.2.2.2.2.2.2.2.2.2.2.2.2.2.2.2.2.2.2.2.2.2.2.2.2.2.2.2.2.2.2.2.2.2.2.2.2.2.1 pc nx a b lv st h n o N f g0 g1 g2 g3 g4 g5 g6 g7 g8 (g9 P R)
theorem pq_cca {pc nx a b : Nat} {lv : pm_L} {st : List Value} {h : pm_H} {n o : Nat} {x : vp_A} (g0 : pm_at (pm_cd md) pc = some (.checkcast n, nx, a, b)) (g1 : (a = 0 ∨ a = 3)) (g2 : h[o]? = some (.inl (a, x))) (g3 : pm_W kp md C hb sb Q nx lv (.ref o :: st) h) : pm_W kp md C hb sb Q pc lv (.ref o :: st) h := fun P R => R.2.2.2.2.2.2.2.2.2.2.2.2.2.2.2.2.2.2.2.2.2.2.2.2.2.2.2.2.2.2.2.2.2.2.2.2.2.2.2.2.2.2.1 pc nx a b lv st h n o x g0 g1 g2 (g3 P R)
theorem pq_aak {pc nx a b : Nat} {lv : pm_L} {st : List Value} {h : pm_H} {o n r : Nat} {f : Nat → Option Nat} {j : Int32} (g0 : pm_at (pm_cd md) pc = some (.aastore, nx, a, b)) (g1 : h[o]? = some (.inl (7, (n, .inr (.inr (.inr (.inr f))))))) (g2 : vp_in j n) (g3 : 1000010 ≤ r) (g4 : r ≤ 1000018) (g5 : pm_W kp md C hb sb Q nx lv st (h.set o (.inl (7, (n, .inr (.inr (.inr (.inr (va_up f j.toNatClampNeg (some r)))))))))) : pm_W kp md C hb sb Q pc lv (.ref r :: .int j :: .ref o :: st) h := fun P R => R.2.2.2.2.2.2.2.2.2.2.2.2.2.2.2.2.2.2.2.2.2.2.2.2.2.2.2.2.2.2.2.2.2.2.2.2.2.2.2.2.2.2.2.1 pc nx a b lv st h o n r f j g0 g1 g2 g3 g4 (g5 P R)
theorem pq_aam {pc nx a b : Nat} {lv : pm_L} {st : List Value} {h : pm_H} {o n r : Nat} {f : Nat → Option Nat} {j : Int32} {x : vp_A} (g0 : pm_at (pm_cd md) pc = some (.aastore, nx, a, b)) (g1 : h[o]? = some (.inl (6, (n, .inr (.inr (.inr (.inr f))))))) (g2 : vp_in j n) (g3 : h[r]? = some (.inl (3, x))) (g4 : pm_W kp md C hb sb Q nx lv st (h.set o (.inl (6, (n, .inr (.inr (.inr (.inr (va_up f j.toNatClampNeg (some r)))))))))) : pm_W kp md C hb sb Q pc lv (.ref r :: .int j :: .ref o :: st) h := fun P R => R.2.2.2.2.2.2.2.2.2.2.2.2.2.2.2.2.2.2.2.2.2.2.2.2.2.2.2.2.2.2.2.2.2.2.2.2.2.2.2.2.2.2.2.2.1 pc nx a b lv st h o n r f j x g0 g1 g2 g3 (g4 P R)
theorem pq_inn {pc nx a b : Nat} {lv : pm_L} {st : List Value} {h : pm_H} {n : Int} {o : Nat} (g0 : pm_at (pm_cd md) pc = some (.ifnonnull n, nx, a, b)) (g1 : pm_W kp md C hb sb Q a lv st h) : pm_W kp md C hb sb Q pc lv (.ref o :: st) h := fun P R => R.2.2.2.2.2.2.2.2.2.2.2.2.2.2.2.2.2.2.2.2.2.2.2.2.2.2.2.2.2.2.2.2.2.2.2.2.2.2.2.2.2.2.2.2.2.1 pc nx a b lv st h n o g0 (g1 P R)
theorem pq_clu {pc nx a b : Nat} {lv : pm_L} {st : List Value} {h : pm_H} {n o : Nat} {as rest fs : List Value} {r : Option Value} {h1 : pm_H} (g0 : pm_at (pm_cd md) pc = some (.invokevirtual n, nx, a, b)) (g1 : pm_knd a 3) (g2 : pm_spl b st [] = some (.ref o :: as, rest)) (g3 : pm_cat rest ≤ 8) (g4 : h[o]? = some (.inr (12, fs))) (g5 : (pm_mal a = false ∨ pm_al md = true ∧ h1.length ≤ hb ∧ pm_sl h1 ≤ sb)) (g6 : C a (.ref o :: as) h r h1) (g7 : pm_W kp md C hb sb Q nx lv (pm_pu r rest) h1) : pm_W kp md C hb sb Q pc lv st h := fun P R => R.2.2.2.2.2.2.2.2.2.2.2.2.2.2.2.2.2.2.2.2.2.2.2.2.2.2.2.2.2.2.2.2.2.2.2.2.2.2.2.2.2.2.2.2.2.2.1 pc nx a b lv st h n o as rest fs r h1 g0 g1 g2 g3 g4 g5 g6 (g7 P R)
theorem pq_csu {pc nx a b : Nat} {lv : pm_L} {st : List Value} {h : pm_H} {n o : Nat} {as rest fs : List Value} {r : Option Value} {h1 : pm_H} (g0 : pm_at (pm_cd md) pc = some (.invokespecial n, nx, a, b)) (g1 : (pm_knd a 4 ∧ md.1.cls = "java/lang/StringBuilder" ∨ pm_knd a 2)) (g2 : pm_spl b st [] = some (.ref o :: as, rest)) (g3 : pm_cat rest ≤ 8) (g4 : h[o]? = some (.inr (12, fs))) (g5 : (pm_mal a = false ∨ pm_al md = true ∧ h1.length ≤ hb ∧ pm_sl h1 ≤ sb)) (g6 : C a (.ref o :: as) h r h1) (g7 : pm_W kp md C hb sb Q nx lv (pm_pu r rest) h1) : pm_W kp md C hb sb Q pc lv st h := fun P R => R.2.2.2.2.2.2.2.2.2.2.2.2.2.2.2.2.2.2.2.2.2.2.2.2.2.2.2.2.2.2.2.2.2.2.2.2.2.2.2.2.2.2.2.2.2.2.2.1 pc nx a b lv st h n o as rest fs r h1 g0 g1 g2 g3 g4 g5 g6 (g7 P R)
theorem pq_clf {pc nx a b : Nat} {lv : pm_L} {st : List Value} {h : pm_H} {n c o : Nat} {as rest fs : List Value} {r : Option Value} {h1 : pm_H} (g0 : pm_at (pm_cd md) pc = some (.invokeinterface n c, nx, a, b)) (g1 : pm_knd a 5) (g2 : pm_spl b st [] = some (.ref o :: as, rest)) (g3 : pm_cat rest ≤ 8) (g4 : h[o]? = some (.inr (12, fs))) (g5 : (pm_mal a = false ∨ pm_al md = true ∧ h1.length ≤ hb ∧ pm_sl h1 ≤ sb)) (g6 : C a (.ref o :: as) h r h1) (g7 : pm_W kp md C hb sb Q nx lv (pm_pu r rest) h1) : pm_W kp md C hb sb Q pc lv st h := fun P R => R.2.2.2.2.2.2.2.2.2.2.2.2.2.2.2.2.2.2.2.2.2.2.2.2.2.2.2.2.2.2.2.2.2.2.2.2.2.2.2.2.2.2.2.2.2.2.2.2.1 pc nx a b lv st h n c o as rest fs r h1 g0 g1 g2 g3 g4 g5 g6 (g7 P R)
theorem pq_acp {pc nx a b : Nat} {lv : pm_L} {st : List Value} {h : pm_H} {n o b0 n0 n1 : Nat} {f g : Nat → Int32} {sp dp k : Int32} (g0 : pm_at (pm_cd md) pc = some (.invokestatic n, nx, a, b)) (g1 : a = 1004) (g2 : pm_kar kp b0 = some (2, (n0, .inl f))) (g3 : h[o]? = some (.inl (2, (n1, .inl g)))) (g4 : ¬ sp < 0) (g5 : ¬ dp < 0) (g6 : ¬ k < 0) (g7 : sp.toNatClampNeg + k.toNatClampNeg ≤ n0) (g8 : dp.toNatClampNeg + k.toNatClampNeg ≤ n1) (g9 : pm_cat st ≤ 8) (g10 : pm_W kp md C hb sb Q nx lv st (h.set o (.inl (2, (n1, .inl (va_cpy f g sp.toNatClampNeg dp.toNatClampNeg k.toNatClampNeg)))))) : pm_W kp md C hb sb Q pc lv (.int k :: .int dp :: .ref o :: .int sp :: .ref b0 :: st) h := fun P R => R.2.2.2.2.2.2.2.2.2.2.2.2.2.2.2.2.2.2.2.2.2.2.2.2.2.2.2.2.2.2.2.2.2.2.2.2.2.2.2.2.2.2.2.2.2.2.2.2.2.1 pc nx a b lv st h n o b0 n0 n1 f g sp dp k g0 g1 g2 g3 g4 g5 g6 g7 g8 g9 (g10 P R)
theorem pq_mmx {pc nx a b : Nat} {lv : pm_L} {st : List Value} {h : pm_H} {n : Nat} {x y : Int32} (g0 : pm_at (pm_cd md) pc = some (.invokestatic n, nx, a, b)) (g1 : a = 1001) (g2 : pm_cat st ≤ 8) (g3 : pm_W kp md C hb sb Q nx lv (.int (if x < y then y else x) :: st) h) : pm_W kp md C hb sb Q pc lv (.int y :: .int x :: st) h := fun P R => R.2.2.2.2.2.2.2.2.2.2.2.2.2.2.2.2.2.2.2.2.2.2.2.2.2.2.2.2.2.2.2.2.2.2.2.2.2.2.2.2.2.2.2.2.2.2.2.2.2.2.1 pc nx a b lv st h n x y g0 g1 g2 (g3 P R)
theorem pq_mmn {pc nx a b : Nat} {lv : pm_L} {st : List Value} {h : pm_H} {n : Nat} {x y : Int32} (g0 : pm_at (pm_cd md) pc = some (.invokestatic n, nx, a, b)) (g1 : a = 1002) (g2 : pm_cat st ≤ 8) (g3 : pm_W kp md C hb sb Q nx lv (.int (if y < x then y else x) :: st) h) : pm_W kp md C hb sb Q pc lv (.int y :: .int x :: st) h := fun P R => R.2.2.2.2.2.2.2.2.2.2.2.2.2.2.2.2.2.2.2.2.2.2.2.2.2.2.2.2.2.2.2.2.2.2.2.2.2.2.2.2.2.2.2.2.2.2.2.2.2.2.2.1 pc nx a b lv st h n x y g0 g1 g2 (g3 P R)
theorem pq_obj {pc nx a b : Nat} {lv : pm_L} {st : List Value} {h : pm_H} {n o : Nat} (g0 : pm_at (pm_cd md) pc = some (.invokespecial n, nx, a, b)) (g1 : a = 1000) (g2 : pm_cat st ≤ 8) (g3 : pm_W kp md C hb sb Q nx lv st h) : pm_W kp md C hb sb Q pc lv (.ref o :: st) h := fun P R => R.2.2.2.2.2.2.2.2.2.2.2.2.2.2.2.2.2.2.2.2.2.2.2.2.2.2.2.2.2.2.2.2.2.2.2.2.2.2.2.2.2.2.2.2.2.2.2.2.2.2.2.2.1 pc nx a b lv st h n o g0 g1 g2 (g3 P R)
theorem pq_irt {pc nx a b : Nat} {lv : pm_L} {h : pm_H} {v : Int32} {ty : FieldType} (g0 : pm_at (pm_cd md) pc = some (.ireturn, nx, a, b)) (g1 : pm_ret md = some ty) (g2 : narrow ty (.int v) = .int v) (g3 : Q (some (.int v)) h) : pm_W kp md C hb sb Q pc lv ([.int v]) h := fun P R => R.2.2.2.2.2.2.2.2.2.2.2.2.2.2.2.2.2.2.2.2.2.2.2.2.2.2.2.2.2.2.2.2.2.2.2.2.2.2.2.2.2.2.2.2.2.2.2.2.2.2.2.2.2.1 pc nx a b lv h v ty g0 g1 g2 g3
theorem pq_lrt {pc nx a b : Nat} {lv : pm_L} {h : pm_H} {v : Int64} (g0 : pm_at (pm_cd md) pc = some (.lreturn, nx, a, b)) (g1 : pm_ret md = some .long) (g2 : Q (some (.long v)) h) : pm_W kp md C hb sb Q pc lv ([.long v]) h := fun P R => R.2.2.2.2.2.2.2.2.2.2.2.2.2.2.2.2.2.2.2.2.2.2.2.2.2.2.2.2.2.2.2.2.2.2.2.2.2.2.2.2.2.2.2.2.2.2.2.2.2.2.2.2.2.2.1 pc nx a b lv h v g0 g1 g2
theorem pq_art {pc nx a b : Nat} {lv : pm_L} {h : pm_H} {o : Nat} {n : String} (g0 : pm_at (pm_cd md) pc = some (.areturn, nx, a, b)) (g1 : pm_ret md = some (.object n)) (g2 : Q (some (.ref o)) h) : pm_W kp md C hb sb Q pc lv ([.ref o]) h := fun P R => R.2.2.2.2.2.2.2.2.2.2.2.2.2.2.2.2.2.2.2.2.2.2.2.2.2.2.2.2.2.2.2.2.2.2.2.2.2.2.2.2.2.2.2.2.2.2.2.2.2.2.2.2.2.2.2.1 pc nx a b lv h o n g0 g1 g2
theorem pq_vrt {pc nx a b : Nat} {lv : pm_L} {h : pm_H}  (g0 : pm_at (pm_cd md) pc = some (.return_, nx, a, b)) (g1 : pm_ret md = none) (g2 : Q none h) : pm_W kp md C hb sb Q pc lv [] h := fun P R => R.2.2.2.2.2.2.2.2.2.2.2.2.2.2.2.2.2.2.2.2.2.2.2.2.2.2.2.2.2.2.2.2.2.2.2.2.2.2.2.2.2.2.2.2.2.2.2.2.2.2.2.2.2.2.2.2.1 pc nx a b lv h g0 g1 g2
theorem pq_gst {pc nx a b : Nat} {lv : pm_L} {st : List Value} {h : pm_H} {n : Nat} {v : Value} (g0 : pm_at (pm_cd md) pc = some (.getstatic n, nx, a, b)) (g1 : pm_gst a = some v) (g2 : pm_W kp md C hb sb Q nx lv (v :: st) h) : pm_W kp md C hb sb Q pc lv st h := fun P R => R.2.2.2.2.2.2.2.2.2.2.2.2.2.2.2.2.2.2.2.2.2.2.2.2.2.2.2.2.2.2.2.2.2.2.2.2.2.2.2.2.2.2.2.2.2.2.2.2.2.2.2.2.2.2.2.2.2.1 pc nx a b lv st h n v g0 g1 (g2 P R)
theorem pq_sub {pc nx a b : Nat} {lv : pm_L} {st : List Value} {h : pm_H} (ks : List Nat) {lv1 : pm_L} (g0 : pm_pck lv ks some = some lv1) (g1 : pm_W kp md C hb sb Q pc lv1 st h) : pm_W kp md C hb sb Q pc lv st h := fun P R => R.2.2.2.2.2.2.2.2.2.2.2.2.2.2.2.2.2.2.2.2.2.2.2.2.2.2.2.2.2.2.2.2.2.2.2.2.2.2.2.2.2.2.2.2.2.2.2.2.2.2.2.2.2.2.2.2.2.2 pc nx a b lv st h ks lv1 g0 (g1 P R)
end PQ
/-- how many locals the arguments take -/
def pm_asz : List Value → Nat
  | [] => 0
  | v :: r => (bif Nat.beq v.category 2 then 2 else 1) + pm_asz r
/-- method k, called with these, over that heap: answers r, the heap is h1 then; calls stand at most d deep -/
def pm_X (kp : pm_K) : Nat → pm_C
  | 0 => fun _ _ _ _ _ => False
  | d + 1 => fun k as h r h1 => ∃ md, pt_M[k]? = some md ∧ pm_asz as ≤ md.2.2.1 ∧ pm_W kp md (pm_X kp d) h1.length (pm_sl h1) (fun r2 h2 => r2 = r ∧ h2 = h1) 0 (lv_args 0 as) [] h
theorem pm_Xi {kp : pm_K} {d k : Nat} {as : List Value} {h h1 : pm_H} {r : Option Value} (md : pm_M) (lv : pm_L) (g : pt_M[k]? = some md) (ga : pm_asz as ≤ md.2.2.1) (e : lv_args 0 as = lv)
    (w : pm_W kp md (pm_X kp d) h1.length (pm_sl h1) (fun r2 h2 => r2 = r ∧ h2 = h1) 0 lv [] h) : pm_X kp (d + 1) k as h r h1 := ⟨md, g, ga, by rw [e]; exact w⟩
