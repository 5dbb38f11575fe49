/-! the shape of the heap behind the constructors; printed by wip/p50/g/lay.py -/
def qm_lay : List (Nat × Nat) := [(110, 0), (105, 0), (1, 8), (1, 16), (102, 0), (4, 10), (105, 0), (1, 8), (1, 16), (105, 0), (1, 8), (1, 16), (105, 0), (1, 8), (1, 16), (105, 0), (1, 8), (1, 16), (105, 0), (1, 8), (1, 16), (105, 0), (1, 8), (1, 16), (105, 0), (1, 8), (1, 16), (105, 0), (1, 8), (1, 16), (105, 0), (1, 8), (1, 16), (105, 0), (1, 8), (1, 16), (4, 2), (105, 0), (1, 8), (1, 16), (105, 0), (1, 8), (1, 16), (109, 0), (2, 120), (105, 0), (1, 8), (1, 16), (103, 0), (106, 0), (0, 12), (0, 12), (0, 2048), (1, 64), (106, 0), (0, 12), (0, 12), (0, 2048), (1, 64), (0, 4096), (101, 0), (0, 4096), (0, 256), (0, 13), (107, 0), (1, 64), (1, 64), (108, 0), (1, 32), (0, 4), (104, 0), (1, 4), (1, 4), (1, 4), (1, 16), (1, 16), (1, 16), (1, 16), (1, 16), (5, 16), (1, 16), (1, 16), (1, 16), (1, 16), (1, 16), (1, 16), (1, 16), (1, 16), (1, 16), (1, 16), (1, 16), (1, 16), (1, 16), (1, 16), (1, 16), (1, 16), (5, 8), (1, 16), (1, 16), (1, 16), (1, 16), (1, 16), (1, 16), (1, 16), (1, 16), (0, 7), (1, 8), (100, 0), (1, 8), (1, 8), (1, 4), (1, 8), (111, 0), (0, 2), (0, 2), (0, 2), (6, 6), (3, 6), (3, 6), (3, 6), (3, 6), (3, 6), (3, 6), (0, 36)]
def qm_rft : List (List Nat) := [[1, 4, 36, 43, 48, 60, 64, 67, 70, 107], [0, 0, 0, 0, 0, 0, 0, 2, 0, 0, 3, 0], [], [], [5, 0, 0], [6, 9, 12, 15, 18, 21, 24, 27, 30, 33], [0, 0, 0, 0, 0, 0, 0, 7, 0, 0, 8, 0], [], [], [0, 0, 0, 0, 0, 0, 0, 10, 0, 0, 11, 0], [], [], [0, 0, 0, 0, 0, 0, 0, 13, 0, 0, 14, 0], [], [], [0, 0, 0, 0, 0, 0, 0, 16, 0, 0, 17, 0], [], [], [0, 0, 0, 0, 0, 0, 0, 19, 0, 0, 20, 0], [], [], [0, 0, 0, 0, 0, 0, 0, 22, 0, 0, 23, 0], [], [], [0, 0, 0, 0, 0, 0, 0, 25, 0, 0, 26, 0], [], [], [0, 0, 0, 0, 0, 0, 0, 28, 0, 0, 29, 0], [], [], [0, 0, 0, 0, 0, 0, 0, 31, 0, 0, 32, 0], [], [], [0, 0, 0, 0, 0, 0, 0, 34, 0, 0, 35, 0], [], [], [37, 40], [0, 0, 0, 0, 0, 0, 0, 38, 0, 0, 39, 0], [], [], [0, 0, 0, 0, 0, 0, 0, 41, 0, 0, 42, 0], [], [], [44, 45, 0, 0, 0], [], [0, 0, 0, 0, 0, 0, 0, 46, 0, 0, 47, 0], [], [], [49, 54, 59, 0, 0, 0, 0], [50, 51, 52, 53, 0, 0], [], [], [], [], [55, 56, 57, 58, 0, 0], [], [], [], [], [], [61, 62, 63, 0, 0, 0, 0, 0, 0, 0], [], [], [], [65, 66], [], [], [68, 69, 0, 0], [], [], [71, 72, 73, 74, 75, 76, 77, 78, 79, 96, 105, 106, 0, 0, 0], [], [], [], [], [], [], [], [], [80, 81, 82, 83, 84, 85, 86, 87, 88, 89, 90, 91, 92, 93, 94, 95], [], [], [], [], [], [], [], [], [], [], [], [], [], [], [], [], [97, 98, 99, 100, 101, 102, 103, 104], [], [], [], [], [], [], [], [], [], [], [108, 109, 110, 111, 0, 0], [], [], [], [], [113, 114, 115, 116], [], [], [], [117, 118, 119, 120, 121, 122], [], [], [], [], [], [], []]
/-- kinds of fields: 0 int, 1 long, 2 reference -/
def qm_kst : List (List Nat) := [[2, 2, 2, 2, 0, 0], [2, 2, 2, 0, 0, 0, 0, 0, 0, 0], [2, 0, 0], [2, 2, 2, 0, 0, 0, 0], [2, 2, 2, 2, 2, 2, 2, 2, 2, 2, 2, 2, 0, 0, 0], [0, 0, 0, 0, 0, 0, 1, 2, 0, 0, 2, 0], [2, 2, 2, 2, 0, 0], [2, 2], [2, 2, 0, 1], [2, 2, 0, 0, 0], [2, 2, 2, 2, 2, 2, 2, 2, 2, 2], [2, 2, 2, 2], [2, 0, 0, 0]]
/-- what arrays of references hold -/
def qm_ra (o : Nat) : Nat → Option Nat := bif Nat.beq o 5 then (va_up (va_up (va_up (va_up (va_up (va_up (va_up (va_up (va_up (va_up (fun _ => none) 0 (some 6)) 1 (some 9)) 2 (some 12)) 3 (some 15)) 4 (some 18)) 5 (some 21)) 6 (some 24)) 7 (some 27)) 8 (some 30)) 9 (some 33)) else bif Nat.beq o 36 then (va_up (va_up (fun _ => none) 0 (some 37)) 1 (some 40)) else bif Nat.beq o 79 then (fun j => if j < 16 then some (79 + 1 + j) else none) else bif Nat.beq o 96 then (fun j => if j < 8 then some (96 + 1 + j) else none) else bif Nat.beq o 116 then (fun j => if j < 6 then some (116 + 1 + j) else none) else fun _ => none
/-! THE PURE MACHINE OVER NUMBERS: the heap's shape stands still; memory is one function for ints, one for longs -/
abbrev qm_M : Type := (Nat → Nat → Int32) × (Nat → Nat → Int64)
abbrev qm_R : Type := Option Value × qm_M
def qm_nth {α : Type} : List α → Nat → α → α
  | [], _, d => d
  | x :: _, 0, _ => x
  | _ :: r, k + 1, d => qm_nth r k d
theorem qm_nth_eq {α : Type} : ∀ (l : List α) (k : Nat) (d : α), qm_nth l k d = (l[k]?).getD d
  | [], k, d => by simp [qm_nth]
  | x :: r, 0, d => by simp [qm_nth]
  | x :: r, k + 1, d => by simp [qm_nth, qm_nth_eq r k d]
def qm_kn (o : Nat) : Nat × Nat := qm_nth qm_lay o (99, 0)
def qm_isO (o ci : Nat) : Bool := Nat.beq (qm_kn o).1 (100 + ci)
def qm_isL (o t : Nat) : Bool := Nat.beq (qm_kn o).1 t
def qm_nl (o : Nat) : Nat := (qm_kn o).2
/-- given arrays: two tables, the bytes of five words -/
def qm_gv (o : Nat) : Nat × Nat := bif Nat.beq o 1000001 then (1, 6) else
  bif Nat.beq o 1000030 then (2, 2) else bif Nat.beq o 1000031 then (2, 5) else bif Nat.beq o 1000032 then (2, 5) else bif Nat.beq o 1000033 then (2, 4) else bif Nat.beq o 1000034 then (2, 5) else (99, 0)
def qm_gk (o : Nat) : Nat × Nat := bif Nat.ble 1000000 o then qm_gv o else qm_kn o
def qm_isA (o t : Nat) : Bool := Nat.beq (qm_gk o).1 t
def qm_n (o : Nat) : Nat := (qm_gk o).2
def qm_rf (o i : Nat) : Nat := qm_nth (qm_nth qm_rft o []) i 0
def qm_ks (ci : Nat) : List Nat := qm_nth qm_kst ci []
def qm_gw (o i : Nat) : Int32 := qm_nth (qm_nth pm_wds (o - 1000030) []) i 0
def qm_gI (m : qm_M) (o i : Nat) : Int32 := bif Nat.ble 1000000 o then qm_gw o i else m.1 o i
def qm_gL (m : qm_M) (o i : Nat) : Int64 := bif Nat.ble 1000000 o then qm_nth pm_low i 0 else m.2 o i
def qm_sI (m : qm_M) (o j : Nat) (x : Int32) : qm_M := (fun a => bif Nat.beq a o then upd (m.1 o) j x else m.1 a, m.2)
def qm_sL (m : qm_M) (o j : Nat) (x : Int64) : qm_M := (m.1, fun a => bif Nat.beq a o then vp_updL (m.2 o) j x else m.2 a)
def qm_in (j : Int32) (n : Nat) : Bool := bif decide (j < 0) then false else Nat.ble (j.toNatClampNeg + 1) n
theorem qm_in_ok {j : Int32} {n : Nat} (h : qm_in j n = true) : vp_in j n := by
  unfold qm_in at h
  intro q
  cases hj : decide (j < 0) with
  | true => rw [hj] at h; cases h
  | false =>
    rw [hj] at h
    have h1 := Nat.le_of_ble_eq_true h
    rcases q with q | q
    · simp [q] at hj
    · omega
theorem qm_ra_ok {o t n : Nat} (h : qm_lay[o]? = some (t, n)) (ht : t = 4 ∨ t = 5 ∨ t = 6) {j : Nat} (hj : j < n) : qm_ra o j = some (qm_rf o j) := by
  have hl : (List.range 124).all (fun o => match qm_lay[o]? with
      | some (t, n) => bif Nat.beq t 4 || (Nat.beq t 5 || Nat.beq t 6) then (List.range n).all (fun j => decide (qm_ra o j = some (qm_rf o j))) else true
      | none => true) = true := by decide +kernel
  have ho : o < 124 := by
    have h1 := (List.getElem?_eq_some_iff.mp h).1
    have h2 : qm_lay.length = 124 := by decide +kernel
    omega
  have h1 := List.all_eq_true.mp hl o (List.mem_range.mpr ho)
  rw [h] at h1
  have h2 : (Nat.beq t 4 || (Nat.beq t 5 || Nat.beq t 6)) = true := by rcases ht with rfl | rfl | rfl <;> rfl
  dsimp only at h1
  rw [h2] at h1
  exact of_decide_eq_true (List.all_eq_true.mp h1 j (List.mem_range.mpr hj))
/-! the heap of a memory -/
def qm_fv (m : qm_M) (o i k : Nat) : Value := match k with
  | 0 => .int (m.1 o i)
  | 1 => .long (m.2 o i)
  | _ => .ref (qm_rf o i)
def qm_fs (m : qm_M) (o : Nat) : List Nat → Nat → List Value
  | [], _ => []
  | k :: r, i => qm_fv m o i k :: qm_fs m o r (i + 1)
def qm_cell (m : qm_M) (o : Nat) (e : Nat × Nat) : va_E := bif Nat.ble 100 e.1 then .inr (e.1 - 100, qm_fs m o (qm_ks (e.1 - 100)) 0) else
  bif Nat.beq e.1 1 then .inl (1, (e.2, .inr (.inl (m.2 o)))) else bif Nat.ble 4 e.1 then .inl (e.1, (e.2, .inr (.inr (.inr (.inr (qm_ra o)))))) else
  .inl (e.1, (e.2, .inl (m.1 o)))
def qm_hpl (m : qm_M) : List (Nat × Nat) → Nat → pm_H
  | [], _ => []
  | e :: r, o => qm_cell m o e :: qm_hpl m r (o + 1)
def qm_hp (m : qm_M) : pm_H := qm_hpl m qm_lay 0
theorem qm_hpl_at (m : qm_M) : ∀ (l : List (Nat × Nat)) (o k : Nat), (qm_hpl m l o)[k]? = (l[k]?).map (qm_cell m (o + k))
  | [], o, k => by simp [qm_hpl]
  | e :: r, o, 0 => by simp [qm_hpl]
  | e :: r, o, k + 1 => by simp [qm_hpl, qm_hpl_at m r (o + 1) k, Nat.add_assoc, Nat.add_comm 1 k]
theorem qm_hp_at (m : qm_M) (k : Nat) : (qm_hp m)[k]? = (qm_lay[k]?).map (qm_cell m k) := by
  unfold qm_hp
  rw [qm_hpl_at, Nat.zero_add]
theorem qm_fs_at (m : qm_M) (o : Nat) : ∀ (l : List Nat) (i b : Nat), (qm_fs m o l i)[b]? = (l[b]?).map (qm_fv m o (i + b))
  | [], i, b => by simp [qm_fs]
  | k :: r, i, 0 => by simp [qm_fs]
  | k :: r, i, b + 1 => by simp [qm_fs, qm_fs_at m o r (i + 1) b, Nat.add_assoc, Nat.add_comm 1 b]
theorem qm_fs_len (m : qm_M) (o : Nat) : ∀ (l : List Nat) (i : Nat), (qm_fs m o l i).length = l.length
  | [], i => rfl
  | k :: r, i => by simp [qm_fs, qm_fs_len m o r (i + 1)]
theorem qm_cell_eq {m m1 : qm_M} {o : Nat} {e : Nat × Nat} (h1 : m1.1 o = m.1 o) (h2 : m1.2 o = m.2 o) : qm_cell m1 o e = qm_cell m o e := by
  have hf : ∀ i k, qm_fv m1 o i k = qm_fv m o i k := fun i k => by
    unfold qm_fv
    rw [h1, h2]
  have hs : ∀ (l : List Nat) (i : Nat), qm_fs m1 o l i = qm_fs m o l i := fun l => by
    induction l with
    | nil => intro i; rfl
    | cons k r ih => intro i; unfold qm_fs; rw [hf, ih]
  unfold qm_cell
  rw [h1, h2, hs]
theorem qm_hp_set {m m1 : qm_M} {o : Nat} {e : Nat × Nat} (h : qm_lay[o]? = some e) (h1 : ∀ a, a ≠ o → m1.1 a = m.1 a ∧ m1.2 a = m.2 a) : (qm_hp m).set o (qm_cell m1 o e) = qm_hp m1 := by
  apply List.ext_getElem?
  intro k
  by_cases hk : o = k
  · subst hk
    have hl : o < (qm_hp m).length := by
      have := qm_hp_at m o
      rw [h] at this
      exact (List.getElem?_eq_some_iff.mp this).1
    rw [List.getElem?_set_self hl, qm_hp_at, h]
    rfl
  · rw [List.getElem?_set_ne hk, qm_hp_at, qm_hp_at]
    have := h1 k (Ne.symm hk)
    congr 1
    funext e
    exact (qm_cell_eq this.1 this.2).symm
theorem qm_isL_at {o t : Nat} (h : qm_isL o t = true) (ht : t ≠ 99) : ∃ n, qm_lay[o]? = some (t, n) ∧ qm_nl o = n := by
  unfold qm_isL qm_kn at h
  unfold qm_nl qm_kn
  rw [qm_nth_eq] at h ⊢
  have h := Nat.eq_of_beq_eq_true h
  cases hk : qm_lay[o]? with
  | none => rw [hk] at h; exact absurd h.symm ht
  | some e =>
    rw [hk] at h
    exact ⟨e.2, by rw [← h]; rfl, rfl⟩
theorem qm_isO_at {o ci : Nat} (h : qm_isO o ci = true) : ∃ n, qm_lay[o]? = some (100 + ci, n) := by
  obtain ⟨n, h1, -⟩ := qm_isL_at (t := 100 + ci) h (by omega)
  exact ⟨n, h1⟩
/-! the machine -/
abbrev qe_F : Type := List Value → qm_M → Option qm_R
/-- what calls answer: which method, kind (0 virtual, 1 static, 3 of a String), class, what kind of result, the answer -/
abbrev qe_T : Type := List (Nat × Nat × Nat × Nat × qe_F)
abbrev qe_K : Type := Nat → pm_L → List Value → qm_M → Option qm_R
def qe_b {α : Type} (b : Bool) (x : Option α) : Option α := bif b then x else none
def qe_get {α : Type} : pm_L → Nat → (Value → Option α) → Option α
  | [], _, _ => none
  | q :: r, k, c => bif Nat.beq q.1 k then c q.2 else qe_get r k c
def qe_flt {α : Type} (p : Nat × Value → Bool) : pm_L → (pm_L → Option α) → Option α
  | [], c => c []
  | q :: r, c => bif p q then qe_flt p r (fun t => c (q :: t)) else qe_flt p r c
def qe_sto {α : Type} (k : Nat) (v : Value) (l : pm_L) (c : pm_L → Option α) : Option α := match v with
  | .long x => qe_flt (pm_k2 k) l (fun t => c ((k, .long x) :: t))
  | .int x => qe_flt (pm_k1 k) l (fun t => c ((k, .int x) :: t))
  | .ref x => qe_flt (pm_k1 k) l (fun t => c ((k, .ref x) :: t))
  | _ => none
def qe_pick {α : Type} : List Nat → pm_L → (List Value → Option α) → Option α
  | [], _, c => c []
  | k :: ks, l, c => qe_get l k (fun v => qe_pick ks l (fun vs => c (v :: vs)))
def qe_zip : List Nat → List Value → pm_L
  | k :: ks, v :: vs => (k, v) :: qe_zip ks vs
  | _, _ => []
abbrev qe_P : Type := List Value → List Value → qm_M → Option qm_R
/-- places, the locals that count there, what is answered from there on -/
abbrev qe_B : Type := List (Nat × List Nat × qe_P)
def qe_stop : qe_B → Nat → Option (List Nat × qe_P)
  | [], _ => none
  | q :: r, pc => bif Nat.beq q.1 pc then some q.2 else qe_stop r pc
def qe_look : qe_T → Nat → Option (Nat × Nat × Nat × qe_F)
  | [], _ => none
  | q :: r, k => bif Nat.beq q.1 k then some q.2 else qe_look r k
def qe_spl {α : Type} : Nat → List Value → List Value → (List Value → List Value → Option α) → Option α
  | 0, st, acc, c => c acc st
  | _ + 1, [], _, _ => none
  | n + 1, v :: st, acc, c => qe_spl n st (v :: acc) c
def qe_rV {α : Type} (r : Option qm_R) (k : qm_M → Option α) : Option α := match r with
  | some (none, m) => k m
  | _ => none
def qe_rI {α : Type} (r : Option qm_R) (k : Int32 → qm_M → Option α) : Option α := match r with
  | some (some (.int v), m) => k v m
  | _ => none
def qe_rL {α : Type} (r : Option qm_R) (k : Int64 → qm_M → Option α) : Option α := match r with
  | some (some (.long v), m) => k v m
  | _ => none
def qe_rR {α : Type} (r : Option qm_R) (k : Nat → qm_M → Option α) : Option α := match r with
  | some (some (.ref v), m) => k v m
  | _ => none
def qe_ret {α : Type} (ret : Nat) (r : Option qm_R) (rest : List Value) (k : List Value → qm_M → Option α) : Option α := match ret with
  | 0 => qe_rV r (fun m => k rest m)
  | 1 => qe_rI r (fun v m => k (.int v :: rest) m)
  | 2 => qe_rL r (fun v m => k (.long v :: rest) m)
  | 3 => qe_rR r (fun v m => k (.ref v :: rest) m)
  | _ => none
def qe_ldk : Instr → Option Nat
  | .iload k => some k
  | .iload_n k => some (k : Nat)
  | .lload k => some k
  | .lload_n k => some (k : Nat)
  | .aload k => some k
  | .aload_n k => some (k : Nat)
  | _ => none
def qe_dop {α : Type} (i : Instr) (y x : Value) (c : Value → Option α) : Option α := match i, y, x with
  | .idiv, .int y, .int x => qe_b (!decide (y = 0)) (c (.int (x / y)))
  | .irem, .int y, .int x => qe_b (!decide (y = 0)) (c (.int (x - x / y * y)))
  | .ldiv, .long y, .long x => qe_b (!decide (y = 0)) (c (.long (x / y)))
  | .lrem, .long y, .long x => qe_b (!decide (y = 0)) (c (.long (x - x / y * y)))
  | _, _, _ => none
def qe_if {α : Type} (c : Jvm.ClassFile.Cond) (x y : Int32) (A B : Option α) : Option α := match c with
  | .eq => if x = y then A else B
  | .ne => if x = y then B else A
  | .lt => if x < y then A else B
  | .ge => if x < y then B else A
  | .gt => if y < x then A else B
  | .le => if y < x then B else A
def qe_tsw {α : Type} (x : Int32) (K : Nat → Option α) (pc : Nat) (d : Nat) : Int → List Int → Option α
  | _, [] => K (pc + d)
  | v, off :: r => match off with
    | .ofNat k => if x.toInt = v then K (pc + k) else qe_tsw x K pc d (v + 1) r
    | _ => none
def qe_lsw {α : Type} (x : Int32) (K : Nat → Option α) (pc : Nat) (d : Nat) : List (Int × Int) → Option α
  | [] => K (pc + d)
  | q :: r => match q.2 with
    | .ofNat k => if x.toInt = q.1 then K (pc + k) else qe_lsw x K pc d r
    | _ => none
def qm_ni (ty : FieldType) (v : Int32) : Bool := match ty with
  | .int => true
  | .boolean => decide (v &&& 1 = v)
  | .char => decide (v.toUInt32.toUInt16.toUInt32.toInt32 = v)
  | .byte => decide (v.toInt8.toInt32 = v)
  | _ => false
def qm_fi (ty : FieldType) (v : Int32) : Bool := match ty with
  | .int => true
  | .boolean => v == 0 || v == 1
  | _ => false
theorem qm_ni_ok {ty : FieldType} {v : Int32} (h : qm_ni ty v = true) : narrow ty (.int v) = .int v := by
  unfold qm_ni at h
  split at h
  · rfl
  · show Value.int _ = _; rw [of_decide_eq_true h]
  · show Value.int _ = _; rw [of_decide_eq_true h]
  · show Value.int _ = _; rw [of_decide_eq_true h]
  · cases h
theorem qm_fi_ok {ty : FieldType} {v : Int32} (h : qm_fi ty v = true) : pm_fit ty (.int v) := by
  unfold qm_fi at h
  split at h
  · exact ⟨rfl, rfl⟩
  · refine ⟨?_, h⟩
    rcases Bool.or_eq_true_iff.mp h with q | q
    · rw [show v = 0 by simpa using q]; rfl
    · rw [show v = 1 by simpa using q]; rfl
  · cases h
section QE
variable (sc : Option pm_K) (md : pm_M) (T : qe_T) (i : Instr) (nx a b pc : Nat) (lv : pm_L) (st : List Value) (m : qm_M) (K : qe_K)
noncomputable def qe_s0 : Option qm_R := match pm_cst i with
  | some v => K nx lv (v :: st) m
  | none => none
noncomputable def qe_s1 : Option qm_R := bif pm_isl i then match pt_ldc[a]? with
  | some v => K nx lv (v :: st) m
  | none => none
  else none
noncomputable def qe_s2 : Option qm_R := match qe_ldk i with
  | some k => qe_get lv k (fun v => match pm_ld i v with
    | some k2 => qe_b (Nat.beq k2 k) (K nx lv (v :: st) m)
    | none => none)
  | none => none
noncomputable def qe_s3 : Option qm_R := match st with
  | v :: r => match pm_st i v with
    | some k => qe_sto k v lv (fun l1 => K nx l1 r m)
    | none => none
  | [] => none
noncomputable def qe_s4 : Option qm_R := match st with
  | y :: x :: r => match pm_bop i y x with
    | some v => K nx lv (v :: r) m
    | none => none
  | _ => none
noncomputable def qe_s5 : Option qm_R := match st with
  | y :: x :: r => qe_dop i y x (fun v => K nx lv (v :: r) m)
  | _ => none
noncomputable def qe_s6 : Option qm_R := match st with
  | x :: r => match pm_uop i x with
    | some v => K nx lv (v :: r) m
    | none => none
  | _ => none
noncomputable def qe_s7 : Option qm_R := match pm_sop i st with
  | some st1 => K nx lv st1 m
  | none => none
noncomputable def qe_s8 : Option qm_R := match i with
  | .iinc k n => qe_get lv k (fun v => match v with
    | .int x => qe_sto k (.int (x + Int32.ofInt n)) lv (fun l1 => K nx l1 st m)
    | _ => none)
  | _ => none
noncomputable def qe_s9 : Option qm_R := match i with
  | .goto _ => K a lv st m
  | _ => none
noncomputable def qe_s10 : Option qm_R := match i, st with
  | .ifCond c _, .int x :: r => qe_if c x 0 (K a lv r m) (K nx lv r m)
  | _, _ => none
noncomputable def qe_s11 : Option qm_R := match i, st with
  | .if_icmp c _, .int y :: .int x :: r => qe_if c x y (K a lv r m) (K nx lv r m)
  | _, _ => none
noncomputable def qe_s12 : Option qm_R := match i, st with
  | .tableswitch (.ofNat d) lo hi os, .int x :: r => qe_b (decide (hi + 1 = lo + os.size)) (qe_tsw x (fun t => K t lv r m) pc d lo os.toList)
  | _, _ => none
noncomputable def qe_s13 : Option qm_R := match i, st with
  | .lookupswitch (.ofNat d) ps, .int x :: r => qe_b ((ps.toList.zip (ps.toList.drop 1)).all (fun (a, next) => a.1 < next.1)) (qe_lsw x (fun t => K t lv r m) pc d ps.toList)
  | _, _ => none
noncomputable def qe_s14 : Option qm_R := match i, st with
  | .getfield _, .ref o :: r => bif Nat.beq a 100 then qe_b (Nat.ble 1000010 o && Nat.ble o 1000018) (match b with
      | 0 => K nx lv (.ref (o + 20) :: r) m
      | 1 => K nx lv (.int 0 :: r) m
      | _ => none)
    else qe_b (qm_isO o a) (match qm_nth (qm_ks a) b 9 with
      | 0 => K nx lv (.int (m.1 o b) :: r) m
      | 1 => K nx lv (.long (m.2 o b) :: r) m
      | 2 => K nx lv (.ref (qm_rf o b) :: r) m
      | _ => none)
  | _, _ => none
noncomputable def qe_s15 : Option qm_R := match i, st with
  | .putfield _, v :: .ref o :: r => qe_b (qm_isO o a) (match pm_fty a b with
    | some (ty, false) => (match v with
      | .int x => qe_b (qm_fi ty x) (qe_b (Nat.beq (qm_nth (qm_ks a) b 9) 0) (K nx lv r (qm_sI m o b x)))
      | .long x => qe_b (Nat.beq (qm_nth (qm_ks a) b 9) 1) (match ty with
        | .long => K nx lv r (qm_sL m o b x)
        | _ => none)
      | _ => none)
    | _ => none)
  | _, _ => none
noncomputable def qe_s16 : Option qm_R := match st with
  | .int j :: .ref o :: r => match sc with
    | some kp => bif Nat.beq o 1000000 then qe_b (qm_in j kp.1) (K nx lv (.int (kp.2 j.toNatClampNeg) :: r) m) else none
    | none => qe_b (qm_isL o 0) (qe_b (qm_in j (qm_nl o)) (K nx lv (.int (m.1 o j.toNatClampNeg) :: r) m))
  | _ => none
noncomputable def qe_s17 : Option qm_R := match st with
  | .int j :: .ref o :: r => qe_b (qm_isA o 2 || qm_isL o 3) (qe_b (qm_in j (qm_n o)) (K nx lv (.int (qm_gI m o j.toNatClampNeg) :: r) m))
  | _ => none
noncomputable def qe_s18 : Option qm_R := match st with
  | .int j :: .ref o :: r => qe_b (qm_isA o 1) (qe_b (qm_in j (qm_n o)) (K nx lv (.long (qm_gL m o j.toNatClampNeg) :: r) m))
  | _ => none
noncomputable def qe_s19 : Option qm_R := match st with
  | .int j :: .ref o :: r => qe_b (qm_isL o 4 || qm_isL o 5 || qm_isL o 6) (qe_b (qm_in j (qm_nl o)) (K nx lv (.ref (qm_rf o j.toNatClampNeg) :: r) m))
  | _ => none
noncomputable def qe_s20 : Option qm_R := match st with
  | .int x :: .int j :: .ref o :: r => qe_b (qm_isL o 0) (qe_b (qm_in j (qm_nl o)) (K nx lv r (qm_sI m o j.toNatClampNeg x)))
  | _ => none
noncomputable def qe_s21 : Option qm_R := match st with
  | .int x :: .int j :: .ref o :: r => bif qm_isL o 2 then qe_b (qm_in j (qm_nl o)) (K nx lv r (qm_sI m o j.toNatClampNeg (vp_nar .byte x))) else qe_b (qm_isL o 3) (qe_b (qm_in j (qm_nl o)) (K nx lv r (qm_sI m o j.toNatClampNeg (vp_nar .boolean x))))
  | _ => none
noncomputable def qe_s22 : Option qm_R := match st with
  | .long x :: .int j :: .ref o :: r => qe_b (qm_isL o 1) (qe_b (qm_in j (qm_nl o)) (K nx lv r (qm_sL m o j.toNatClampNeg x)))
  | _ => none
noncomputable def qe_s23 : Option qm_R := match st with
  | .ref o :: r => match sc with
    | some kp => bif Nat.beq o 1000000 then K nx lv (.int (Int32.ofNat kp.1) :: r) m else none
    | none => qe_b (Nat.ble (qm_gk o).1 6) (K nx lv (.int (Int32.ofNat (qm_n o)) :: r) m)
  | _ => none
noncomputable def qe_s24 : Option qm_R := bif Nat.beq a 1001 then (match st with
    | .int y :: .int x :: r => qe_b (Nat.ble (pm_cat r) 8) (K nx lv (.int (if x < y then y else x) :: r) m)
    | _ => none)
  else bif Nat.beq a 1002 then (match st with
    | .int y :: .int x :: r => qe_b (Nat.ble (pm_cat r) 8) (K nx lv (.int (if y < x then y else x) :: r) m)
    | _ => none)
  else match qe_look T a with
    | some (knd, _, ret, f) => qe_b (Nat.beq knd 1) (qe_spl b st [] (fun as rest => qe_b (Nat.ble (pm_cat rest) 8) (qe_ret ret (f as m) rest (fun st1 m1 => K nx lv st1 m1))))
    | none => none
noncomputable def qe_s25 : Option qm_R := match qe_look T a with
    | some (knd, ci, ret, f) => qe_spl b st [] (fun as rest => match as with
      | .ref o :: _ => qe_b (Nat.ble (pm_cat rest) 8) (qe_b (match knd with
        | 0 => qm_isO o ci
        | 3 => Nat.ble 1000010 o && Nat.ble o 1000018
        | _ => false) (qe_ret ret (f as m) rest (fun st1 m1 => K nx lv st1 m1)))
      | _ => none)
    | none => none
noncomputable def qe_s26 : Option qm_R := match st with
  | [.int v] => match pm_ret md with
    | some ty => qe_b (qm_ni ty v) (some (some (.int v), m))
    | none => none
  | _ => none
noncomputable def qe_s27 : Option qm_R := match st with
  | [.long v] => match pm_ret md with
    | some .long => some (some (.long v), m)
    | _ => none
  | _ => none
noncomputable def qe_s28 : Option qm_R := match st with
  | [.ref v] => match pm_ret md with
    | some (.object _) => some (some (.ref v), m)
    | _ => none
  | _ => none
noncomputable def qe_s29 : Option qm_R := match st with
  | [] => match pm_ret md with
    | none => some (none, m)
    | _ => none
  | _ => none
noncomputable def qe_s30 : Option qm_R := match pm_gst a with
  | some v => K nx lv (v :: st) m
  | none => none
noncomputable def qe_step : Option qm_R := match i with
  | .iconst _ | .bipush _ | .sipush _ | .lconst _ => qe_s0 i nx lv st m K
  | .ldc _ | .ldc_w _ | .ldc2_w _ => qe_s1 i nx a lv st m K
  | .iload _ | .iload_n _ | .lload _ | .lload_n _ | .aload _ | .aload_n _ => qe_s2 i nx lv st m K
  | .istore _ | .istore_n _ | .lstore _ | .lstore_n _ | .astore _ | .astore_n _ => qe_s3 i nx lv st m K
  | .iadd | .isub | .imul | .iand | .ior | .ixor | .ishl | .ishr | .iushr | .ladd | .lsub | .lmul | .land | .lor | .lxor | .lshl | .lshr | .lushr | .lcmp => qe_s4 i nx lv st m K
  | .idiv | .irem | .ldiv | .lrem => qe_s5 i nx lv st m K
  | .ineg | .lneg | .i2l | .l2i | .i2b | .i2c => qe_s6 i nx lv st m K
  | .dup | .pop | .dup2 | .dup_x1 => qe_s7 i nx lv st m K
  | .iinc _ _ => qe_s8 i nx lv st m K
  | .goto _ => qe_s9 i a lv st m K
  | .ifCond _ _ => qe_s10 i nx a lv st m K
  | .if_icmp _ _ => qe_s11 i nx a lv st m K
  | .tableswitch _ _ _ _ => qe_s12 i pc lv st m K
  | .lookupswitch _ _ => qe_s13 i pc lv st m K
  | .getfield _ => qe_s14 i nx a b lv st m K
  | .putfield _ => qe_s15 i nx a b lv st m K
  | .iaload => qe_s16 sc nx lv st m K
  | .baload => qe_s17 nx lv st m K
  | .laload => qe_s18 nx lv st m K
  | .aaload => qe_s19 nx lv st m K
  | .iastore => qe_s20 nx lv st m K
  | .bastore => qe_s21 nx lv st m K
  | .lastore => qe_s22 nx lv st m K
  | .arraylength => qe_s23 sc nx lv st m K
  | .invokestatic _ => qe_s24 T nx a b lv st m K
  | .invokevirtual _ => qe_s25 T nx a b lv st m K
  | .ireturn => qe_s26 md st m
  | .lreturn => qe_s27 md st m
  | .areturn => qe_s28 md st m
  | .return_ => qe_s29 md st m
  | .getstatic _ => qe_s30 nx a lv st m K
  | _ => none
end QE
def qe_go (B : qe_B) (f : qe_K) : qe_K := fun pc lv st m => match qe_stop B pc with
  | some (ks, p) => qe_pick ks lv (fun vs => p vs st m)
  | none => f pc lv st m
/-- runs on to the next place of B, or to the method's end -/
noncomputable def qe_ev (sc : Option pm_K) (md : pm_M) (T : qe_T) (B : qe_B) : Nat → qe_K
  | 0 => fun _ _ _ _ => none
  | n + 1 => fun pc lv st m => match pm_at (pm_cd md) pc with
    | some (i, nx, a, b) => qe_step sc md T i nx a b pc lv st m (qe_go B (qe_ev sc md T B n))
    | none => none
def qo_ishl (x y : Int32) : Int32 := x <<< (y &&& 31)
def qo_ishr (x y : Int32) : Int32 := x >>> (y &&& 31)
def qo_iushr (x y : Int32) : Int32 := (x.toUInt32 >>> (y.toUInt32 &&& Int32.toUInt32 31)).toInt32
def qo_lshl (x : Int64) (y : Int32) : Int64 := x <<< (y.toInt64 &&& 63)
def qo_lshr (x : Int64) (y : Int32) : Int64 := x >>> (y.toInt64 &&& 63)
def qo_lushr (x : Int64) (y : Int32) : Int64 := (x.toUInt64 >>> (y.toInt64.toUInt64 &&& Int64.toUInt64 63)).toInt64
def qo_irem (x y : Int32) : Int32 := x - x / y * y
def qo_lrem (x y : Int64) : Int64 := x - x / y * y
def qo_i2c (x : Int32) : Int32 := (x.toUInt32 % 65536).toInt32
def qo_max (x y : Int32) : Int32 := if x < y then y else x
def qo_min (x y : Int32) : Int32 := if y < x then y else x
