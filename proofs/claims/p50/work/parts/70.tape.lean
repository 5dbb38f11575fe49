/-! the tape: where blanks, digits, letters end; the class reads -/
theorem le_Ta_skipBlanks_0  (n : Nat) (m : qm_M) : L_Ta_skipBlanks_0 (n + 1) m = X_Ta_skipBlanks_0 (L_Ta_skipBlanks_0 n) m := rfl
theorem le_Ta_readNumber_21  (n : Nat) (v1 : Int32) (v2 : Int32) (v3 : Int32) (v4 : Int32) (m : qm_M) : L_Ta_readNumber_21 (n + 1) v1 v2 v3 v4 m = X_Ta_readNumber_21 F_Ta_skipBlanks F_Ta_isBetween F_Ta_blame (L_Ta_readNumber_21 n) (L_Ta_readNumber_90) v1 v2 v3 v4 m := rfl
theorem le_Ta_readWord_0  (n : Nat) (m : qm_M) : L_Ta_readWord_0 (n + 1) m = X_Ta_readWord_0 F_Ta_isBetween (L_Ta_readWord_0 n) m := rfl
theorem le_Ta_isWord_17  (n : Nat) (v1 : Int32) (v2 : Nat) (v3 : Int32) (m : qm_M) : L_Ta_isWord_17 (n + 1) v1 v2 v3 m = X_Ta_isWord_17 F_JS_length F_JS_charAt (L_Ta_isWord_17 n) v1 v2 v3 m := rfl
theorem tp_T {α : Type} {P : Prop} [Decidable P] (h : P) {A B : α} : (if (if P then (1 : Int32) else 0) = 0 then A else B) = B := by rw [if_pos h, if_neg n10]
theorem tp_F {α : Type} {P : Prop} [Decidable P] (h : ¬ P) {A B : α} : (if (if P then (1 : Int32) else 0) = 0 then A else B) = A := by rw [if_neg h, if_pos rfl]
theorem me_sII (m : qm_M) (o j : Nat) (x y : Int32) : qm_sI (qm_sI m o j x) o j y = qm_sI m o j y := by
  refine Prod.ext ?_ rfl
  funext a i
  simp only [me_1I]
  by_cases h : a = o
  · rw [if_pos h, if_pos h]
    by_cases g : i = j
    · rw [if_pos g, if_pos g, if_pos h]
    · rw [if_neg g, if_neg g, if_pos h, if_neg g]
  · rw [if_neg h, if_neg h, if_neg h]
theorem me_sIs {m : qm_M} {o j : Nat} {x : Int32} (h : m.1 o j = x) : qm_sI m o j x = m := by
  refine Prod.ext ?_ rfl
  funext a i
  rw [me_1I]
  by_cases g : a = o
  · rw [if_pos g]
    by_cases k : i = j
    · rw [if_pos k, g, k, h]
    · rw [if_neg k]
  · rw [if_neg g]
theorem me_self (m : qm_M) (o j : Nat) (x : Int32) : (qm_sI m o j x).1 o j = x := by rw [me_1I, if_pos rfl, if_pos rfl]
theorem me_oth (m : qm_M) (o j : Nat) (x : Int32) {a i : Nat} (h : a ≠ o ∨ i ≠ j) : (qm_sI m o j x).1 a i = m.1 a i := by
  rw [me_1I]
  by_cases g : a = o
  · rw [if_pos g, if_neg (h.resolve_left (fun z => z g))]
  · rw [if_neg g]
/-- a byte as the machine's int -/
def sx (u : Nat) : Int32 := if u < 128 then nI u else nI (u + 4294967040)
theorem sx_chk : (List.range 256).all (fun u => decide ((Int8.ofNat u).toInt32 = sx u ∧ (Int8.ofNat u).toInt32 &&& 255 = nI u)) = true := by decide +kernel
theorem sx_ex {x : Int32} (h : (x.toInt8).toInt32 = x) : ∃ u, u < 256 ∧ x = sx u ∧ x &&& 255 = nI u := by
  have e : x.toInt8 = Int8.ofNat x.toInt8.toBitVec.toNat := Int8.toBitVec_inj.1 (by show x.toInt8.toBitVec = BitVec.ofNat 8 x.toInt8.toBitVec.toNat; rw [BitVec.ofNat_toNat, BitVec.setWidth_eq])
  have hu : x.toInt8.toBitVec.toNat < 256 := x.toInt8.toBitVec.isLt
  have c := of_decide_eq_true (List.all_eq_true.mp sx_chk _ (List.mem_range.mpr hu))
  rw [← e, h] at c
  exact ⟨_, hu, c.1, c.2⟩
def cB (u : Nat) : Bool := decide (u = 32 ∨ u = 59)
def cD (u : Nat) : Bool := decide (48 ≤ u ∧ u ≤ 57)
def cL (u : Nat) : Bool := decide (97 ≤ u ∧ u ≤ 122)
theorem sx_eq_chk : (List.range 256).all (fun u => (List.range 128).all (fun c => decide ((sx u = nI c) ↔ u = c))) = true := by decide +kernel
theorem sx_eq {u c : Nat} (hu : u < 256) (hc : c < 128) : (sx u = nI c) ↔ u = c := of_decide_eq_true (List.all_eq_true.mp (List.all_eq_true.mp sx_eq_chk u (List.mem_range.mpr hu)) c (List.mem_range.mpr hc))
theorem sx_in_chk : (List.range 256).all (fun u => decide ((sx u < 48 → cD u = false) ∧ (57 < sx u → cD u = false) ∧ (¬ sx u < 48 → ¬ 57 < sx u → cD u = true)) && decide ((sx u < 97 → cL u = false) ∧ (122 < sx u → cL u = false) ∧ (¬ sx u < 97 → ¬ 122 < sx u → cL u = true)) && decide (cD u = true → sx u = nI u ∧ 48 ≤ u)) = true := by decide +kernel
theorem sx_in {u : Nat} (hu : u < 256) : ((sx u < 48 → cD u = false) ∧ (57 < sx u → cD u = false) ∧ (¬ sx u < 48 → ¬ 57 < sx u → cD u = true)) ∧ ((sx u < 97 → cL u = false) ∧ (122 < sx u → cL u = false) ∧ (¬ sx u < 97 → ¬ 122 < sx u → cL u = true)) ∧ (cD u = true → sx u = nI u ∧ 48 ≤ u) := by
  have c := List.all_eq_true.mp sx_in_chk u (List.mem_range.mpr hu)
  rw [Bool.and_eq_true, Bool.and_eq_true] at c
  exact ⟨of_decide_eq_true c.1.1, of_decide_eq_true c.1.2, of_decide_eq_true c.2⟩
/-- where it ends to hold -/
def tr (f : Nat → Bool) : Nat → Nat → Nat
  | 0, p => p
  | d + 1, p => if f p = true then tr f d (p + 1) else p
def te (f : Nat → Bool) (n p : Nat) : Nat := tr f (n - p) p
theorem tr_s (f : Nat → Bool) (d p : Nat) : tr f (d + 1) p = if f p = true then tr f d (p + 1) else p := rfl
theorem te_n {f : Nat → Bool} {n p : Nat} (h : n ≤ p) : te f n p = p := by
  unfold te
  rw [show n - p = 0 by omega]
  rfl
theorem te_t {f : Nat → Bool} {n p : Nat} (h : p < n) (g : f p = true) : te f n p = te f n (p + 1) := by
  unfold te
  rw [show n - p = (n - (p + 1)) + 1 by omega, tr_s, if_pos g]
theorem te_f {f : Nat → Bool} {n p : Nat} (g : ¬ f p = true) : te f n p = p := by
  by_cases h : p < n
  · unfold te
    rw [show n - p = (n - (p + 1)) + 1 by omega, tr_s, if_neg g]
  · exact te_n (by omega)
theorem te_ind {f : Nat → Bool} {n : Nat} (C : Nat → Nat → Prop) (h0 : ∀ p, n ≤ p → C p p) (h1 : ∀ p, p < n → ¬ f p = true → C p p) (h2 : ∀ p q, p < n → f p = true → q = te f n (p + 1) → C (p + 1) q → C p q) : ∀ p, C p (te f n p) := by
  have key : ∀ d p, n - p = d → C p (te f n p) := by
    intro d
    induction d with
    | zero => intro p h; rw [te_n (by omega)]; exact h0 p (by omega)
    | succ d ih =>
      intro p h
      by_cases g : f p = true
      · rw [te_t (by omega) g]
        exact h2 p _ (by omega) g rfl (ih (p + 1) (by omega))
      · rw [te_f g]; exact h1 p (by omega) g
  exact fun p => key _ p rfl
theorem te_ge (f : Nat → Bool) (n p : Nat) : p ≤ te f n p := te_ind (f := f) (n := n) (fun p q => p ≤ q) (fun p _ => Nat.le_refl p) (fun p _ _ => Nat.le_refl p) (fun p q _ _ _ h => by omega) p
theorem te_le (f : Nat → Bool) {n p : Nat} (h : p ≤ n) : te f n p ≤ n := te_ind (f := f) (n := n) (fun p q => p ≤ n → q ≤ n) (fun p _ h => h) (fun p _ _ h => h) (fun p q a _ _ h _ => h (by omega)) p h
theorem te_stop (f : Nat → Bool) (n p : Nat) : te f n p < n → ¬ f (te f n p) = true := te_ind (f := f) (n := n) (fun p q => q < n → ¬ f q = true) (fun p a b => by omega) (fun p _ g _ => g) (fun p q _ _ _ h => h) p
theorem te_all (f : Nat → Bool) (n p : Nat) : ∀ k, p ≤ k → k < te f n p → f k = true := te_ind (f := f) (n := n) (fun p q => ∀ k, p ≤ k → k < q → f k = true) (fun p _ k a b => by omega) (fun p _ _ k a b => by omega) (fun p q _ g _ h k a b => by
  by_cases e : k = p
  · rw [e]; exact g
  · exact h k (by omega) b) p
/-- the digits' value -/
def tv (T : Nat → Nat) : Nat → Nat → Nat → Nat
  | 0, _, v => v
  | d + 1, p, v => if cD (T p) = true then tv T d (p + 1) (if 999 < v then v else 10 * v + T p - 48) else v
theorem tv_s (T : Nat → Nat) (d p v : Nat) : tv T (d + 1) p v = if cD (T p) = true then tv T d (p + 1) (if 999 < v then v else 10 * v + T p - 48) else v := rfl
def nv (T : Nat → Nat) (n p v : Nat) : Nat := tv T (n - p) p v
theorem nv_n {T : Nat → Nat} {n p v : Nat} (h : n ≤ p) : nv T n p v = v := by
  unfold nv
  rw [show n - p = 0 by omega]
  rfl
theorem nv_t {T : Nat → Nat} {n p v : Nat} (h : p < n) (g : cD (T p) = true) : nv T n p v = nv T n (p + 1) (if 999 < v then v else 10 * v + T p - 48) := by
  unfold nv
  rw [show n - p = (n - (p + 1)) + 1 by omega, tv_s, if_pos g]
theorem nv_f {T : Nat → Nat} {n p v : Nat} (g : ¬ cD (T p) = true) : nv T n p v = v := by
  by_cases h : p < n
  · unfold nv
    rw [show n - p = (n - (p + 1)) + 1 by omega, tv_s, if_neg g]
  · exact nv_n (by omega)
/-- a number at p: a fault, or it and where it ends -/
def rN (n : Nat) (T : Nat → Nat) (lo hi p : Nat) : Nat ⊕ (Nat × Nat) :=
  let s := te (fun k => cB (T k)) n p
  let e := te (fun k => cD (T k)) n s
  if e = s then .inl (8 * s + 1) else if nv T n s 0 < lo ∨ hi < nv T n s 0 then .inl (8 * s + 2) else .inr (nv T n s 0, e)
/-! the class -/
def ct (n : Nat) (T : Nat → Nat) (m : qm_M) : Prop := n ≤ 120 ∧ m.1 43 2 = nI n ∧ ∀ k, k < n → T k < 256 ∧ m.1 44 k = sx (T k)
theorem ct.st {n : Nat} {T : Nat → Nat} {m : qm_M} (h : ct n T m) {j : Nat} (hj : j ≠ 2) (x : Int32) : ct n T (qm_sI m 43 j x) := by
  refine ⟨h.1, ?_, fun k hk => ?_⟩
  · rw [me_oth _ _ _ _ (Or.inr (Ne.symm hj))]; exact h.2.1
  · rw [me_oth _ _ _ _ (Or.inl (by omega))]; exact h.2.2 k hk
theorem nu_betD {t : Nat} (t1 : t < 256) (m : qm_M) : F_Ta_isBetween (sx t) 48 57 m = some (some (.int (if cD t = true then 1 else 0)), m) := by
  obtain ⟨⟨s1, s2, s3⟩, -, -⟩ := sx_in t1
  unfold F_Ta_isBetween X_Ta_isBetween_e
  by_cases c1 : sx t < 48
  · rw [if_pos c1, s1 c1, if_neg (by simp)]
  · rw [if_neg c1]
    by_cases c2 : 57 < sx t
    · rw [if_pos c2, s2 c2, if_neg (by simp)]
    · rw [if_neg c2, s3 c1 c2, if_pos rfl]
theorem nu_betL {t : Nat} (t1 : t < 256) (m : qm_M) : F_Ta_isBetween (sx t) 97 122 m = some (some (.int (if cL t = true then 1 else 0)), m) := by
  obtain ⟨-, ⟨s1, s2, s3⟩, -⟩ := sx_in t1
  unfold F_Ta_isBetween X_Ta_isBetween_e
  by_cases c1 : sx t < 97
  · rw [if_pos c1, s1 c1, if_neg (by simp)]
  · rw [if_neg c1]
    by_cases c2 : 122 < sx t
    · rw [if_pos c2, s2 c2, if_neg (by simp)]
    · rw [if_neg c2, s3 c1 c2, if_pos rfl]
theorem nu_skipBlanks {n p : Nat} {T : Nat → Nat} {m : qm_M} (h : ct n T m) (hp : m.1 43 3 = nI p) (hpn : p ≤ n) : F_Ta_skipBlanks m = some (none, qm_sI m 43 3 (nI (te (fun k => cB (T k)) n p))) := by
  have hn := h.1
  refine lpE (fun f k (m : qm_M) => L_Ta_skipBlanks_0 f m) n (fun k m1 => k ≤ n ∧ m1 = qm_sI m 43 3 (nI k) ∧ te (fun k => cB (T k)) n k = te (fun k => cB (T k)) n p) (fun r => r = some (none, qm_sI m 43 3 (nI (te (fun k => cB (T k)) n p)))) (fun f k m1 hk hI => ?_) (fun f m1 hI => ?_) 1000000 p m hpn (by omega) ⟨hpn, (me_sIs hp).symm, rfl⟩
  · obtain ⟨k1, k2, k3⟩ := hI
    subst k2
    obtain ⟨h1, h2, h3⟩ := h.st (j := 3) (by omega) (nI k)
    obtain ⟨t1, t2⟩ := h3 k hk
    have e32 : (sx (T k) = 32) ↔ T k = 32 := sx_eq t1 (c := 32) (by omega)
    have e59 : (sx (T k) = 59) ↔ T k = 59 := sx_eq t1 (c := 59) (by omega)
    rw [le_Ta_skipBlanks_0]
    unfold X_Ta_skipBlanks_0
    rw [h2, me_self]
    simp (disch := omega) only [qe_rI_e, qe_rL_e, qe_rV_e, qe_rR_e, qe_b_e, n10F, nI_lt0, nI_e0T, nI_e0F, nI_ltT, nI_ltF, nI_eqT, nI_eqF, qm_in_nI, nI_clamp, nI_1, nI_add, pk_mul, if_true, if_false, eq_self, t2, me_sII]
    by_cases c1 : T k = 32
    · rw [if_pos (e32.mpr c1)]
      exact Or.inl ⟨_, ⟨hk, rfl, by rw [← k3, te_t hk (decide_eq_true (Or.inl c1))]⟩, rfl⟩
    · rw [if_neg (fun z => c1 (e32.mp z))]
      by_cases c2 : T k = 59
      · rw [if_pos (e59.mpr c2)]
        exact Or.inl ⟨_, ⟨hk, rfl, by rw [← k3, te_t hk (decide_eq_true (Or.inr c2))]⟩, rfl⟩
      · rw [if_neg (fun z => c2 (e59.mp z))]
        refine Or.inr ?_
        rw [← k3, te_f (by show ¬ cB (T k) = true; unfold cB; simp [c1, c2])]
  · obtain ⟨k1, k2, k3⟩ := hI
    subst k2
    obtain ⟨h1, h2, h3⟩ := h.st (j := 3) (by omega) (nI n)
    rw [le_Ta_skipBlanks_0]
    unfold X_Ta_skipBlanks_0
    rw [h2, me_self]
    simp (disch := omega) only [qe_rI_e, qe_rL_e, qe_rV_e, qe_rR_e, qe_b_e, n10F, nI_lt0, nI_e0T, nI_e0F, nI_ltT, nI_ltF, nI_eqT, nI_eqF, qm_in_nI, nI_clamp, nI_1, nI_add, pk_mul, if_true, if_false, eq_self]
    rw [← k3, te_n (Nat.le_refl _)]
theorem nu_readWord {n p : Nat} {T : Nat → Nat} {m : qm_M} (h : ct n T m) (hp : m.1 43 3 = nI p) (hpn : p ≤ n) : F_Ta_readWord m = some (none, qm_sI m 43 3 (nI (te (fun k => cL (T k)) n p))) := by
  have hn := h.1
  refine lpE (fun f k (m : qm_M) => L_Ta_readWord_0 f m) n (fun k m1 => k ≤ n ∧ m1 = qm_sI m 43 3 (nI k) ∧ te (fun k => cL (T k)) n k = te (fun k => cL (T k)) n p) (fun r => r = some (none, qm_sI m 43 3 (nI (te (fun k => cL (T k)) n p)))) (fun f k m1 hk hI => ?_) (fun f m1 hI => ?_) 1000000 p m hpn (by omega) ⟨hpn, (me_sIs hp).symm, rfl⟩
  · obtain ⟨k1, k2, k3⟩ := hI
    subst k2
    obtain ⟨h1, h2, h3⟩ := h.st (j := 3) (by omega) (nI k)
    obtain ⟨t1, t2⟩ := h3 k hk
    rw [le_Ta_readWord_0]
    unfold X_Ta_readWord_0
    rw [h2, me_self, if_pos (nI_lt hk (by omega)), qm_in_nI (by omega) (by omega), qe_b_e, nI_clamp (by omega), t2, nu_betL t1, qe_rI_e]
    by_cases c : cL (T k) = true
    · rw [tp_T c, me_self, nI_1]
      dsimp only
      rw [me_sII]
      exact Or.inl ⟨_, ⟨hk, rfl, by rw [← k3, te_t hk c]⟩, rfl⟩
    · rw [tp_F c]
      exact Or.inr (by rw [← k3, te_f (f := fun k => cL (T k)) (p := k) c])
  · obtain ⟨k1, k2, k3⟩ := hI
    subst k2
    obtain ⟨h1, h2, h3⟩ := h.st (j := 3) (by omega) (nI n)
    rw [le_Ta_readWord_0]
    unfold X_Ta_readWord_0
    rw [h2, me_self, if_neg (nI_nlt (Nat.le_refl n) (by omega)), ← k3, te_n (Nat.le_refl _)]
theorem nu_blame0 {m : qm_M} (h : m.1 43 4 = 0) (s w : Nat) : F_Ta_blame (nI s) (nI w) m = some (none, qm_sI m 43 4 (nI (8 * s + w))) := by
  unfold F_Ta_blame X_Ta_blame_e
  rw [if_pos h, nI_8]
theorem tb_1 {m : qm_M} (h4 : m.1 43 4 = 0) (s : Nat) (x : Int32) : F_Ta_blame (nI s) 1 (qm_sI m 43 3 x) = some (none, qm_sI (qm_sI m 43 3 x) 43 4 (nI (8 * s + 1))) :=
  nu_blame0 (m := qm_sI m 43 3 x) (by rw [me_oth _ _ _ _ (Or.inr (by decide))]; exact h4) s 1
theorem tb_2 {m : qm_M} (h4 : m.1 43 4 = 0) (s : Nat) (x : Int32) : F_Ta_blame (nI s) 2 (qm_sI m 43 3 x) = some (none, qm_sI (qm_sI m 43 3 x) 43 4 (nI (8 * s + 2))) :=
  nu_blame0 (m := qm_sI m 43 3 x) (by rw [me_oth _ _ _ _ (Or.inr (by decide))]; exact h4) s 2
theorem nu_num90 {n s : Nat} {m : qm_M} (h4 : m.1 43 4 = 0) {lo hi : Nat} (hlo : lo ≤ 1) (hhi : hi < 1000) (hn : n ≤ 120) (hs : s ≤ n) {k v : Nat} (hk : k ≤ n) (hv : v ≤ 9999) :
    L_Ta_readNumber_90 (nI lo) (nI hi) (nI s) (nI (min 1000 v)) (qm_sI m 43 3 (nI k)) = (if k = s then some (some (.int (nI (min 1000 v))), qm_sI (qm_sI m 43 3 (nI s)) 43 4 (nI (8 * s + 1))) else if v < lo ∨ hi < v then some (some (.int (nI (min 1000 v))), qm_sI (qm_sI m 43 3 (nI k)) 43 4 (nI (8 * s + 2))) else some (some (.int (nI v)), qm_sI m 43 3 (nI k))) := by
  unfold L_Ta_readNumber_90 X_Ta_readNumber_90
  rw [me_self]
  by_cases c : k = s
  · subst c
    rw [if_pos rfl, if_pos rfl, tb_1 h4, qe_rV_e]
  · rw [if_neg (fun z => c ((nI_eq (by omega) (by omega)).mp z)), if_neg c]
    have bl : L_Ta_readNumber_119 (nI s) (nI (min 1000 v)) (qm_sI m 43 3 (nI k)) = some (some (.int (nI (min 1000 v))), qm_sI (qm_sI m 43 3 (nI k)) 43 4 (nI (8 * s + 2))) := by
      unfold L_Ta_readNumber_119 X_Ta_readNumber_119
      rw [tb_2 h4, qe_rV_e]
    by_cases c1 : v < lo
    · rw [if_pos (nI_lt (a := min 1000 v) (b := lo) (by omega) (by omega)), if_pos (Or.inl c1), bl]
    · rw [if_neg (nI_nlt (a := min 1000 v) (b := lo) (by omega) (by omega))]
      by_cases c2 : hi < v
      · rw [if_pos (nI_lt (a := hi) (b := min 1000 v) (by omega) (by omega)), if_pos (Or.inr c2), bl]
      · rw [if_neg (nI_nlt (a := hi) (b := min 1000 v) (by omega) (by omega)), if_neg (by omega), show min 1000 v = v by omega]
theorem nu_num21 {n s : Nat} {T : Nat → Nat} {m : qm_M} (h : ct n T m) (h4 : m.1 43 4 = 0) {lo hi : Nat} (hlo : lo ≤ 1) (hhi : hi < 1000) (hs : s ≤ n) (f k v : Nat) (hk : k ≤ n) (hf : n < f + k) (hsk : s ≤ k) (hv : v ≤ 9999) :
    L_Ta_readNumber_21 f (nI lo) (nI hi) (nI s) (nI (min 1000 v)) (qm_sI m 43 3 (nI k)) = (if te (fun k => cD (T k)) n k = s then some (some (.int (nI (min 1000 v))), qm_sI (qm_sI m 43 3 (nI s)) 43 4 (nI (8 * s + 1))) else if nv T n k v < lo ∨ hi < nv T n k v then some (some (.int (nI (min 1000 (nv T n k v)))), qm_sI (qm_sI m 43 3 (nI (te (fun k => cD (T k)) n k))) 43 4 (nI (8 * s + 2))) else some (some (.int (nI (nv T n k v))), qm_sI m 43 3 (nI (te (fun k => cD (T k)) n k)))) := by
  have hn := h.1
  have key : ∀ d f k v, n - k = d → k ≤ n → d < f → s ≤ k → v ≤ 9999 → L_Ta_readNumber_21 f (nI lo) (nI hi) (nI s) (nI (min 1000 v)) (qm_sI m 43 3 (nI k)) = (if te (fun k => cD (T k)) n k = s then some (some (.int (nI (min 1000 v))), qm_sI (qm_sI m 43 3 (nI s)) 43 4 (nI (8 * s + 1))) else if nv T n k v < lo ∨ hi < nv T n k v then some (some (.int (nI (min 1000 (nv T n k v)))), qm_sI (qm_sI m 43 3 (nI (te (fun k => cD (T k)) n k))) 43 4 (nI (8 * s + 2))) else some (some (.int (nI (nv T n k v))), qm_sI m 43 3 (nI (te (fun k => cD (T k)) n k)))) := by
    intro d
    induction d with
    | zero =>
      intro f k v h1 h2 h3 h5 h6
      obtain ⟨f, rfl⟩ : ∃ g, f = g + 1 := ⟨f - 1, by omega⟩
      have e : k = n := by omega
      subst e
      rw [le_Ta_readNumber_21]
      unfold X_Ta_readNumber_21
      rw [(h.st (j := 3) (by omega) (nI k)).2.1, me_self, if_neg (nI_nlt (Nat.le_refl k) (by omega)), te_n (Nat.le_refl _), nv_n (Nat.le_refl _)]
      exact nu_num90 h4 hlo hhi hn hs (Nat.le_refl _) h6
    | succ d ih =>
      intro f k v h1 h2 h3 h5 h6
      obtain ⟨f, rfl⟩ : ∃ g, f = g + 1 := ⟨f - 1, by omega⟩
      have hk : k < n := by omega
      rw [le_Ta_readNumber_21]
      unfold X_Ta_readNumber_21
      obtain ⟨g1, g2, g3⟩ := h.st (j := 3) (by omega) (nI k)
      rw [g2, me_self, if_pos (nI_lt hk (by omega)), qm_in_nI (by omega) (by omega), qe_b_e, nI_clamp (by omega), (g3 k hk).2, nu_betD (g3 k hk).1, qe_rI_e]
      by_cases c : cD (T k) = true
      · rw [tp_T c, te_t hk c, nv_t hk c, me_self, qm_in_nI (by omega) (by omega), qe_b_e]
        obtain ⟨t1, t2⟩ := h.2.2 k hk
        obtain ⟨-, -, s3⟩ := sx_in t1
        obtain ⟨u1, u2⟩ := s3 c
        have u3 : T k ≤ 57 := (of_decide_eq_true c).2
        have hx : qo_min 1000 ((((10 : Int32) * nI (min 1000 v)) + ((qm_sI m 43 3 (nI k)).1 44 (nI k).toNatClampNeg)) - 48) = nI (min 1000 (if 999 < v then v else 10 * v + T k - 48)) := by
          rw [me_oth _ _ _ _ (Or.inl (by decide)), nI_clamp (by omega), t2, u1]
          have e1 : (((10 : Int32) * nI (min 1000 v)) + nI (T k)) - 48 = nI (10 * min 1000 v + T k - 48) := by
            have a1 : (10 : Int32) * nI (min 1000 v) = nI (10 * min 1000 v) := pk_mul 10 _
            have a2 : nI (10 * min 1000 v + T k) - 48 = nI (10 * min 1000 v + T k - 48) := pk_sub (b := 48) (by omega)
            rw [a1, nI_add, a2]
          rw [e1]
          show (if nI (10 * min 1000 v + T k - 48) < nI 1000 then nI (10 * min 1000 v + T k - 48) else nI 1000) = _
          by_cases y : 10 * min 1000 v + T k - 48 < 1000
          · rw [if_pos (nI_lt (a := 10 * min 1000 v + T k - 48) (b := 1000) y (by omega))]
            congr 1
            by_cases z : 999 < v
            · rw [if_pos z]; omega
            · rw [if_neg z]; omega
          · rw [if_neg (nI_nlt (a := 10 * min 1000 v + T k - 48) (b := 1000) (by omega) (by omega))]
            show nI 1000 = _
            congr 1
            by_cases z : 999 < v
            · rw [if_pos z]; omega
            · rw [if_neg z]; omega
        rw [hx, nI_1]
        dsimp only
        rw [me_sII]
        have hb : (if 999 < v then v else 10 * v + T k - 48) ≤ 9999 := by
          by_cases z : 999 < v
          · rw [if_pos z]; exact h6
          · rw [if_neg z]; omega
        rw [ih f (k + 1) _ (by omega) (by omega) (by omega) (by omega) hb]
        have hne : te (fun k => cD (T k)) n (k + 1) ≠ s := by
          have := te_ge (fun k => cD (T k)) n (k + 1)
          omega
        rw [if_neg hne, if_neg hne]
      · rw [tp_F c, te_f (f := fun k => cD (T k)) (p := k) c, nv_f c]
        exact nu_num90 h4 hlo hhi hn hs (by omega) h6
  exact key _ f k v rfl hk (by omega) hsk hv
/-- a number is read -/
theorem nu_readNumber {n p : Nat} {T : Nat → Nat} {m : qm_M} (h : ct n T m) (hp : m.1 43 3 = nI p) (hpn : p ≤ n) (h4 : m.1 43 4 = 0) {lo hi : Nat} (hlo : lo ≤ 1) (hhi : hi < 1000) :
    (∀ z, rN n T lo hi p = .inl z → ∃ r q, F_Ta_readNumber (nI lo) (nI hi) m = some (some (.int r), qm_sI (qm_sI m 43 3 (nI q)) 43 4 (nI z))) ∧ (∀ v q, rN n T lo hi p = .inr (v, q) → F_Ta_readNumber (nI lo) (nI hi) m = some (some (.int (nI v)), qm_sI m 43 3 (nI q))) := by
  have hn := h.1
  have hs := te_le (fun k => cB (T k)) hpn
  have e : F_Ta_readNumber (nI lo) (nI hi) m = L_Ta_readNumber_21 1000000 (nI lo) (nI hi) (nI (te (fun k => cB (T k)) n p)) (nI (min 1000 0)) (qm_sI m 43 3 (nI (te (fun k => cB (T k)) n p))) := by
    unfold F_Ta_readNumber X_Ta_readNumber_e
    rw [if_pos h4, nu_skipBlanks h hp hpn, qe_rV_e, me_self]
    rfl
  rw [nu_num21 h h4 hlo hhi hs 1000000 _ 0 hs (by omega) (Nat.le_refl _) (by omega)] at e
  rw [e]
  unfold rN
  dsimp only
  generalize te (fun k => cB (T k)) n p = s
  by_cases c : te (fun k => cD (T k)) n s = s
  · rw [if_pos c, if_pos c]
    refine ⟨fun z hz => ?_, fun v q hz => ?_⟩
    · cases hz; exact ⟨_, _, rfl⟩
    · cases hz
  · rw [if_neg c, if_neg c]
    by_cases c2 : nv T n s 0 < lo ∨ hi < nv T n s 0
    · rw [if_pos c2, if_pos c2]
      refine ⟨fun z hz => ?_, fun v q hz => ?_⟩
      · cases hz; exact ⟨_, _, rfl⟩
      · cases hz
    · rw [if_neg c2, if_neg c2]
      refine ⟨fun z hz => ?_, fun v q hz => ?_⟩
      · cases hz
      · cases hz; rfl
theorem nu_readNumber0 {m : qm_M} (h4 : ¬ m.1 43 4 = 0) (lo hi : Int32) : F_Ta_readNumber lo hi m = some (some (.int 0), m) := by
  unfold F_Ta_readNumber X_Ta_readNumber_e
  rw [if_neg h4]
