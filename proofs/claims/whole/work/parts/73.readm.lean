/-! the model reads a text -/
theorem le_M_next_0  (n : Nat) (m : qm_M) : L_M_next_0 (n + 1) m = X_M_next_0 F_M_byteAt (L_M_next_0 n) m := rfl
theorem le_M_readsNumber_38  (n : Nat) (v1 : Int32) (v2 : Int32) (v4 : Int32) (v5 : Int32) (m : qm_M) : L_M_readsNumber_38 (n + 1) v1 v2 v4 v5 m = X_M_readsNumber_38 F_M_next F_M_isIn F_M_fails F_M_byteAt (L_M_readsNumber_38 n) v1 v2 v4 v5 m := rfl
theorem le_M_takesWord_7  (n : Nat) (v1 : Nat) (v3 : Int32) (m : qm_M) : L_M_takesWord_7 (n + 1) v1 v3 m = X_M_takesWord_7 F_M_next F_JS_length F_M_byteAt F_JS_charAt F_M_isIn (L_M_takesWord_7 n) (L_M_takesWord_39) v1 v3 m := rfl
theorem le_M_readsText_28  (n : Nat) (m : qm_M) : L_M_readsText_28 (n + 1) m = X_M_readsText_28 F_M_readsSide F_M_takesWord F_M_next F_M_fails F_M_readsNumber (L_M_readsText_28 n) m := rfl
theorem te_eq (f : Nat → Bool) (n : Nat) : ∀ w s, (∀ i, i < w → s + i < n ∧ f (s + i) = true) → ¬ (s + w < n ∧ f (s + w) = true) → te f n s = s + w := by
  intro w
  induction w with
  | zero =>
    intro s _ h
    rw [Nat.add_zero] at h ⊢
    by_cases q : s < n
    · exact te_f (fun z => h ⟨q, z⟩)
    · exact te_n (by omega)
  | succ w ih =>
    intro s h1 h2
    have h0 := h1 0 (by omega)
    rw [Nat.add_zero] at h0
    rw [te_t h0.1 h0.2, ih (s + 1) (fun i hi => by have := h1 (i + 1) (by omega); rwa [show s + (i + 1) = s + 1 + i by omega] at this) (by rwa [show s + (w + 1) = s + 1 + w by omega] at h2)]
    omega
theorem te_idem (f : Nat → Bool) (n p : Nat) : te f n (te f n p) = te f n p := by
  by_cases h : te f n p < n
  · exact te_f (te_stop f n p h)
  · exact te_n (by omega)
/-- what the model sees at a place -/
def bv (n : Nat) (T : Nat → Nat) (k : Nat) : Int32 := if k < n then nI (T k) else -1
def mtt (n : Nat) (T : Nat → Nat) (m : qm_M) : Prop := n ≤ 120 ∧ m.1 112 24 = nI n ∧ ∀ k, k < n → T k < 256 ∧ m.1 129 k &&& 255 = nI (T k)
def mq (m m1 : qm_M) : Prop := (∀ a, a ≠ 112 → a ≠ 130 → a ≠ 131 → a ≠ 132 → m1.1 a = m.1 a) ∧ (∀ i, i < 25 → m1.1 112 i = m.1 112 i) ∧ ∀ a, a ≠ 112 → m1.2 a = m.2 a
theorem mq.rf (m : qm_M) : mq m m := ⟨fun _ _ _ _ _ => rfl, fun _ _ => rfl, fun _ _ => rfl⟩
theorem mq.tr {m m1 m2 : qm_M} (h : mq m m1) (g : mq m1 m2) : mq m m2 := ⟨fun a x y z w => (g.1 a x y z w).trans (h.1 a x y z w), fun i x => (g.2.1 i x).trans (h.2.1 i x), fun a x => (g.2.2 a x).trans (h.2.2 a x)⟩
theorem mq.I (m : qm_M) {j : Nat} (hj : 25 ≤ j) (x : Int32) : mq m (qm_sI m 112 j x) := ⟨fun a h1 _ _ _ => (qm_sI_other a h1).1, fun i hi => me_oth _ _ _ _ (Or.inr (by omega)), fun _ _ => rfl⟩
theorem mq.D (m : qm_M) {o : Nat} (ho : o = 130 ∨ o = 131 ∨ o = 132) (j : Nat) (x : Int32) : mq m (qm_sI m o j x) := ⟨fun a _ h2 h3 h4 => (qm_sI_other a (by omega)).1, fun i hi => me_oth _ _ _ _ (Or.inl (by omega)), fun _ _ => rfl⟩
theorem mq.E (m : qm_M) (j : Nat) (x : Int64) : mq m (qm_sL m 112 j x) := ⟨fun _ _ _ _ _ => rfl, fun _ _ => rfl, fun a h => (qm_sL_other a h).2⟩
theorem mq.mtt {n : Nat} {T : Nat → Nat} {m m1 : qm_M} (g : mq m m1) (h : mtt n T m) : mtt n T m1 := ⟨h.1, (g.2.1 24 (by omega)).trans h.2.1, fun k hk => ⟨(h.2.2 k hk).1, by rw [g.1 129 (by omega) (by omega) (by omega) (by omega)]; exact (h.2.2 k hk).2⟩⟩
theorem mt_byteAt {n : Nat} {T : Nat → Nat} {m : qm_M} (h : mtt n T m) {k : Nat} (hk : k < 2 ^ 31) : F_M_byteAt (nI k) m = some (some (.int (bv n T k)), m) := by
  obtain ⟨h1, h2, h3⟩ := h
  unfold F_M_byteAt X_M_byteAt_e bv
  rw [h2]
  by_cases q : k < n
  · rw [if_pos (nI_lt q (by omega)), qm_in_nI (by omega) (by omega), qe_b_e, nI_clamp hk, (h3 k q).2, if_pos q]
  · rw [if_neg (nI_nlt (by omega) hk), if_neg q]
theorem bv_eq {n : Nat} {T : Nat → Nat} {m : qm_M} (h : mtt n T m) {c : Nat} (hc : c < 256) (k : Nat) : (bv n T k = nI c) ↔ k < n ∧ T k = c := by
  unfold bv
  by_cases q : k < n
  · have t := (h.2.2 k q).1
    rw [if_pos q, nI_eq (by omega) (by omega)]
    exact ⟨fun z => ⟨q, z⟩, fun z => z.2⟩
  · rw [if_neg q]
    refine ⟨fun z => ?_, fun z => absurd z.1 q⟩
    have e : (-1 : Int32) < nI c := by
      rw [Int32.lt_iff_toInt_lt, nI_toInt (by omega)]
      show (-1 : Int) < _
      omega
    rw [z] at e
    exact absurd e Int32.lt_irrefl
theorem mt_inBv {n : Nat} {T : Nat → Nat} {m : qm_M} (h : mtt n T m) {lo hi : Nat} (h1 : lo ≤ hi) (h2 : hi < 256) (k : Nat) (mx : qm_M) : F_M_isIn (bv n T k).toInt64 (nI lo).toInt64 (nI hi).toInt64 mx = some (some (.int (if k < n ∧ (lo ≤ T k ∧ T k ≤ hi) then 1 else 0)), mx) := by
  rw [mt_isInI]
  unfold bv
  by_cases q : k < n
  · have t := (h.2.2 k q).1
    rw [if_pos q]
    by_cases c1 : T k < lo
    · rw [if_pos (nI_lt c1 (by omega)), if_neg (by omega)]
    · rw [if_neg (nI_nlt (by omega) (by omega))]
      by_cases c2 : hi < T k
      · rw [if_pos (nI_lt c2 (by omega)), if_neg (by omega)]
      · rw [if_neg (nI_nlt (by omega) (by omega)), if_pos ⟨q, by omega, by omega⟩]
  · have e : (-1 : Int32) < nI lo := by
      rw [Int32.lt_iff_toInt_lt, nI_toInt (by omega)]
      show (-1 : Int) < _
      omega
    rw [if_neg q, if_pos e, if_neg (fun z => q z.1)]
theorem mt_inD {n : Nat} {T : Nat → Nat} {m : qm_M} (h : mtt n T m) (k : Nat) (mx : qm_M) : F_M_isIn (bv n T k).toInt64 48 57 mx = some (some (.int (if k < n ∧ cD (T k) = true then 1 else 0)), mx) := by
  have e := mt_inBv h (lo := 48) (hi := 57) (by omega) (by omega) k mx
  rw [nI_l (by omega), nI_l (by omega)] at e
  refine Eq.trans e ?_
  unfold cD
  simp only [decide_eq_true_eq]
theorem mt_inL {n : Nat} {T : Nat → Nat} {m : qm_M} (h : mtt n T m) (k : Nat) (mx : qm_M) : F_M_isIn (bv n T k).toInt64 97 122 mx = some (some (.int (if k < n ∧ cL (T k) = true then 1 else 0)), mx) := by
  have e := mt_inBv h (lo := 97) (hi := 122) (by omega) (by omega) k mx
  rw [nI_l (by omega), nI_l (by omega)] at e
  refine Eq.trans e ?_
  unfold cL
  simp only [decide_eq_true_eq]
theorem mt_next {n p : Nat} {T : Nat → Nat} {m : qm_M} (h : mtt n T m) (hp : m.1 112 25 = nI p) (hpn : p ≤ n) : F_M_next m = some (some (.int (bv n T (te (fun k => cB (T k)) n p))), qm_sI m 112 25 (nI (te (fun k => cB (T k)) n p))) := by
  have hn := h.1
  refine lpE (fun f k (m : qm_M) => L_M_next_0 f m) n (fun k m1 => k ≤ n ∧ m1 = qm_sI m 112 25 (nI k) ∧ te (fun k => cB (T k)) n k = te (fun k => cB (T k)) n p) (fun r => r = some (some (.int (bv n T (te (fun k => cB (T k)) n p))), qm_sI m 112 25 (nI (te (fun k => cB (T k)) n p)))) (fun f k m1 hk hI => ?_) (fun f m1 hI => ?_) 1000000 p m hpn (by omega) ⟨hpn, (me_sIs hp).symm, rfl⟩
  · obtain ⟨k1, k2, k3⟩ := hI
    subst k2
    have h1 := (mq.I m (j := 25) (by omega) (nI k)).mtt h
    have e32 : (bv n T k = 32) ↔ k < n ∧ T k = 32 := bv_eq h (c := 32) (by omega) k
    have e59 : (bv n T k = 59) ↔ k < n ∧ T k = 59 := bv_eq h (c := 59) (by omega) k
    rw [le_M_next_0]
    unfold X_M_next_0
    rw [me_self, mt_byteAt h1 (by omega), qe_rI_e]
    by_cases c1 : T k = 32
    · rw [if_pos (e32.mpr ⟨hk, c1⟩), me_self, nI_1]
      dsimp only
      rw [me_sII]
      exact Or.inl ⟨_, ⟨hk, rfl, by rw [← k3, te_t hk (decide_eq_true (Or.inl c1))]⟩, rfl⟩
    · rw [if_neg (fun z => c1 (e32.mp z).2), me_self, mt_byteAt h1 (by omega), qe_rI_e]
      by_cases c2 : T k = 59
      · rw [if_pos (e59.mpr ⟨hk, c2⟩), me_self, nI_1]
        dsimp only
        rw [me_sII]
        exact Or.inl ⟨_, ⟨hk, rfl, by rw [← k3, te_t hk (decide_eq_true (Or.inr c2))]⟩, rfl⟩
      · rw [if_neg (fun z => c2 (e59.mp z).2), me_self, mt_byteAt h1 (by omega), qe_rI_e]
        refine Or.inr ?_
        rw [← k3, te_f (by show ¬ cB (T k) = true; unfold cB; simp [c1, c2])]
  · obtain ⟨k1, k2, k3⟩ := hI
    subst k2
    have h1 := (mq.I m (j := 25) (by omega) (nI n)).mtt h
    have e32 : (bv n T n = 32) ↔ n < n ∧ T n = 32 := bv_eq h (c := 32) (by omega) n
    have e59 : (bv n T n = 59) ↔ n < n ∧ T n = 59 := bv_eq h (c := 59) (by omega) n
    rw [le_M_next_0]
    unfold X_M_next_0
    rw [me_self, mt_byteAt h1 (by omega), qe_rI_e, if_neg (fun z => Nat.lt_irrefl _ (e32.mp z).1), me_self, mt_byteAt h1 (by omega), qe_rI_e, if_neg (fun z => Nat.lt_irrefl _ (e59.mp z).1), me_self, mt_byteAt h1 (by omega), qe_rI_e, ← k3, te_n (Nat.le_refl _)]
theorem mt_fails (s w : Nat) (m : qm_M) : F_M_fails (nI w) (nI s) m = some (some (.int 0), qm_sI m 112 26 (nI (8 * s + w))) := by
  unfold F_M_fails X_M_fails_e
  rw [nI_8]
theorem mt_num38 {n s : Nat} {T : Nat → Nat} {m : qm_M} (h : mtt n T m) {lo hi : Nat} (hlo : lo ≤ 1) (hhi : hi < 1000) (hs : s ≤ n) : ∀ d f k v, n - k = d → k ≤ n → d < f → v ≤ 9999 →
    (nv T n k v < lo ∨ hi < nv T n k v → ∃ m1, L_M_readsNumber_38 f (nI lo) (nI hi) (nI s) (nI v) (qm_sI m 112 25 (nI k)) = some (some (.int 0), m1) ∧ m1.1 112 26 = nI (8 * s + 2) ∧ mq m m1) ∧
    (¬ (nv T n k v < lo ∨ hi < nv T n k v) → L_M_readsNumber_38 f (nI lo) (nI hi) (nI s) (nI v) (qm_sI m 112 25 (nI k)) = some (some (.int 1), qm_sI (qm_sI m 112 25 (nI (te (fun k => cD (T k)) n k))) 112 27 (nI (nv T n k v)))) := by
  have hn := h.1
  -- the end of the digits
  have fin : ∀ f k v, k ≤ n → v ≤ 9999 → ¬ (k < n ∧ cD (T k) = true) → 
    (v < lo ∨ hi < v → ∃ m1, L_M_readsNumber_38 (f + 1) (nI lo) (nI hi) (nI s) (nI v) (qm_sI m 112 25 (nI k)) = some (some (.int 0), m1) ∧ m1.1 112 26 = nI (8 * s + 2) ∧ mq m m1) ∧
    (¬ (v < lo ∨ hi < v) → L_M_readsNumber_38 (f + 1) (nI lo) (nI hi) (nI s) (nI v) (qm_sI m 112 25 (nI k)) = some (some (.int 1), qm_sI (qm_sI m 112 25 (nI k)) 112 27 (nI v))) := by
    intro f k v hk hv q
    have h1 := (mq.I m (j := 25) (by omega) (nI k)).mtt h
    rw [le_M_readsNumber_38]
    unfold X_M_readsNumber_38
    rw [me_self, mt_byteAt h1 (by omega), qe_rI_e, mt_inD h, qe_rI_e, if_neg q, if_pos rfl]
    dsimp only
    rw [mt_isInI]
    refine ⟨fun z => ?_, fun z => ?_⟩
    · have ez : (if nI v < nI lo then (0 : Int32) else if nI hi < nI v then 0 else 1) = 0 := by
        by_cases c1 : v < lo
        · rw [if_pos (nI_lt c1 (by omega))]
        · rw [if_neg (nI_nlt (by omega) (by omega)), if_pos (nI_lt (by omega) (by omega))]
      rw [ez, qe_rI_e, if_pos rfl, show (2 : Int32) = nI 2 from rfl, mt_fails, qe_rI_e, if_pos rfl]
      exact ⟨_, rfl, me_self _ _ _ _, ((mq.I m (by omega) _).tr (mq.I _ (by omega) _)).tr (mq.I _ (by omega) _)⟩
    · rw [if_neg (nI_nlt (by omega) (by omega)), if_neg (nI_nlt (by omega) (by omega)), qe_rI_e, if_neg n10]
  intro d
  induction d with
  | zero =>
    intro f k v h1 h2 h3 h6
    obtain ⟨f, rfl⟩ : ∃ g, f = g + 1 := ⟨f - 1, by omega⟩
    have e : k = n := by omega
    subst e
    rw [te_n (Nat.le_refl _), nv_n (Nat.le_refl _)]
    exact fin f k v h2 h6 (fun z => Nat.lt_irrefl _ z.1)
  | succ d ih =>
    intro f k v h1 h2 h3 h6
    obtain ⟨f, rfl⟩ : ∃ g, f = g + 1 := ⟨f - 1, by omega⟩
    have hk : k < n := by omega
    by_cases c : cD (T k) = true
    · rw [te_t hk c, nv_t hk c]
      have hb : (if 999 < v then v else 10 * v + T k - 48) ≤ 9999 := by
        have u3 : T k ≤ 57 := (of_decide_eq_true c).2
        by_cases z : 999 < v
        · rw [if_pos z]; exact h6
        · rw [if_neg z]; omega
      have i1 := ih f (k + 1) _ (by omega) (by omega) (by omega) hb
      have hz := (mq.I m (j := 25) (by omega) (nI k)).mtt h
      have st : L_M_readsNumber_38 (f + 1) (nI lo) (nI hi) (nI s) (nI v) (qm_sI m 112 25 (nI k)) = L_M_readsNumber_38 f (nI lo) (nI hi) (nI s) (nI (if 999 < v then v else 10 * v + T k - 48)) (qm_sI m 112 25 (nI (k + 1))) := by
        rw [le_M_readsNumber_38]
        unfold X_M_readsNumber_38
        rw [me_self, mt_byteAt hz (by omega), qe_rI_e, mt_inD h, qe_rI_e, tp_T ⟨hk, c⟩, me_self, nI_1]
        by_cases z : 999 < v
        · have e9 : (999 : Int32) < nI v := nI_lt (a := 999) (b := v) z (by omega)
          rw [if_pos e9, if_pos z]
          dsimp only
          rw [me_sII]
        · have e9 : ¬ (999 : Int32) < nI v := nI_nlt (a := 999) (b := v) (by omega) (by omega)
          rw [if_neg e9, if_neg z, mt_byteAt hz (by omega), qe_rI_e]
          dsimp only
          rw [me_sII]
          have u48 : 48 ≤ T k := (of_decide_eq_true c).1
          have a1 : (10 : Int32) * nI v = nI (10 * v) := pk_mul 10 _
          have a2 : nI (10 * v + T k) - 48 = nI (10 * v + T k - 48) := pk_sub (b := 48) (by omega)
          unfold bv
          rw [if_pos hk, a1, nI_add, a2, me_self, nI_1]
      rw [st]
      exact i1
    · rw [te_f (f := fun k => cD (T k)) (p := k) c, nv_f c]
      exact fin f k v h2 h6 (fun z => c z.2)
theorem mt_readsNumber {n p : Nat} {T : Nat → Nat} {m : qm_M} (h : mtt n T m) (hp : m.1 112 25 = nI p) (hpn : p ≤ n) {lo hi : Nat} (hlo : lo ≤ 1) (hhi : hi < 1000) :
    (∀ z, rN n T lo hi p = .inl z → ∃ m1, F_M_readsNumber (nI lo) (nI hi) m = some (some (.int 0), m1) ∧ m1.1 112 26 = nI z ∧ mq m m1) ∧ (∀ v q, rN n T lo hi p = .inr (v, q) → F_M_readsNumber (nI lo) (nI hi) m = some (some (.int 1), qm_sI (qm_sI m 112 25 (nI q)) 112 27 (nI v))) := by
  have hn := h.1
  have hs := te_le (fun k => cB (T k)) hpn
  have hx := mt_next h hp hpn
  unfold rN F_M_readsNumber X_M_readsNumber_e
  dsimp only
  rw [hx, qe_rI_e, mt_inD h, qe_rI_e, me_self]
  generalize te (fun k => cB (T k)) n p = s at *
  by_cases c : s < n ∧ cD (T s) = true
  · have hne : te (fun k => cD (T k)) n s ≠ s := by
      rw [te_t c.1 c.2]
      have := te_ge (fun k => cD (T k)) n (s + 1)
      omega
    rw [if_pos c, if_neg n10, if_neg hne]
    obtain ⟨k1, k2⟩ := mt_num38 h hlo hhi hs (n - s) 1000000 s 0 rfl hs (by omega) (by omega)
    by_cases c2 : nv T n s 0 < lo ∨ hi < nv T n s 0
    · rw [if_pos c2]
      obtain ⟨m1, r1, r2, r3⟩ := k1 c2
      exact ⟨fun z hz => ⟨m1, r1, by rw [r2, Sum.inl.inj hz], r3⟩, fun v q hz => (by cases hz)⟩
    · rw [if_neg c2]
      have r1 := k2 c2
      exact ⟨fun z hz => (by cases hz), fun v q hz => (by cases hz; exact r1)⟩
  · have heq : te (fun k => cD (T k)) n s = s := by
      by_cases q : s < n
      · exact te_f (fun z => c ⟨q, z⟩)
      · exact te_n (by omega)
    rw [if_neg c, if_pos rfl, if_pos heq, show (1 : Int32) = nI 1 from rfl, mt_fails, qe_rI_e]
    exact ⟨fun z hz => ⟨_, rfl, by rw [me_self, Sum.inl.inj hz], (mq.I m (by omega) _).tr (mq.I _ (by omega) _)⟩, fun v q hz => (by cases hz)⟩
/-- a word is taken -/
theorem mt_takesWord {n p w : Nat} {T : Nat → Nat} {m : qm_M} (h : mtt n T m) (hw : w < 5) (hp : m.1 112 25 = nI p) (hpn : p ≤ n) : F_M_takesWord (1000010 + w) m = some (some (.int (if wq T (te (fun k => cB (T k)) n p) (te (fun k => cL (T k)) n (te (fun k => cB (T k)) n p)) w = true then 1 else 0)), qm_sI m 112 25 (nI (if wq T (te (fun k => cB (T k)) n p) (te (fun k => cL (T k)) n (te (fun k => cB (T k)) n p)) w = true then te (fun k => cL (T k)) n (te (fun k => cB (T k)) n p) else te (fun k => cB (T k)) n p))) := by
  have hn := h.1
  have hl := wl_le w
  have hs := te_le (fun k => cB (T k)) hpn
  have hx := mt_next h hp hpn
  have hst := te_stop (fun k => cL (T k)) n (te (fun k => cB (T k)) n p)
  have hen := te_le (fun k => cL (T k)) hs
  have hall := te_eq (fun k => cL (T k)) n (wl w) (te (fun k => cB (T k)) n p)
  unfold F_M_takesWord X_M_takesWord_e
  rw [hx, qe_rI_e]
  generalize te (fun k => cB (T k)) n p = s at *
  generalize te (fun k => cL (T k)) n s = e at *
  have h1 := (mq.I m (j := 25) (by omega) (nI s)).mtt h
  have h75 : ∀ v, L_M_takesWord_75 v 0 (qm_sI m 112 25 (nI s)) = some (some (.int 0), qm_sI m 112 25 (nI s)) := fun v => by
    unfold L_M_takesWord_75 X_M_takesWord_75
    rw [if_pos rfl]
    rfl
  -- it isn't that word, by a letter
  have no : ∀ k, k < wl w → ¬ (s + k < n ∧ T (s + k) = wc w k) → wq T s e w = false := fun k hk q => by
    cases hq : wq T s e w with
    | false => rfl
    | true =>
      obtain ⟨q1, q2⟩ := of_decide_eq_true hq
      exact absurd ⟨by omega, q2 k hk⟩ q
  refine lpE (fun f k (m : qm_M) => L_M_takesWord_7 f (1000010 + w) (nI k) m) (wl w) (fun k m1 => m1 = qm_sI m 112 25 (nI s) ∧ ∀ i, i < k → s + i < n ∧ T (s + i) = wc w i) (fun r => r = some (some (.int (if wq T s e w = true then 1 else 0)), qm_sI m 112 25 (nI (if wq T s e w = true then e else s)))) (fun f k m1 hk hI => ?_) (fun f m1 hI => ?_) 1000000 0 _ (Nat.zero_le _) (by omega) ⟨rfl, fun i hi => absurd hi (Nat.not_lt_zero _)⟩
  · obtain ⟨rfl, hI⟩ := hI
    have ec := bv_eq h (c := wc w k) (by have := (wc_L hw hk).1; omega) (s + k)
    rw [le_M_takesWord_7]
    unfold X_M_takesWord_7
    rw [wn_ok w hw, qe_b_e, nu_len _ w hw, qe_rI_e, if_pos (nI_lt hk (by omega)), me_self, nI_add, mt_byteAt h1 (by omega), qe_rI_e, qe_b_e, nu_chr _ w hw k (by omega) hk, qe_rI_e, nI_1]
    by_cases c2 : s + k < n ∧ T (s + k) = wc w k
    · rw [if_pos (ec.mpr c2)]
      refine Or.inl ⟨_, ⟨rfl, fun i hi => ?_⟩, rfl⟩
      by_cases q : i = k
      · rw [q]; exact c2
      · exact hI i (by omega)
    · rw [if_neg (fun z => c2 (ec.mp z)), no k hk c2]
      refine Or.inr ?_
      unfold L_M_takesWord_39 X_M_takesWord_39
      rw [wn_ok w hw, qe_b_e, nu_len _ w hw, qe_rI_e, if_neg (fun z => by have := (nI_eq (by omega) (by omega)).mp z; omega), h75]
      rfl
  · obtain ⟨rfl, hI⟩ := hI
    rw [le_M_takesWord_7]
    unfold X_M_takesWord_7
    rw [wn_ok w hw, qe_b_e, nu_len _ w hw, qe_rI_e, if_neg (nI_nlt (Nat.le_refl _) (by omega))]
    unfold L_M_takesWord_39 X_M_takesWord_39
    rw [wn_ok w hw, qe_b_e, nu_len _ w hw, qe_rI_e, if_pos rfl, me_self, nI_add, mt_byteAt h1 (by omega), qe_rI_e, mt_inL h, qe_rI_e]
    by_cases c : s + wl w < n ∧ cL (T (s + wl w)) = true
    · have : ¬ wq T s e w = true := fun z => by
        obtain ⟨q1, q2⟩ := of_decide_eq_true z
        exact hst (by omega) (by rw [q1]; exact c.2)
      rw [if_pos c, if_neg n10, if_neg this, if_neg this, h75]
    · have he : e = s + wl w := hall (fun i hi => ⟨(hI i hi).1, by rw [(hI i hi).2]; exact (wc_L hw hi).2⟩) c
      have : wq T s e w = true := decide_eq_true ⟨he, fun i hi => (hI i hi).2⟩
      rw [if_neg c, if_pos rfl, if_pos this, if_pos this]
      unfold L_M_takesWord_75 X_M_takesWord_75
      rw [if_neg n10, me_self, nI_add]
      dsimp only
      rw [me_sII, he]
      rfl
theorem mt_kindHere {n p : Nat} {T : Nat → Nat} {m : qm_M} (h : mtt n T m) (hp : m.1 112 25 = nI p) (hpn : p ≤ n) :
    (∀ z, rK n T p = .inl z → F_M_kindHere m = some (some (.int (-1)), qm_sI m 112 25 (nI (te (fun k => cB (T k)) n p))) ∧ z = 8 * te (fun k => cB (T k)) n p + 1) ∧ (∀ v q, rK n T p = .inr (v, q) → F_M_kindHere m = some (some (.int (nI v)), qm_sI m 112 25 (nI q))) := by
  have hn := h.1
  have hs := te_le (fun k => cB (T k)) hpn
  have hid := te_idem (fun k => cB (T k)) n p
  have t0 := mt_takesWord h (w := 0) (by omega) hp hpn
  have hg := fun w (hw : w < 5) => mt_takesWord ((mq.I m (j := 25) (by omega) (nI (te (fun k => cB (T k)) n p))).mtt h) (w := w) hw (me_self _ _ _ _) hs
  unfold rK F_M_kindHere X_M_kindHere_e
  dsimp only
  rw [t0, qe_rI_e]
  simp only [hid] at hg
  generalize te (fun k => cB (T k)) n p = s at *
  generalize te (fun k => cL (T k)) n s = e at *
  simp only [me_sII] at hg
  have hg1 := hg 1 (by omega)
  have hg2 := hg 2 (by omega)
  have hg3 := hg 3 (by omega)
  by_cases c0 : wq T s e 0 = true
  · rw [if_pos c0, if_pos c0, if_pos c0, if_neg n10]
    exact ⟨fun z hz => (by cases hz), fun v q hz => (by cases hz; rfl)⟩
  · rw [if_neg c0, if_neg c0, if_neg c0, if_pos rfl, hg1, qe_rI_e]
    by_cases c1 : wq T s e 1 = true
    · rw [if_pos c1, if_pos c1, if_pos c1, if_neg n10]
      exact ⟨fun z hz => (by cases hz), fun v q hz => (by cases hz; rfl)⟩
    · rw [if_neg c1, if_neg c1, if_neg c1, if_pos rfl, hg2, qe_rI_e]
      by_cases c2 : wq T s e 2 = true
      · rw [if_pos c2, if_pos c2, if_pos c2, if_neg n10]
        exact ⟨fun z hz => (by cases hz), fun v q hz => (by cases hz; rfl)⟩
      · rw [if_neg c2, if_neg c2, if_neg c2, if_pos rfl, hg3, qe_rI_e]
        by_cases c3 : wq T s e 3 = true
        · rw [if_pos c3, if_pos c3, if_pos c3, if_neg n10]
          exact ⟨fun z hz => (by cases hz), fun v q hz => (by cases hz; rfl)⟩
        · rw [if_neg c3, if_neg c3, if_neg c3, if_pos rfl]
          exact ⟨fun z hz => ⟨rfl, (Sum.inl.inj hz).symm⟩, fun v q hz => (by cases hz)⟩
/-- a side is read -/
theorem mt_readsSide {n p j : Nat} {T : Nat → Nat} {m : qm_M} (h : mtt n T m) (hj : j < 2) (hp : m.1 112 25 = nI p) (hpn : p ≤ n) :
    (∀ z, rD n T p = .inl z → ∃ m1, F_M_readsSide (nI j) m = some (some (.int 0), m1) ∧ m1.1 112 26 = nI z ∧ mq m m1) ∧
    (∀ r k l q, rD n T p = .inr (r, k, l, q) → ∃ m1, F_M_readsSide (nI j) m = some (some (.int 1), m1) ∧ m1.1 112 25 = nI q ∧ m1.1 130 j = nI r ∧ m1.1 131 j = nI k ∧ m1.1 132 j = nI l ∧ (∀ i, i ≠ j → m1.1 130 i = m.1 130 i ∧ m1.1 131 i = m.1 131 i ∧ m1.1 132 i = m.1 132 i) ∧ m1.2 = m.2 ∧ mq m m1) := by
  have hn := h.1
  have oI : ∀ (m : qm_M) (o j : Nat) (x : Int32) (a i : Nat), a ≠ o → (qm_sI m o j x).1 a i = m.1 a i := fun m o j x a i g => me_oth _ _ _ _ (Or.inl g)
  obtain ⟨a1, a2⟩ := mt_readsNumber h hp hpn (lo := 1) (hi := 6) (by omega) (by omega)
  unfold rD F_M_readsSide X_M_readsSide_e
  cases h1 : rN n T 1 6 p with
  | inl z0 =>
    obtain ⟨m1, r1, r2, r3⟩ := a1 z0 h1
    have r1' : F_M_readsNumber 1 6 m = _ := r1
    rw [r1', qe_rI_e, if_pos rfl]
    exact ⟨fun z hz => ⟨m1, rfl, by rw [r2, Sum.inl.inj hz], r3⟩, fun r k l q hz => (by cases hz)⟩
  | inr x =>
    obtain ⟨r, q⟩ := x
    have v1 := rN_v hpn h1
    have r1 := a2 r q h1
    have r1' : F_M_readsNumber 1 6 m = _ := r1
    dsimp only
    rw [r1', qe_rI_e, if_neg n10, qm_in_nI hj (by omega), qe_b_e, nI_clamp (by omega), me_self]
    have g1 : mq m (qm_sI (qm_sI (qm_sI m 112 25 (nI q)) 112 27 (nI r)) 130 j (nI r)) := ((mq.I m (by omega) _).tr (mq.I _ (by omega) _)).tr (mq.D _ (Or.inl rfl) _ _)
    have p1 : (qm_sI (qm_sI (qm_sI m 112 25 (nI q)) 112 27 (nI r)) 130 j (nI r)).1 112 25 = nI q := by rw [oI _ _ _ _ _ _ (by decide), me_oth _ _ _ _ (Or.inr (by decide)), me_self]
    obtain ⟨b1, b2⟩ := mt_kindHere (g1.mtt h) p1 v1.2.2.1
    cases h2 : rK n T q with
    | inl z0 =>
      obtain ⟨r2, r3⟩ := b1 z0 h2
      rw [r2, qe_rI_e, qe_b_e, qe_b_e, me_self, if_pos rfl, oI _ _ _ _ _ _ (by decide), me_self, show (1 : Int32) = nI 1 from rfl, mt_fails, qe_rI_e]
      refine ⟨fun z hz => ⟨_, rfl, ?_, ?_⟩, fun r k l q hz => (by cases hz)⟩
      · rw [me_self, ← r3, Sum.inl.inj hz]
      · exact ((g1.tr (mq.I _ (by omega) _)).tr (mq.D _ (Or.inr (Or.inl rfl)) _ _)).tr (mq.I _ (by omega) _)
    | inr x =>
      obtain ⟨k, q2⟩ := x
      have v2 := rK_v v1.2.2.1 h2
      have r2 := b2 k q2 h2
      have hk1 : ¬ nI k = (-1 : Int32) := fun z => by
        have e : (-1 : Int32) < nI k := by
          rw [Int32.lt_iff_toInt_lt, nI_toInt (by omega)]
          show (-1 : Int) < _
          omega
        rw [z] at e
        exact absurd e Int32.lt_irrefl
      dsimp only
      rw [r2, qe_rI_e, qe_b_e, qe_b_e, me_self, if_neg hk1]
      have g2 := (g1.tr (mq.I (qm_sI (qm_sI (qm_sI m 112 25 (nI q)) 112 27 (nI r)) 130 j (nI r)) (j := 25) (by omega) (nI q2))).tr (mq.D _ (Or.inr (Or.inl rfl)) j (nI k))
      obtain ⟨c1, c2⟩ := mt_readsNumber (g2.mtt h) (by rw [oI _ _ _ _ _ _ (by decide), me_self]) v2.2.1 (lo := 1) (hi := 8) (by omega) (by omega)
      cases h3 : rN n T 1 8 q2 with
      | inl z0 =>
        obtain ⟨m1, s1, s2, s3⟩ := c1 z0 h3
        have s1' : F_M_readsNumber 1 8 _ = _ := s1
        rw [s1', qe_rI_e, if_pos rfl]
        exact ⟨fun z hz => ⟨m1, rfl, by rw [s2, Sum.inl.inj hz], g2.tr s3⟩, fun r k l q hz => (by cases hz)⟩
      | inr x =>
        obtain ⟨l, q3⟩ := x
        have s1 := c2 l q3 h3
        have s1' : F_M_readsNumber 1 8 _ = _ := s1
        rw [s1', qe_rI_e, if_neg n10, qe_b_e, me_self]
        refine ⟨fun z hz => (by cases hz), fun r' k' l' q' hz => ?_⟩
        cases hz
        refine ⟨_, rfl, ?_, ?_, ?_, ?_, fun i hi => ⟨?_, ?_, ?_⟩, rfl, ((g2.tr (mq.I _ (by omega) _)).tr (mq.I _ (by omega) _)).tr (mq.D _ (Or.inr (Or.inr rfl)) _ _)⟩
        · rw [oI _ _ _ _ _ _ (by decide), me_oth _ _ _ _ (Or.inr (by decide)), me_self]
        · rw [oI _ _ _ _ _ _ (by decide), oI _ _ _ _ _ _ (by decide), oI _ _ _ _ _ _ (by decide), oI _ _ _ _ _ _ (by decide), oI _ _ _ _ _ _ (by decide), me_self]
        · rw [oI _ _ _ _ _ _ (by decide), oI _ _ _ _ _ _ (by decide), oI _ _ _ _ _ _ (by decide), me_self]
        · rw [me_self]
        · rw [oI _ _ _ _ _ _ (by decide), oI _ _ _ _ _ _ (by decide), oI _ _ _ _ _ _ (by decide), oI _ _ _ _ _ _ (by decide), oI _ _ _ _ _ _ (by decide), me_oth _ _ _ _ (Or.inr hi), oI _ _ _ _ _ _ (by decide), oI _ _ _ _ _ _ (by decide)]
        · rw [oI _ _ _ _ _ _ (by decide), oI _ _ _ _ _ _ (by decide), oI _ _ _ _ _ _ (by decide), me_oth _ _ _ _ (Or.inr hi), oI _ _ _ _ _ _ (by decide), oI _ _ _ _ _ _ (by decide), oI _ _ _ _ _ _ (by decide), oI _ _ _ _ _ _ (by decide)]
        · rw [me_oth _ _ _ _ (Or.inr hi), oI _ _ _ _ _ _ (by decide), oI _ _ _ _ _ _ (by decide), oI _ _ _ _ _ _ (by decide), oI _ _ _ _ _ _ (by decide), oI _ _ _ _ _ _ (by decide), oI _ _ _ _ _ _ (by decide), oI _ _ _ _ _ _ (by decide)]
