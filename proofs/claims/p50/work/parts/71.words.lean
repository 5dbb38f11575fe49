/-! words; the class reads a text -/
def wl (w : Nat) : Nat := match w with
  | 0 => 2
  | 3 => 4
  | _ => 5
def wcs (w : Nat) : List Nat := match w with
  | 0 => [117, 112]
  | 1 => [101, 120, 97, 99, 116]
  | 2 => [114, 117, 108, 101, 114]
  | 3 => [110, 101, 97, 114]
  | _ => [104, 101, 97, 100, 115]
def wc (w i : Nat) : Nat := (wcs w).getD i 0
theorem wl_le (w : Nat) : 1 ≤ wl w ∧ wl w ≤ 5 := by
  unfold wl
  split <;> omega
theorem wc_chk : (List.range 5).all (fun w => (List.range (wl w)).all (fun i => decide (wc w i < 128 ∧ cL (wc w i) = true))) = true := by decide +kernel
theorem wc_L {w i : Nat} (hw : w < 5) (hi : i < wl w) : wc w i < 128 ∧ cL (wc w i) = true := of_decide_eq_true (List.all_eq_true.mp (List.all_eq_true.mp wc_chk w (List.mem_range.mpr hw)) i (List.mem_range.mpr hi))
theorem nb_k5 {P : Nat → Prop} (h0 : P 0) (h1 : P 1) (h2 : P 2) (h3 : P 3) (h4 : P 4) : ∀ k, k < 5 → P k
  | 0, _ => h0
  | 1, _ => h1
  | 2, _ => h2
  | 3, _ => h3
  | 4, _ => h4
  | k + 5, h => absurd h (by omega)
theorem nu_len (m : qm_M) : ∀ w, w < 5 → F_JS_length (1000010 + w) m = some (some (.int (nI (wl w))), m) := nb_k5 rfl rfl rfl rfl rfl
theorem wc_chk2 : (List.range 5).all (fun w => (List.range (wl w)).all (fun i => decide (qm_ni .char (nI (wc w i)) = true ∧ qo_i2c (nI (wc w i) &&& 255) = nI (wc w i) ∧ Nat.ble (qm_gk (1000010 + w + 20)).1 6 = true ∧ qm_n (1000010 + w + 20) = wl w ∧ qm_isA (1000010 + w + 20) 2 = true ∧ (Nat.ble 1000000 (1000010 + w + 20) = true ∧ qm_gw (1000010 + w + 20) i = nI (wc w i))))) = true := by decide +kernel
theorem nu_chrA (m : qm_M) {o i x n : Nat} (h1 : Nat.ble (qm_gk o).1 6 = true) (h2 : qm_n o = n) (hi : i < n) (hn : n ≤ 5) (h3 : qm_isA o 2 = true) (h4 : ∀ m : qm_M, qm_gI m o i = nI x) (hx : qo_i2c (nI x &&& 255) = nI x) (h5 : qm_ni .char (nI x) = true) : F_JA_charAt o (nI i) m = some (some (.int (nI x)), m) := by
  have ck : F_JS_checkIndex (nI i) (nI n) m = some (none, m) := by
    unfold F_JS_checkIndex X_JS_checkIndex_e F_JP_checkIndex X_JP_checkIndex_e
    rw [if_neg (nI_pos (by omega)), if_pos (nI_lt (by omega) (by omega)), qe_rI_e]
  have e2 : Int32.ofNat n = nI n := rfl
  unfold F_JA_charAt X_JA_charAt_e
  rw [h1, h2, e2, ck, qe_rV_e, h3, qm_in_nI (by omega) (by omega), nI_clamp (by omega), h4, hx, h5]
  rfl
theorem wn_ok : ∀ w, w < 5 → (Nat.ble 1000010 (1000010 + w) && Nat.ble (1000010 + w) 1000018) = true := nb_k5 rfl rfl rfl rfl rfl
theorem nu_chrS {m : qm_M} {w : Nat} (hw : w < 5) {i : Int32} {x : Nat} (h : F_JA_charAt (1000010 + w + 20) i m = some (some (.int (nI x)), m)) (h5 : qm_ni .char (nI x) = true) : F_JS_charAt (1000010 + w) i m = some (some (.int (nI x)), m) := by
  have l : F_JS_isLatin1 (1000010 + w) m = some (some (.int 1), m) := by
    unfold F_JS_isLatin1 X_JS_isLatin1_e
    rw [if_neg n10, wn_ok w hw, if_pos rfl]
    rfl
  unfold F_JS_charAt X_JS_charAt_e
  rw [l, qe_rI_e, if_neg n10, wn_ok w hw, h, qe_rI_e, h5]
  rfl
theorem nu_chr (m : qm_M) : ∀ w, w < 5 → ∀ i, i < 5 → i < wl w → F_JS_charAt (1000010 + w) (nI i) m = some (some (.int (nI (wc w i))), m) := fun w hw i hi hl => by
  have c : qm_ni .char (nI (wc w i)) = true ∧ qo_i2c (nI (wc w i) &&& 255) = nI (wc w i) ∧ Nat.ble (qm_gk (1000010 + w + 20)).1 6 = true ∧ qm_n (1000010 + w + 20) = wl w ∧ qm_isA (1000010 + w + 20) 2 = true ∧ (Nat.ble 1000000 (1000010 + w + 20) = true ∧ qm_gw (1000010 + w + 20) i = nI (wc w i)) :=
    of_decide_eq_true (List.all_eq_true.mp (List.all_eq_true.mp wc_chk2 w (List.mem_range.mpr hw)) i (List.mem_range.mpr hl))
  obtain ⟨c1, c2, c3, c4, c5, c6, c7⟩ := c
  exact nu_chrS hw (nu_chrA m c3 c4 hl (wl_le w).2 c5 (fun m => by unfold qm_gI; rw [c6, c7]; rfl) c2 c1) c1
/-- a word stands there -/
def wq (T : Nat → Nat) (s e w : Nat) : Bool := decide (e = s + wl w ∧ ∀ i, i < wl w → T (s + i) = wc w i)
def rK (n : Nat) (T : Nat → Nat) (p : Nat) : Nat ⊕ (Nat × Nat) :=
  let s := te (fun k => cB (T k)) n p
  let e := te (fun k => cL (T k)) n s
  if wq T s e 0 = true then .inr (0, e) else if wq T s e 1 = true then .inr (1, e) else if wq T s e 2 = true then .inr (2, e) else if wq T s e 3 = true then .inr (3, e) else .inl (8 * s + 1)
theorem nu_isWord {n s e w : Nat} {T : Nat → Nat} {m : qm_M} (h : ct n T m) (hw : w < 5) (hp : m.1 43 3 = nI e) (hse : s ≤ e) (hen : e ≤ n) : F_Ta_isWord (nI s) (1000010 + w) m = some (some (.int (if wq T s e w = true then 1 else 0)), m) := by
  have hn := h.1
  have hl := wl_le w
  unfold F_Ta_isWord X_Ta_isWord_e
  rw [wn_ok w hw, qe_b_e, nu_len m w hw, qe_rI_e, hp, pk_sub hse]
  by_cases c : e = s + wl w
  · rw [if_pos (by rw [c]; congr 1; omega)]
    refine lpE (fun f k (m : qm_M) => L_Ta_isWord_17 f (nI s) (1000010 + w) (nI k) m) (wl w) (fun k m1 => m1 = m ∧ ∀ i, i < k → T (s + i) = wc w i) (fun r => r = some (some (.int (if wq T s e w = true then 1 else 0)), m)) (fun f k m1 hk hI => ?_) (fun f m1 hI => ?_) 1000000 0 m (Nat.zero_le _) (by omega) ⟨rfl, fun i hi => absurd hi (Nat.not_lt_zero _)⟩
    · obtain ⟨rfl, hI⟩ := hI
      obtain ⟨t1, t2⟩ := h.2.2 (s + k) (by omega)
      have ec := sx_eq t1 (wc_L hw hk).1
      rw [le_Ta_isWord_17]
      unfold X_Ta_isWord_17
      rw [wn_ok w hw, qe_b_e, nu_len m1 w hw, qe_rI_e, if_pos (nI_lt hk (by omega)), nI_add, qm_in_nI (by omega) (by omega), qe_b_e, qe_b_e, nu_chr m1 w hw k (by omega) hk, qe_rI_e, nI_clamp (by omega), t2, nI_1]
      by_cases c2 : T (s + k) = wc w k
      · rw [if_pos (ec.mpr c2)]
        refine Or.inl ⟨m1, ⟨rfl, fun i hi => ?_⟩, rfl⟩
        by_cases q : i = k
        · rw [q]; exact c2
        · exact hI i (by omega)
      · rw [if_neg (fun z => c2 (ec.mp z))]
        refine Or.inr ?_
        have : ¬ wq T s e w = true := fun z => c2 ((of_decide_eq_true z).2 k hk)
        rw [if_neg this]
    · obtain ⟨rfl, hI⟩ := hI
      rw [le_Ta_isWord_17]
      unfold X_Ta_isWord_17
      rw [wn_ok w hw, qe_b_e, nu_len m1 w hw, qe_rI_e, if_neg (nI_nlt (Nat.le_refl _) (by omega))]
      have : wq T s e w = true := decide_eq_true ⟨c, hI⟩
      rw [if_pos this]
  · rw [if_neg (fun z => c (by have := (nI_eq (by omega) (by omega)).mp z; omega))]
    have : ¬ wq T s e w = true := fun z => c (of_decide_eq_true z).1
    rw [if_neg this]
theorem nu_readKind {n p : Nat} {T : Nat → Nat} {m : qm_M} (h : ct n T m) (hp : m.1 43 3 = nI p) (hpn : p ≤ n) (h4 : m.1 43 4 = 0) :
    (∀ z, rK n T p = .inl z → ∃ r q, F_Ta_readKind m = some (some (.int r), qm_sI (qm_sI m 43 3 (nI q)) 43 4 (nI z))) ∧ (∀ v q, rK n T p = .inr (v, q) → F_Ta_readKind m = some (some (.int (nI v)), qm_sI m 43 3 (nI q))) := by
  have hn := h.1
  have hs := te_le (fun k => cB (T k)) hpn
  have hse := te_ge (fun k => cL (T k)) n (te (fun k => cB (T k)) n p)
  have hen := te_le (fun k => cL (T k)) hs
  unfold F_Ta_readKind X_Ta_readKind_e
  rw [if_pos h4, nu_skipBlanks h hp hpn, qe_rV_e, nu_readWord (h.st (j := 3) (by omega) _) (me_self _ _ _ _) hs, qe_rV_e, me_sII, me_self]
  unfold rK
  dsimp only
  generalize te (fun k => cB (T k)) n p = s at *
  generalize te (fun k => cL (T k)) n s = e at *
  have hc := h.st (j := 3) (by omega) (nI e)
  have i0 := nu_isWord hc (w := 0) (by omega) (me_self _ _ _ _) hse hen
  have i1 := nu_isWord hc (w := 1) (by omega) (me_self _ _ _ _) hse hen
  have i2 := nu_isWord hc (w := 2) (by omega) (me_self _ _ _ _) hse hen
  have i3 := nu_isWord hc (w := 3) (by omega) (me_self _ _ _ _) hse hen
  rw [i0, qe_rI_e]
  by_cases c0 : wq T s e 0 = true
  · rw [if_pos c0, if_pos c0, if_neg n10]
    exact ⟨fun z hz => (by cases hz), fun v q hz => (by cases hz; rfl)⟩
  · rw [if_neg c0, if_neg c0, if_pos rfl, i1, qe_rI_e]
    by_cases c1 : wq T s e 1 = true
    · rw [if_pos c1, if_pos c1, if_neg n10]
      exact ⟨fun z hz => (by cases hz), fun v q hz => (by cases hz; rfl)⟩
    · rw [if_neg c1, if_neg c1, if_pos rfl, i2, qe_rI_e]
      by_cases c2 : wq T s e 2 = true
      · rw [if_pos c2, if_pos c2, if_neg n10]
        exact ⟨fun z hz => (by cases hz), fun v q hz => (by cases hz; rfl)⟩
      · rw [if_neg c2, if_neg c2, if_pos rfl, i3, qe_rI_e]
        by_cases c3 : wq T s e 3 = true
        · rw [if_pos c3, if_pos c3, if_neg n10]
          exact ⟨fun z hz => (by cases hz), fun v q hz => (by cases hz; rfl)⟩
        · rw [if_neg c3, if_neg c3, if_pos rfl, tb_1 h4, qe_rV_e]
          exact ⟨fun z hz => ⟨_, e, by rw [Sum.inl.inj hz]⟩, fun v q hz => by cases hz⟩
theorem nu_readKind0 {m : qm_M} (h4 : ¬ m.1 43 4 = 0) : F_Ta_readKind m = some (some (.int 0), m) := by
  unfold F_Ta_readKind X_Ta_readKind_e
  rw [if_neg h4]
/-- a word and its numbers at s: the fault, or where they end and the cells -/
def rS (n : Nat) (T : Nat → Nat) (r c s : Nat) (H : nb_F) : Nat ⊕ (Nat × nb_F) :=
  if wq T s (te (fun k => cL (T k)) n s) 4 = true then
    match rN n T 0 (r - 1) (te (fun k => cL (T k)) n s) with
    | .inl z => .inl z
    | .inr x => match rN n T 0 (c - 1) x.2 with
      | .inl z => .inl z
      | .inr y => .inr (y.2, H ||| nb_e (6 * x.1 + y.1))
  else .inl (8 * s + 1)
/-- the cells told; the fault, or them -/
def rH (n : Nat) (T : Nat → Nat) (r c : Nat) : Nat → Nat → nb_F → Nat ⊕ nb_F
  | 0, _, H => .inr H
  | d + 1, p, H => if n ≤ te (fun k => cB (T k)) n p then .inr H else
    match rS n T r c (te (fun k => cB (T k)) n p) H with
    | .inl z => .inl z
    | .inr x => rH n T r c d x.1 x.2
theorem rH_s (n : Nat) (T : Nat → Nat) (r c d p : Nat) (H : nb_F) : rH n T r c (d + 1) p H = (if n ≤ te (fun k => cB (T k)) n p then .inr H else
    match rS n T r c (te (fun k => cB (T k)) n p) H with
    | .inl z => .inl z
    | .inr x => rH n T r c d x.1 x.2) := rfl
theorem rN_f {n : Nat} {T : Nat → Nat} {lo hi p z : Nat} (hpn : p ≤ n) (h : rN n T lo hi p = .inl z) : 0 < z ∧ z ≤ 8 * n + 2 := by
  unfold rN at h
  dsimp only at h
  have hs := te_le (fun k => cB (T k)) hpn
  split at h
  · have := Sum.inl.inj h; omega
  · split at h
    · have := Sum.inl.inj h; omega
    · cases h
theorem rN_v {n : Nat} {T : Nat → Nat} {lo hi p v q : Nat} (hpn : p ≤ n) (h : rN n T lo hi p = .inr (v, q)) : lo ≤ v ∧ v ≤ hi ∧ q ≤ n ∧ p < q := by
  unfold rN at h
  dsimp only at h
  have hs := te_le (fun k => cB (T k)) hpn
  have hs2 := te_ge (fun k => cB (T k)) n p
  have he := te_le (fun k => cD (T k)) hs
  have he2 := te_ge (fun k => cD (T k)) n (te (fun k => cB (T k)) n p)
  split at h
  · cases h
  · rename_i c1
    split at h
    · cases h
    · rename_i c2
      have := Sum.inr.inj h
      have e1 := congrArg Prod.fst this
      have e2 := congrArg Prod.snd this
      dsimp only at e1 e2
      refine ⟨by omega, by omega, by omega, by omega⟩
theorem rK_f {n : Nat} {T : Nat → Nat} {p z : Nat} (hpn : p ≤ n) (h : rK n T p = .inl z) : 0 < z ∧ z ≤ 8 * n + 2 := by
  unfold rK at h
  dsimp only at h
  have hs := te_le (fun k => cB (T k)) hpn
  repeat (split at h; · cases h)
  have := Sum.inl.inj h
  omega
theorem rK_v {n : Nat} {T : Nat → Nat} {p v q : Nat} (hpn : p ≤ n) (h : rK n T p = .inr (v, q)) : v ≤ 3 ∧ q ≤ n ∧ p ≤ q := by
  unfold rK at h
  dsimp only at h
  have hs := te_le (fun k => cB (T k)) hpn
  have hs2 := te_ge (fun k => cB (T k)) n p
  have he := te_le (fun k => cL (T k)) hs
  have he2 := te_ge (fun k => cL (T k)) n (te (fun k => cB (T k)) n p)
  split at h
  · cases h; omega
  · split at h
    · cases h; omega
    · split at h
      · cases h; omega
      · split at h
        · cases h; omega
        · cases h
/-- the heads lie on the board -/
def hbd (r c : Nat) (H : nb_F) : Prop := ∀ i, H.getLsbD i = true → i / 6 < r ∧ i % 6 < c
theorem hbd.or {r c : Nat} {H : nb_F} (h : hbd r c H) {a b : Nat} (ha : a < r) (hb : b < c) (hc : c ≤ 6) : hbd r c (H ||| nb_e (6 * a + b)) := by
  intro i hi
  rw [BitVec.getLsbD_or, Bool.or_eq_true] at hi
  rcases hi with hi | hi
  · exact h i hi
  · have e : i = 6 * a + b := by
      by_cases q : i < 64
      · have e2 := nb_e_bit (6 * a + b) i q
        rw [← BitVec.getLsbD_eq_getElem, hi] at e2
        exact of_decide_eq_true e2.symm
      · rw [BitVec.getLsbD_of_ge _ _ (by omega)] at hi; cases hi
    rw [e]
    omega
theorem rS_v {n : Nat} {T : Nat → Nat} {r c s : Nat} (hr : 0 < r) (hc : 0 < c ∧ c ≤ 6) (hs : s ≤ n) {H : nb_F} {x : Nat × nb_F} (h : rS n T r c s H = .inr x) : x.1 ≤ n ∧ s < x.1 ∧ (hbd r c H → hbd r c x.2) := by
  have he := te_le (fun k => cL (T k)) hs
  have hse := te_ge (fun k => cL (T k)) n s
  unfold rS at h
  split at h
  · split at h
    · cases h
    · rename_i a1 e1
      obtain ⟨a, q⟩ := a1
      have v1 := rN_v he e1
      split at h
      · cases h
      · rename_i b1 e2
        obtain ⟨b, q2⟩ := b1
        have v2 := rN_v v1.2.2.1 e2
        cases h
        refine ⟨v2.2.2.1, ?_, fun g => g.or (by omega) (by omega) hc.2⟩
        show s < q2
        have h1 : te (fun k => cL (T k)) n s < q := v1.2.2.2
        have h2 : q < q2 := v2.2.2.2
        omega
  · cases h
theorem rS_f {n : Nat} {T : Nat → Nat} {r c s : Nat} (hs : s ≤ n) {H : nb_F} {z : Nat} (h : rS n T r c s H = .inl z) : 0 < z ∧ z ≤ 8 * n + 2 := by
  have he := te_le (fun k => cL (T k)) hs
  unfold rS at h
  split at h
  · split at h
    · rename_i y e1
      rw [← Sum.inl.inj h]; exact rN_f he e1
    · rename_i a1 e1
      obtain ⟨a, q⟩ := a1
      have v1 := rN_v he e1
      split at h
      · rename_i y e2
        rw [← Sum.inl.inj h]; exact rN_f v1.2.2.1 e2
      · cases h
  · have := Sum.inl.inj h; omega
theorem rH_bd {n : Nat} {T : Nat → Nat} {r c : Nat} (hr : 0 < r) (hc : 0 < c ∧ c ≤ 6) : ∀ d p H H1, p ≤ n → hbd r c H → rH n T r c d p H = .inr H1 → hbd r c H1 := by
  intro d
  induction d with
  | zero => intro p H H1 _ h e; cases e; exact h
  | succ d ih =>
    intro p H H1 hp h e
    have hs := te_le (fun k => cB (T k)) hp
    rw [rH_s] at e
    split at e
    · cases e; exact h
    · split at e
      · cases e
      · rename_i x e1
        have v1 := rS_v hr hc hs e1
        exact ih _ _ H1 v1.1 (v1.2.2 h) e
theorem rH_f {n : Nat} {T : Nat → Nat} {r c : Nat} (hr : 0 < r) (hc : 0 < c ∧ c ≤ 6) : ∀ d p H z, p ≤ n → rH n T r c d p H = .inl z → 0 < z ∧ z ≤ 8 * n + 2 := by
  intro d
  induction d with
  | zero => intro p H z _ e; cases e
  | succ d ih =>
    intro p H z hp e
    have hs := te_le (fun k => cB (T k)) hp
    rw [rH_s] at e
    split at e
    · cases e
    · split at e
      · rename_i y e1
        rw [← Sum.inl.inj e]; exact rS_f hs e1
      · rename_i x e1
        have v1 := rS_v hr hc hs e1
        exact ih _ _ z v1.1 e
