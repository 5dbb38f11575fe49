/-! tools again: loops, numbers decided by omega -/
theorem lpU {σ α : Type} (L : Nat → Nat → σ → α) (n : Nat) (I : Nat → σ → Prop) (E : σ → α) (hs : ∀ f k s, k < n → I k s → ∃ s', I (k + 1) s' ∧ L (f + 1) k s = L f (k + 1) s') (he : ∀ f s, I n s → L (f + 1) n s = E s) (f k : Nat) (s : σ) (hk : k ≤ n) (hf : n < f + k) (h : I k s) : ∃ s', I n s' ∧ L f k s = E s' := by
  have key : ∀ d f k s, n - k = d → k ≤ n → d < f → I k s → ∃ s', I n s' ∧ L f k s = E s' := by
    intro d
    induction d with
    | zero =>
      intro f k s h1 h2 h3 h4
      obtain ⟨f, rfl⟩ : ∃ g, f = g + 1 := ⟨f - 1, by omega⟩
      have e : k = n := by omega
      subst e
      exact ⟨s, h4, he f s h4⟩
    | succ d ih =>
      intro f k s h1 h2 h3 h4
      obtain ⟨f, rfl⟩ : ∃ g, f = g + 1 := ⟨f - 1, by omega⟩
      obtain ⟨s', a, b⟩ := hs f k s (by omega) h4
      obtain ⟨s2, c, e⟩ := ih f (k + 1) s' (by omega) (by omega) (by omega) a
      exact ⟨s2, c, b.trans e⟩
  exact key (n - k) f k s rfl hk (by omega) h
/-- a loop that may end early -/
theorem lpE {σ α : Type} (L : Nat → Nat → σ → α) (n : Nat) (I : Nat → σ → Prop) (R : α → Prop) (hs : ∀ f k s, k < n → I k s → (∃ s', I (k + 1) s' ∧ L (f + 1) k s = L f (k + 1) s') ∨ R (L (f + 1) k s)) (he : ∀ f s, I n s → R (L (f + 1) n s)) (f k : Nat) (s : σ) (hk : k ≤ n) (hf : n < f + k) (h : I k s) : R (L f k s) := by
  have key : ∀ d f k s, n - k = d → k ≤ n → d < f → I k s → R (L f k s) := by
    intro d
    induction d with
    | zero =>
      intro f k s h1 h2 h3 h4
      obtain ⟨f, rfl⟩ : ∃ g, f = g + 1 := ⟨f - 1, by omega⟩
      have e : k = n := by omega
      subst e
      exact he f s h4
    | succ d ih =>
      intro f k s h1 h2 h3 h4
      obtain ⟨f, rfl⟩ : ∃ g, f = g + 1 := ⟨f - 1, by omega⟩
      rcases hs f k s (by omega) h4 with ⟨s', a, b⟩ | r
      · rw [b]
        exact ih f (k + 1) s' (by omega) (by omega) (by omega) a
      · exact r
  exact key (n - k) f k s rfl hk (by omega) h
/-- a loop that goes down: k more turns -/
theorem lpD {σ α : Type} (L : Nat → Nat → σ → α) (n : Nat) (I : Nat → σ → Prop) (E : σ → α) (hs : ∀ f k s, k < n → I (k + 1) s → ∃ s', I k s' ∧ L (f + 1) (k + 1) s = L f k s') (he : ∀ f s, I 0 s → L (f + 1) 0 s = E s) : ∀ (k f : Nat) (s : σ), k ≤ n → k < f → I k s → ∃ s', I 0 s' ∧ L f k s = E s' := by
  intro k
  induction k with
  | zero =>
    intro f s h2 h3 h4
    obtain ⟨f, rfl⟩ : ∃ g, f = g + 1 := ⟨f - 1, by omega⟩
    exact ⟨s, h4, he f s h4⟩
  | succ k ih =>
    intro f s h2 h3 h4
    obtain ⟨f, rfl⟩ : ∃ g, f = g + 1 := ⟨f - 1, by omega⟩
    obtain ⟨s', a, b⟩ := hs f k s (by omega) h4
    obtain ⟨s2, c, e⟩ := ih f s' (by omega) (by omega) a
    exact ⟨s2, c, b.trans e⟩
/-- any loop, with a measure -/
theorem lpG {σ α : Type} (L : Nat → σ → α) (mu : σ → Nat) (I : σ → Prop) (R : α → Prop) (hs : ∀ f s, I s → (∃ s', I s' ∧ mu s' < mu s ∧ L (f + 1) s = L f s') ∨ R (L (f + 1) s)) : ∀ (f : Nat) (s : σ), I s → mu s < f → R (L f s) := by
  intro f
  induction f with
  | zero => intro s _ h; exact absurd h (Nat.not_lt_zero _)
  | succ f ih =>
    intro s h1 h2
    rcases hs f s h1 with ⟨s', a, b, c⟩ | r
    · rw [c]
      exact ih s' a (by omega)
    · exact r
theorem qe_rR_e {α : Type} (v : Nat) (m : qm_M) (k : Nat → qm_M → Option α) : qe_rR (some (some (.ref v), m)) k = k v m := rfl
theorem n10F : ((1 : Int32) = 0) = False := eq_false n10
theorem nI_lt0 {a : Nat} (h : a < 2 ^ 31) : (nI a < 0) = False := eq_false (nI_pos h)
theorem nI_e0T {a : Nat} (h : a = 0) : (nI a = 0) = True := eq_true (by rw [h]; rfl)
theorem nI_e0F {a : Nat} (h : 0 < a) (ha : a < 2 ^ 31) : (nI a = 0) = False := eq_false (nI_ne0 h ha)
theorem nI_ltT {a b : Nat} (h : a < b) (hb : b < 2 ^ 31) : (nI a < nI b) = True := eq_true (nI_lt h hb)
theorem nI_ltF {a b : Nat} (h : b ≤ a) (ha : a < 2 ^ 31) : (nI a < nI b) = False := eq_false (nI_nlt h ha)
theorem nI_eqT {a b : Nat} (h : a = b) : (nI a = nI b) = True := eq_true (by rw [h])
theorem nI_eqF {a b : Nat} (h : a ≠ b) (ha : a < 2 ^ 31) (hb : b < 2 ^ 31) : (nI a = nI b) = False := eq_false (fun z => h ((nI_eq ha hb).mp z))
theorem li0 : (0 : Int32) = nI 0 := rfl
theorem li1 : (1 : Int32) = nI 1 := rfl
theorem li2 : (2 : Int32) = nI 2 := rfl
theorem li3 : (3 : Int32) = nI 3 := rfl
theorem li4 : (4 : Int32) = nI 4 := rfl
theorem li5 : (5 : Int32) = nI 5 := rfl
theorem li6 : (6 : Int32) = nI 6 := rfl
theorem li7 : (7 : Int32) = nI 7 := rfl
theorem li8 : (8 : Int32) = nI 8 := rfl
theorem li10 : (10 : Int32) = nI 10 := rfl
theorem li11 : (11 : Int32) = nI 11 := rfl
theorem li12 : (12 : Int32) = nI 12 := rfl
theorem li15 : (15 : Int32) = nI 15 := rfl
theorem li16 : (16 : Int32) = nI 16 := rfl
theorem li17 : (17 : Int32) = nI 17 := rfl
theorem li33 : (33 : Int32) = nI 33 := rfl
theorem li36 : (36 : Int32) = nI 36 := rfl
theorem li63 : (63 : Int32) = nI 63 := rfl
theorem li64 : (64 : Int32) = nI 64 := rfl
theorem li120 : (120 : Int32) = nI 120 := rfl
theorem li256 : (256 : Int32) = nI 256 := rfl
theorem li4096 : (4096 : Int32) = nI 4096 := rfl
theorem li65536 : (65536 : Int32) = nI 65536 := rfl
theorem liN (n : Nat) : Int32.ofNat n = nI n := rfl
theorem nI_sub1 (n : Nat) : nI (n + 1) - 1 = nI n := nI_pred n
theorem nI_sub {a b : Nat} (h : b ≤ a) : nI a - nI b = nI (a - b) := pk_sub h
/-- the sum of the first n -/
def xs : Nat → (Nat → nb_F) → nb_F
  | 0, _ => 0
  | n + 1, f => xs n f ^^^ f n
theorem xs_s (n : Nat) (f : Nat → nb_F) : xs (n + 1) f = xs n f ^^^ f n := rfl
theorem xs_0 (f : Nat → nb_F) : xs 0 f = 0 := rfl
theorem xs_c {n : Nat} {f g : Nat → nb_F} (h : ∀ i, i < n → f i = g i) : xs n f = xs n g := by
  induction n with
  | zero => rfl
  | succ n ih => rw [xs_s, xs_s, ih (fun i hi => h i (by omega)), h n (by omega)]
/-! positions by their place -/
theorem px_g {m : qm_M} {o k n : Nat} (hk : k < 2) (e : px_c m o (15 + k) = lN n) : m.1 o (8 + k) = nI n := by
  unfold px_c at e
  rw [if_neg (by omega), if_neg (by omega), if_neg (by omega), if_pos (by omega), show 15 + k - 7 = 8 + k by omega] at e
  have h2 := congrArg Int64.toInt32 e
  rw [Int32.toInt32_toInt64, lN_i] at h2
  exact h2
theorem px_e {m : qm_M} {o k : Nat} (hk : k < 16) : px_c m o (17 + k) = m.2 (o + 2) k := by
  unfold px_c
  rw [if_neg (by omega), if_neg (by omega), if_neg (by omega), if_neg (by omega), show 17 + k - 17 = k by omega]
