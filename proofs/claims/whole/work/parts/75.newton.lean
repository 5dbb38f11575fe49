/-! polynomials through points: by divided differences, by products -/
def dv (k : Nat) : Int32 := nI k - 1
theorem dv_s (k : Nat) : dv (k + 1) = nI k := nI_pred k
theorem dv_d (k : Nat) : nI k + (-1) = dv k := (Int32.sub_eq_add_neg (nI k) 1).symm
theorem dv_0 : dv 0 < 0 := by decide
/-- the products of x less the first points -/
def om (p : Nat → nb_F) (x : nb_F) : Nat → nb_F
  | 0 => 1
  | t + 1 => nb_mul (om p x t) (x ^^^ p t)
theorem om_0 (p : Nat → nb_F) (x : nb_F) : om p x 0 = 1 := rfl
theorem om_s (p : Nat → nb_F) (x : nb_F) (t : Nat) : om p x (t + 1) = nb_mul (om p x t) (x ^^^ p t) := rfl
theorem om_z (p : Nat → nb_F) {x : nb_F} {l : Nat} (h : x = p l) : ∀ t, l < t → om p x t = 0
  | 0, hl => absurd hl (Nat.not_lt_zero _)
  | t + 1, hl => by
    rw [om_s]
    by_cases q : l = t
    · rw [← q, h, nb_xx, nb_mul_0]
    · rw [om_z p h t (by omega), nb_0_mul]
theorem om_shift (p : Nat → nb_F) (x : nb_F) (a : Nat) : ∀ v, om (fun i => p (a + i)) x (v + 1) = nb_mul (x ^^^ p a) (om (fun i => p (a + 1 + i)) x v) := by
  intro v
  induction v with
  | zero => rw [om_s, om_0, om_0, nb_1_mul, nb_mul_1, Nat.add_zero]
  | succ v ih =>
    rw [om_s, ih, om_s, nb_assoc, show a + (v + 1) = a + 1 + v by omega]
/-- the sum of s by these -/
def nN (p s : Nat → nb_F) (x : nb_F) : Nat → nb_F
  | 0 => 0
  | t + 1 => nN p s x t ^^^ nb_mul (s t) (om p x t)
theorem nN_0 (p s : Nat → nb_F) (x : nb_F) : nN p s x 0 = 0 := rfl
theorem nN_s (p s : Nat → nb_F) (x : nb_F) (t : Nat) : nN p s x (t + 1) = nN p s x t ^^^ nb_mul (s t) (om p x t) := rfl
theorem nN_c {p s u : Nat → nb_F} {x : nb_F} : ∀ n, (∀ i, i < n → s i = u i) → nN p s x n = nN p u x n
  | 0, _ => rfl
  | n + 1, h => by rw [nN_s, nN_s, nN_c n (fun i hi => h i (by omega)), h n (by omega)]
/-- the same from the highest down: d of them from k on -/
def hv (p s : Nat → nb_F) (x : nb_F) : Nat → Nat → nb_F
  | 0, _ => 0
  | d + 1, k => nb_mul (hv p s x d (k + 1)) (x ^^^ p k) ^^^ s k
theorem hv_0 (p s : Nat → nb_F) (x : nb_F) (k : Nat) : hv p s x 0 k = 0 := rfl
theorem hv_s (p s : Nat → nb_F) (x : nb_F) (d k : Nat) : hv p s x (d + 1) k = nb_mul (hv p s x d (k + 1)) (x ^^^ p k) ^^^ s k := rfl
theorem hv_c {p s u w : Nat → nb_F} {x : nb_F} : ∀ d k, (∀ i, i < k + d → p i = u i ∧ s i = w i) → hv p s x d k = hv u w x d k
  | 0, _, _ => rfl
  | d + 1, k, h => by rw [hv_s, hv_s, hv_c d (k + 1) (fun i hi => h i (by omega)), (h k (by omega)).1, (h k (by omega)).2]
theorem hv_nN (p s : Nat → nb_F) (x : nb_F) : ∀ d k, nN p s x k ^^^ nb_mul (om p x k) (hv p s x d k) = nN p s x (k + d) := by
  intro d
  induction d with
  | zero => intro k; rw [hv_0, nb_mul_0, nb_x0, Nat.add_zero]
  | succ d ih =>
    intro k
    rw [show k + (d + 1) = k + 1 + d by omega, ← ih (k + 1), hv_s, nN_s, om_s]
    generalize nN p s x k = a
    generalize om p x k = b
    generalize hv p s x d (k + 1) = e
    generalize p k = g
    generalize s k = z
    letI := nb_RI
    haveI := nb_RC
    exact (show ∀ a b e g z x : nb_R, a + b * (e * (x + g) + z) = a + z * b + b * (x + g) * e by intros; grind) a b e g z x
theorem hv_all (p s : Nat → nb_F) (x : nb_F) (n : Nat) : hv p s x n 0 = nN p s x n := by
  have h := hv_nN p s x n 0
  rw [nN_0, nb_0x, om_0, nb_1_mul, Nat.zero_add] at h
  exact h
/-- divided differences: t + 1 points from a on -/
noncomputable def dq (p f : Nat → nb_F) : Nat → Nat → nb_F
  | 0, a => f a
  | t + 1, a => nb_mul (dq p f t (a + 1) ^^^ dq p f t a) (nb_inv (p (a + t + 1) ^^^ p a))
theorem dq_0 (p f : Nat → nb_F) (a : Nat) : dq p f 0 a = f a := rfl
theorem dq_s (p f : Nat → nb_F) (t a : Nat) : dq p f (t + 1) a = nb_mul (dq p f t (a + 1) ^^^ dq p f t a) (nb_inv (p (a + t + 1) ^^^ p a)) := rfl
/-- in place: one width -/
noncomputable def dP (p : Nat → nb_F) (w : Nat) (s : Nat → nb_F) : Nat → nb_F := fun i => if w ≤ i then nb_mul (s i ^^^ s (i - 1)) (nb_inv (p i ^^^ p (i - w))) else s i
noncomputable def dd (p f : Nat → nb_F) : Nat → Nat → nb_F
  | 0 => f
  | w + 1 => dP p (w + 1) (dd p f w)
theorem dd_s (p f : Nat → nb_F) (w : Nat) : dd p f (w + 1) = dP p (w + 1) (dd p f w) := rfl
theorem dd_eq (p f : Nat → nb_F) : ∀ w i, dd p f w i = if w ≤ i then dq p f w (i - w) else dq p f i 0 := by
  intro w
  induction w with
  | zero => intro i; rw [if_pos (Nat.zero_le i)]; rfl
  | succ w ih =>
    intro i
    rw [dd_s]
    unfold dP
    by_cases h : w + 1 ≤ i
    · rw [if_pos h, if_pos h, ih i, ih (i - 1), if_pos (by omega), if_pos (by omega), dq_s, show i - (w + 1) + 1 = i - w by omega, show i - 1 - w = i - (w + 1) by omega, show i - (w + 1) + w + 1 = i by omega]
    · rw [if_neg h, if_neg h, ih i]
      by_cases g : w ≤ i
      · rw [if_pos g, show i - w = 0 by omega, show i = w by omega]
      · rw [if_neg g]
theorem nw_B (p f : Nat → nb_F) (x : nb_F) : ∀ v a, (∀ t, 0 < t → t ≤ v → p (a + t) ≠ p a) → nN (fun i => p (a + i)) (fun t => dq p f t a) x (v + 1) ^^^ nN (fun i => p (a + 1 + i)) (fun t => dq p f t (a + 1)) x (v + 1) = nb_mul (dq p f v (a + 1) ^^^ dq p f v a) (om (fun i => p (a + 1 + i)) x v) := by
  intro v
  induction v with
  | zero =>
    intro a _
    rw [nN_s, nN_s, nN_0, nN_0, om_0, om_0, nb_mul_1, nb_mul_1, nb_mul_1, nb_0x, nb_0x, BitVec.xor_comm]
  | succ v ih =>
    intro a h
    have h1 := ih a (fun t h1 h2 => h t h1 (by omega))
    have hne : p (a + v + 1) ^^^ p a ≠ 0 := fun z => h (v + 1) (by omega) (by omega) (by rw [show a + (v + 1) = a + v + 1 by omega]; exact nb_x_eq z)
    have hd : nb_mul (dq p f (v + 1) a) (p (a + v + 1) ^^^ p a) = dq p f v (a + 1) ^^^ dq p f v a := by
      rw [dq_s, nb_assoc, nb_comm (nb_inv _), nb_mul_inv hne, nb_mul_1]
    rw [nN_s _ _ _ (v + 1), nN_s _ _ _ (v + 1), om_shift p x a v, om_s, show a + 1 + v = a + v + 1 by omega]
    generalize nN (fun i => p (a + i)) (fun t => dq p f t a) x (v + 1) = A at *
    generalize nN (fun i => p (a + 1 + i)) (fun t => dq p f t (a + 1)) x (v + 1) = B at *
    generalize om (fun i => p (a + 1 + i)) x v = O at *
    generalize dq p f (v + 1) a = d1 at *
    generalize dq p f (v + 1) (a + 1) = d2 at *
    generalize dq p f v (a + 1) ^^^ dq p f v a = e0 at *
    generalize p (a + v + 1) = q at *
    generalize p a = r at *
    clear hne h ih
    letI := nb_RI
    haveI := nb_RC
    exact (show ∀ A B O d1 d2 e0 q r x : nb_R, d1 * (q + r) = e0 → A + B = e0 * O → (A + d1 * ((x + r) * O)) + (B + d2 * (O * (x + q))) = (d2 + d1) * (O * (x + q)) by intros; grind) A B O d1 d2 e0 q r x hd h1
theorem nw_at (p f : Nat → nb_F) : ∀ w a, (∀ i j, a ≤ i → i < j → j ≤ a + w → p i ≠ p j) → ∀ j, a ≤ j → j ≤ a + w → nN (fun i => p (a + i)) (fun t => dq p f t a) (p j) (w + 1) = f j := by
  intro w
  induction w with
  | zero =>
    intro a _ j h1 h2
    have e : j = a := by omega
    rw [nN_s, nN_0, om_0, nb_mul_1, nb_0x, e]
    rfl
  | succ w ih =>
    intro a h j h1 h2
    by_cases q : j ≤ a + w
    · rw [nN_s _ _ _ (w + 1), om_z (fun i => p (a + i)) (l := j - a) (by show p j = p (a + (j - a)); rw [show a + (j - a) = j by omega]) (w + 1) (by omega), nb_mul_0, nb_x0]
      exact ih a (fun i k g1 g2 g3 => h i k g1 g2 (by omega)) j h1 q
    · have e : j = a + w + 1 := by omega
      have hB := nw_B p f (p j) (w + 1) a (fun t g1 g2 => Ne.symm (h a (a + t) (Nat.le_refl _) (by omega) (by omega)))
      have hz : om (fun i => p (a + 1 + i)) (p j) (w + 1) = 0 := om_z (fun i => p (a + 1 + i)) (l := w) (by show p j = p (a + 1 + w); rw [e, show a + 1 + w = a + w + 1 by omega]) (w + 1) (by omega)
      rw [hz, nb_mul_0] at hB
      rw [nb_x_eq hB, nN_s _ _ _ (w + 1), hz, nb_mul_0, nb_x0]
      exact ih (a + 1) (fun i k g1 g2 g3 => h i k (by omega) g2 (by omega)) j (by omega) (by omega)
/-- it goes through its points -/
theorem hv_at (p f : Nat → nb_F) {n : Nat} (hn : 0 < n) (h : ∀ i j, i < j → j < n → p i ≠ p j) {j : Nat} (hj : j < n) : hv p (dd p f (n - 1)) (p j) n 0 = f j := by
  rw [hv_all, nN_c (u := fun t => dq p f t 0) n (fun i hi => by
    rw [dd_eq]
    by_cases q : n - 1 ≤ i
    · rw [if_pos q, show i - (n - 1) = 0 by omega, show n - 1 = i by omega]
    · rw [if_neg q])]
  have e := nw_at p f (n - 1) 0 (fun i k _ g2 g3 => h i k g2 (by omega)) j (Nat.zero_le _) (by omega)
  rw [show n - 1 + 1 = n by omega] at e
  have e2 : (fun i => p (0 + i)) = p := by funext i; rw [Nat.zero_add]
  rw [e2] at e
  exact e
theorem pf_P.const (a : nb_F) : pf_P 1 (fun _ => a) := by
  have h := pf_P.one.sc a
  obtain ⟨c, hc⟩ := h
  exact ⟨c, fun x => by rw [← hc x]; dsimp only; rw [nb_mul_1]⟩
theorem hv_P (p s : Nat → nb_F) : ∀ d k, pf_P d (fun x => hv p s x d k)
  | 0, k => pf_P.zero 0
  | d + 1, k => by
    have h := ((hv_P p s d (k + 1)).lin (p k)).add ((pf_P.const (s k)).le (show 1 ≤ d + 1 by omega))
    obtain ⟨c, hc⟩ := h
    exact ⟨c, fun x => by rw [← hc x]; dsimp only; rw [hv_s, nb_comm]⟩
/-! by products: of the places of a set -/
def bN (j : Nat) : nb_F := BitVec.ofNat 64 j
theorem bN_ne {i j : Nat} (hi : i < 256) (hj : j < 256) (h : i ≠ j) : bN i ≠ bN j := fun z => h (by
  have e := congrArg BitVec.toNat z
  unfold bN at e
  rw [BitVec.toNat_ofNat, BitVec.toNat_ofNat] at e
  omega)
def lA (S : Nat → Bool) (k : Nat) (x : nb_F) : Nat → nb_F
  | 0 => 1
  | j + 1 => if j = k ∨ S j = false then lA S k x j else nb_mul (lA S k x j) (x ^^^ bN j)
theorem lA_0 (S : Nat → Bool) (k : Nat) (x : nb_F) : lA S k x 0 = 1 := rfl
theorem lA_s (S : Nat → Bool) (k : Nat) (x : nb_F) (j : Nat) : lA S k x (j + 1) = if j = k ∨ S j = false then lA S k x j else nb_mul (lA S k x j) (x ^^^ bN j) := rfl
noncomputable def lS (S : Nat → Bool) (P : Nat → nb_F) (x : nb_F) : Nat → nb_F
  | 0 => 0
  | k + 1 => if S k = true then lS S P x k ^^^ nb_mul (nb_mul (lA S k x 8) (nb_inv (lA S k (bN k) 8))) (P k) else lS S P x k
theorem lS_0 (S : Nat → Bool) (P : Nat → nb_F) (x : nb_F) : lS S P x 0 = 0 := rfl
theorem lS_s (S : Nat → Bool) (P : Nat → nb_F) (x : nb_F) (k : Nat) : lS S P x (k + 1) = if S k = true then lS S P x k ^^^ nb_mul (nb_mul (lA S k x 8) (nb_inv (lA S k (bN k) 8))) (P k) else lS S P x k := rfl
theorem lA_z {S : Nat → Bool} {k j : Nat} (hS : S j = true) (hjk : j ≠ k) : ∀ n, j < n → lA S k (bN j) n = 0
  | 0, h => absurd h (Nat.not_lt_zero _)
  | n + 1, h => by
    rw [lA_s]
    by_cases q : j = n
    · subst q
      rw [if_neg (by intro z; rcases z with z | z; exact hjk z; rw [hS] at z; cases z), nb_xx, nb_mul_0]
    · rw [lA_z hS hjk n (by omega), nb_0_mul]
      split <;> rfl
theorem lA_nz {S : Nat → Bool} {k : Nat} (hk : k < 8) : ∀ n, n ≤ 8 → lA S k (bN k) n ≠ 0
  | 0, _ => by rw [lA_0]; decide
  | n + 1, h => by
    rw [lA_s]
    have ih := lA_nz (S := S) hk n (by omega)
    by_cases q : n = k ∨ S n = false
    · rw [if_pos q]; exact ih
    · rw [if_neg q]
      intro z
      rcases nb_nz z with z | z
      · exact ih z
      · exact bN_ne (by omega) (by omega) (fun y => q (Or.inl y.symm)) (nb_x_eq z)
theorem lS_at {S : Nat → Bool} {P : Nat → nb_F} {j : Nat} (hj : j < 8) (hS : S j = true) : ∀ n, n ≤ 8 → lS S P (bN j) n = if j < n then P j else 0
  | 0, _ => rfl
  | n + 1, h => by
    rw [lS_s, lS_at hj hS n (by omega)]
    by_cases q : j = n
    · subst q
      rw [if_pos hS, nb_mul_inv (lA_nz hj 8 (by omega)), nb_1_mul, if_neg (by omega), if_pos (by omega), nb_0x]
    · by_cases s : S n = true
      · rw [if_pos s, lA_z hS q 8 hj, nb_0_mul, nb_0_mul, nb_x0]
        by_cases y : j < n
        · rw [if_pos y, if_pos (by omega)]
        · rw [if_neg y, if_neg (by omega)]
      · rw [if_neg s]
        by_cases y : j < n
        · rw [if_pos y, if_pos (by omega)]
        · rw [if_neg y, if_neg (by omega)]
/-- how many factors -/
def lC (S : Nat → Bool) (k : Nat) : Nat → Nat
  | 0 => 0
  | j + 1 => if j = k ∨ S j = false then lC S k j else lC S k j + 1
theorem lC_s (S : Nat → Bool) (k j : Nat) : lC S k (j + 1) = if j = k ∨ S j = false then lC S k j else lC S k j + 1 := rfl
theorem lA_P (S : Nat → Bool) (k : Nat) : ∀ n, pf_P (lC S k n + 1) (fun x => lA S k x n)
  | 0 => pf_P.one
  | n + 1 => by
    have ih := lA_P S k n
    rw [lC_s]
    by_cases q : n = k ∨ S n = false
    · rw [if_pos q]
      obtain ⟨c, hc⟩ := ih
      exact ⟨c, fun x => by rw [← hc x]; dsimp only; rw [lA_s, if_pos q]⟩
    · rw [if_neg q]
      obtain ⟨c, hc⟩ := ih.lin (bN n)
      exact ⟨c, fun x => by rw [← hc x]; dsimp only; rw [lA_s, if_neg q, nb_comm]⟩
theorem lS_P {S : Nat → Bool} (P : Nat → nb_F) {d : Nat} (h : ∀ k, k < 8 → S k = true → lC S k 8 < d) : ∀ n, n ≤ 8 → pf_P d (fun x => lS S P x n)
  | 0, _ => pf_P.zero d
  | n + 1, hn => by
    have ih := lS_P P h n (by omega)
    by_cases q : S n = true
    · have t := (((lA_P S n 8).le (show lC S n 8 + 1 ≤ d from h n (by omega) q)).sc (nb_mul (nb_inv (lA S n (bN n) 8)) (P n)))
      obtain ⟨c, hc⟩ := ih.add t
      exact ⟨c, fun x => by rw [← hc x]; dsimp only; rw [lS_s, if_pos q, nb_comm (nb_mul (nb_inv _) _), nb_assoc]⟩
    · obtain ⟨c, hc⟩ := ih
      exact ⟨c, fun x => by rw [← hc x]; dsimp only; rw [lS_s, if_neg q]⟩
