/-! a run makes the heap longer, or leaves it; methods that are not constructors leave it -/
def ps_Pl (md : pm_M) (h1 h : pm_H) : Prop := h.length ≤ h1.length ∧ pm_sl h ≤ pm_sl h1 ∧ (pm_al md = false → h.length = h1.length ∧ pm_sl h = pm_sl h1)
theorem ps_Pl.set {md : pm_M} {h1 h : pm_H} {o : Nat} {c c1 : va_E} (g : h[o]? = some c) (e : pm_sz c1 = pm_sz c) (p : ps_Pl md h1 (h.set o c1)) : ps_Pl md h1 h := by
  unfold ps_Pl at p ⊢
  rw [List.length_set, ps_sl_set g e] at p
  exact p
theorem ps_Pl.app {md : pm_M} {h1 h k : pm_H} (al : pm_al md = true) (p : ps_Pl md h1 (h ++ k)) : ps_Pl md h1 h := by
  unfold ps_Pl at p ⊢
  rw [List.length_append, ps_sl_app] at p
  refine ⟨by omega, by omega, fun q => ?_⟩
  rw [al] at q
  cases q
def ps_CL (C : pm_C) : Prop := ∀ k as h r h1, C k as h r h1 → h.length ≤ h1.length ∧ pm_sl h ≤ pm_sl h1 ∧ (pm_mal k = false → h.length = h1.length ∧ pm_sl h = pm_sl h1)
theorem ps_Pl.call {md : pm_M} {h1 h h2 : pm_H} {k : Nat} {hb sb : Nat} (c : h.length ≤ h2.length ∧ pm_sl h ≤ pm_sl h2 ∧ (pm_mal k = false → h.length = h2.length ∧ pm_sl h = pm_sl h2)) (q : pm_mal k = false ∨ pm_al md = true ∧ h2.length ≤ hb ∧ pm_sl h2 ≤ sb) (p : ps_Pl md h1 h2) : ps_Pl md h1 h := by
  unfold ps_Pl at p ⊢
  obtain ⟨p1, p2, p3⟩ := p
  obtain ⟨c1, c2, c3⟩ := c
  refine ⟨by omega, by omega, fun z => ?_⟩
  obtain ⟨z1, z2⟩ := p3 z
  rcases q with q | q
  · obtain ⟨w1, w2⟩ := c3 q
    omega
  · rw [q.1] at z
    cases z
theorem ps_sz_in : ∀ (fs fs1 : List Value) (a k : Nat) (v : Value), pm_set fs k v = some fs1 → pm_sz (.inr (a, fs1)) = pm_sz (.inr (a, fs)) := fun fs fs1 a k v h => by
  obtain ⟨_, h2⟩ := ps_set_eq fs k v some fs1 h
  cases h2
  show (fs.set k v).length = fs.length
  rw [List.length_set]
set_option maxRecDepth 20000 in
theorem ps_lenR {kp : pm_K} {md : pm_M} {C : pm_C} {hb sb : Nat} {r : Option Value} {h1 : pm_H} (hC : ps_CL C) : pm_R kp md C hb sb (fun r2 h2 => r2 = r ∧ h2 = h1) (fun _ _ _ h => ps_Pl md h1 h) := by
  refine ⟨?_, ?_, ?_, ?_, ?_, ?_, ?_, ?_, ?_, ?_, ?_, ?_, ?_, ?_, ?_, ?_, ?_, ?_, ?_, ?_, ?_, ?_, ?_, ?_, ?_, ?_, ?_, ?_, ?_, ?_, ?_, ?_, ?_, ?_, ?_, ?_, ?_, ?_, ?_, ?_, ?_, ?_, ?_, ?_, ?_, ?_, ?_, ?_, ?_, ?_, ?_, ?_, ?_, ?_, ?_, ?_, ?_, ?_, ?_⟩
  · exact fun pc nx a b lv st h i v g0 g1 g2 => g2
  · exact fun pc nx a b lv st h i v g0 g1 g2 g3 => g3
  · exact fun pc nx a b lv st h i v k j g0 g1 g2 g3 => g3
  · exact fun pc nx a b lv st h i v k lv1 g0 g1 g2 g3 => g3
  · exact fun pc nx a b lv st h i v x y g0 g1 g2 => g2
  · exact fun pc nx a b lv st h i v x y c g0 g1 g2 g3 => g3
  · exact fun pc nx a b lv st h i v x g0 g1 g2 => g2
  · exact fun pc nx a b lv st h i st1 g0 g1 g2 => g2
  · exact fun pc nx a b lv st h k n x lv1 j g0 g1 g2 g3 => g3
  · exact fun pc nx a b lv st h n g0 g1 => g1
  · exact fun pc nx a b lv st h c n x g0 g1 g2 => by
      by_cases q : pm_cnd c x 0
      · exact g1 q
      · exact g2 q
  · exact fun pc nx a b lv st h c n x y g0 g1 g2 => by
      by_cases q : pm_cnd c x y
      · exact g1 q
      · exact g2 q
  · exact fun pc nx a b lv st h d lo hi os x t g0 g1 g2 g3 => g3
  · exact fun pc nx a b lv st h d lo hi off os x t g0 g1 g2 g3 g4 g5 => g5
  · exact fun pc nx a b lv st h d ps x t g0 g1 g2 g3 => g3
  · exact fun pc nx a b lv st h n o fs v g0 g1 g2 g3 => g3
  · exact fun pc nx a b lv st h n o v g0 g1 g2 g3 => g3
  · exact fun pc nx a b lv st h n o fs fs1 v ty g0 g1 g2 g3 g4 g5 => ps_Pl.set g1 (ps_sz_in _ _ _ _ _ g4) g5
  · exact fun pc nx a b lv st h n o fs fs1 v ty g0 g1 g2 g3 g4 g5 g6 => ps_Pl.set g1 (ps_sz_in _ _ _ _ _ g5) g6
  · exact fun pc nx a b lv st h o n f j g0 g1 g2 g3 => g3
  · exact fun pc nx a b lv st h o n f j g0 g1 g2 g3 => g3
  · exact fun pc nx a b lv st h o n f j g0 g1 g2 g3 => g3
  · exact fun pc nx a b lv st h o n f j g0 g1 g2 g3 => g3
  · exact fun pc nx a b lv st h o n r f j t g0 g1 g2 g3 g4 g5 => g5
  · exact fun pc nx a b lv st h o n f j g0 g1 g2 g3 => g3
  · exact fun pc nx a b lv st h o n f j g0 g1 g2 g3 => g3
  · exact fun pc nx a b lv st h o n f j g0 g1 g2 g3 => g3
  · exact fun pc nx a b lv st h o n t x g0 g1 g2 => g2
  · exact fun pc nx a b lv st h o n f j x g0 g1 g2 g3 => ps_Pl.set g1 (by rfl) g3
  · exact fun pc nx a b lv st h o n f j x g0 g1 g2 g3 => ps_Pl.set g1 (by rfl) g3
  · exact fun pc nx a b lv st h o n f j x g0 g1 g2 g3 => ps_Pl.set g1 (by rfl) g3
  · exact fun pc nx a b lv st h o n f j x g0 g1 g2 g3 => ps_Pl.set g1 (by rfl) g3
  · exact fun pc nx a b lv st h o n r f j fs g0 g1 g2 g3 g4 => ps_Pl.set g1 (by rfl) g4
  · exact fun pc nx a b lv st h o n t x g0 g1 g2 g3 => g3
  · exact fun pc nx a b lv st h n fs g0 g1 g2 g3 g4 g5 g6 => ps_Pl.app g1 g6
  · exact fun pc nx a b lv st h ty n N g0 g1 g2 g3 g4 g5 g6 g7 g8 => ps_Pl.app g1 g8
  · exact fun pc nx a b lv st h i n N g0 g1 g2 g3 g4 g5 g6 g7 g8 g9 => ps_Pl.app g2 g9
  · exact fun pc nx a b lv st h i n m N M g0 g1 g2 g3 g4 g5 g6 g7 g8 g9 g10 g11 g12 => ps_Pl.app g2 g12
  · exact fun pc nx a b lv st h i n as rest r h1 g0 g1 g2 g3 g4 g5 g6 g7 => ps_Pl.call (hC _ _ _ _ _ g6) g5 g7
  · exact fun pc nx a b lv st h i n o ci as rest fs r h1 g0 g1 g2 g3 g4 g5 g6 g7 g8 => ps_Pl.call (hC _ _ _ _ _ g7) g6 g8
  · exact fun pc nx a b lv st h n o as rest r h1 g0 g1 g2 g3 g4 g5 g6 g7 g8 g9 => ps_Pl.call (hb := 0) (sb := 0) (hC _ _ _ _ _ g8) (Or.inl g7) g9
  · exact fun pc nx a b lv st h n o N f g0 g1 g2 g3 g4 g5 g6 g7 g8 g9 => ps_Pl.app g3 g9
  · exact fun pc nx a b lv st h n o x g0 g1 g2 g3 => g3
  · exact fun pc nx a b lv st h o n r f j g0 g1 g2 g3 g4 g5 => ps_Pl.set g1 (by rfl) g5
  · exact fun pc nx a b lv st h o n r f j x g0 g1 g2 g3 g4 => ps_Pl.set g1 (by rfl) g4
  · exact fun pc nx a b lv st h n o g0 g1 => g1
  · exact fun pc nx a b lv st h n o as rest fs r h1 g0 g1 g2 g3 g4 g5 g6 g7 => ps_Pl.call (hC _ _ _ _ _ g6) g5 g7
  · exact fun pc nx a b lv st h n o as rest fs r h1 g0 g1 g2 g3 g4 g5 g6 g7 => ps_Pl.call (hC _ _ _ _ _ g6) g5 g7
  · exact fun pc nx a b lv st h n c o as rest fs r h1 g0 g1 g2 g3 g4 g5 g6 g7 => ps_Pl.call (hC _ _ _ _ _ g6) g5 g7
  · exact fun pc nx a b lv st h n o b0 n0 n1 f g sp dp k g0 g1 g2 g3 g4 g5 g6 g7 g8 g9 g10 => ps_Pl.set g3 (by rfl) g10
  · exact fun pc nx a b lv st h n x y g0 g1 g2 g3 => g3
  · exact fun pc nx a b lv st h n x y g0 g1 g2 g3 => g3
  · exact fun pc nx a b lv st h n o g0 g1 g2 g3 => g3
  · exact fun pc nx a b lv h v ty g0 g1 g2 g3 => by
      obtain ⟨-, e⟩ := g3
      rw [e]
      exact ⟨Nat.le_refl _, Nat.le_refl _, fun _ => ⟨rfl, rfl⟩⟩
  · exact fun pc nx a b lv h v g0 g1 g2 => by
      obtain ⟨-, e⟩ := g2
      rw [e]
      exact ⟨Nat.le_refl _, Nat.le_refl _, fun _ => ⟨rfl, rfl⟩⟩
  · exact fun pc nx a b lv h o n g0 g1 g2 => by
      obtain ⟨-, e⟩ := g2
      rw [e]
      exact ⟨Nat.le_refl _, Nat.le_refl _, fun _ => ⟨rfl, rfl⟩⟩
  · exact fun pc nx a b lv h g0 g1 g2 => by
      obtain ⟨-, e⟩ := g2
      rw [e]
      exact ⟨Nat.le_refl _, Nat.le_refl _, fun _ => ⟨rfl, rfl⟩⟩
  · exact fun pc nx a b lv st h n v g0 g1 g2 => g2
  · exact fun pc nx a b lv st h ks lv1 g0 g1 => g1
theorem ps_lenX {kp : pm_K} : ∀ d, ps_CL (pm_X kp d)
  | 0 => fun _ _ _ _ _ h => False.elim h
  | d + 1 => fun k as h r h1 ⟨md, hk, _, w⟩ => by
    have p := w _ (ps_lenR (ps_lenX d))
    refine ⟨p.1, p.2.1, fun q => p.2.2 ?_⟩
    unfold pm_mal at q
    rw [hk] at q
    exact q
