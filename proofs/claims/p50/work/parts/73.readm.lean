/-! the model reads a text -/
/-- what the model sees at a place -/
def mq (m m1 : qm_M) : Prop := (∀ a, a ≠ 112 → a ≠ 130 → a ≠ 131 → a ≠ 132 → m1.1 a = m.1 a) ∧ (∀ i, i < 25 → m1.1 112 i = m.1 112 i) ∧ ∀ a, a ≠ 112 → m1.2 a = m.2 a
