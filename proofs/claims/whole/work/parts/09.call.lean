/-- a call: some contract of the callee, and what follows out of it -/
def jCall (E : jEnv) (M : jM) (n : Nat) (av : List Value) (h : HP) (K : Option Value → HP → Prop) : Prop := ∃ P1 : Option Value → HP → Prop, jC E M n av h P1 ∧ ∀ (v : Option Value) (h2 : HP), P1 v h2 → K v h2
theorem jPI_at {h : HP} {k j : Nat} {x : Int32} : (jPI h k j x).1 k j = x := by simp [jPI, va_up, upd]
theorem jPL_at {h : HP} {k j : Nat} {x : Int64} : (jPL h k j x).2 k j = x := by simp [jPL, va_up, vp_updL]
