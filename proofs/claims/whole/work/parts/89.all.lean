/-- what is left: an invariant of the memory, kept by every call, under which class and reference answer alike -/
theorem wp_all : ∃ J : Mm → Prop, J V00 ∧ ∀ (V : Mm), J V → ∀ (o : Nat → Int64) (D : Nat → UInt64) (a1 a2 a3 : Int32) (j : Nat), wp_case V o D a1 a2 a3 J j := by
  sorry
