section ALL
variable {V : Mm} {o : Nat → Int64} {D : Nat → UInt64} {a1 a2 a3 : Int32}
theorem V00_0 {c j : Nat} (h : ¬ (9 ≤ c ∧ c < 29)) : V00 c j = 0 := if_neg h
/-- a new object's memory -/
theorem JJ_00 : JJ V00 := by
  refine ⟨0, 0, fun _ => 0, fun _ => 0, fun _ => 0, fun _ => False, fun _ => False, fun _ => 0, ?_⟩
  have no : ∀ {P : Nat → Prop} (e : Nat), e < 0 → P e := fun e he => absurd he (Nat.not_lt_zero e)
  refine ⟨⟨by decide, by decide, V00_0 (by omega), V00_0 (by omega), no, no, no, no, no, no, no, no, fun e h => h.elim⟩, ⟨by decide, by decide, V00_0 (by omega), V00_0 (by omega), no, no, no, no, no, no, no, no, fun e h => h.elim⟩, ⟨fun u v hu hv => Or.inr ⟨fun e h => h.elim, ?_⟩, V00_0 (by omega), V00_0 (by omega), fun e h => h.elim, fun e h => h.elim⟩, ⟨fun e h => h.elim, fun e h => h.elim, fun e h => h.elim⟩, no, no, no, no, fun u v hu => absurd hu (Nat.not_lt_zero u)⟩
  show (if 9 ≤ 9 + u ∧ 9 + u < 29 then (if v < 20 then (-1 : Int32) else 0) else 0) = -1
  rw [if_pos (by omega), if_pos hv]
theorem wp_cases (hJ : JJ V) (j : Nat) : wp_case V o D a1 a2 a3 JJ j := by
  unfold wp_case
  split
  · exact j_0 hJ
  · exact j_1 hJ
  · exact j_2 hJ
  · exact j_3 hJ
  · exact j_4 hJ
  · exact j_5 hJ
  · exact j_6 hJ
  · exact j_7 hJ
  · exact j_8 hJ
  · exact j_9 hJ
  · exact j_10 hJ
  · exact j_11 hJ
  · exact j_12 hJ
  · exact j_13 hJ
  · exact j_14 hJ
  · exact j_15 hJ
  · exact j_16 hJ
  · exact j_17 hJ
  · exact j_18 hJ
  · exact j_19 hJ
  · exact j_20 hJ
  · exact j_21 hJ
  · exact j_22 hJ
  · exact j_23 hJ
  · exact j_24 hJ
  · exact j_25 hJ
  · exact j_26 hJ
  · exact j_27 hJ
  · exact j_28 hJ
  · exact j_29 hJ
  · exact j_30 hJ
  · exact j_31 hJ
  · exact j_32 hJ
  · exact j_33 hJ
  · exact j_34 hJ
  · exact j_35 hJ
  · exact j_36 hJ
  · exact j_37 hJ
  · exact j_38 hJ
  · exact j_39 hJ
  · exact j_40 hJ
  · exact j_41 hJ
  · exact j_42 hJ
  · exact j_43 hJ
  · exact j_44 hJ
  · exact hJ
/-- an invariant of the memory, kept by every call, under which class and reference answer alike -/
theorem wp_all : ∃ J : Mm → Prop, J V00 ∧ ∀ (V : Mm), J V → ∀ (o : Nat → Int64) (D : Nat → UInt64) (a1 a2 a3 : Int32) (j : Nat), wp_case V o D a1 a2 a3 J j :=
  ⟨JJ, JJ_00, fun _ hJ _ _ _ _ _ j => wp_cases hJ j⟩
end ALL
