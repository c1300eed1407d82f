def wp_X8_requireVertex (V : Mm) (a0 : Int32) (post : Mm → Prop) (px : String → Mm → Prop) : Prop := (wp_X3_hasVertex V (a0) (fun (r2 : Int32) (V1 : Mm) => ((r2 = 0 → px "java/lang/IndexOutOfBoundsException" V1) ∧ (¬ r2 = 0 → post V1))))
set_option maxHeartbeats 4000000 in
theorem c_X8_requireVertex (d : Nat) (hd : 6 ≤ d) (l : Launch) (hl : l.stackTraces = false) (g : ab_G) (o : Nat → Int64) (D : Nat → UInt64) (a0 : Int32) {V : Mm} {px : String → Mm → Prop} {post : Mm → Prop} (h : wp_X8_requireVertex V a0 post px) : Ct l g tk_strs False d 1 6 yX8_requireVertex cX8_requireVertex 2 none [.ref 0, .int a0] (SW V o D) (tk_V g (fun u => ∃ V : Mm, u = SW V o D ∧ post V)) (fun E u => ∃ V : Mm, u = SW V o D ∧ px E V) := by
  refine ct_in (by decide +kernel) (show 2 ≤ 2 by decide) (by simp [Value.category]) hl (fun X I O _ => ?_)
  show Ab X g 0 0 _ 0 [some (.ref (0)), some (.int (a0))] [] _
  refine ab_aload_n O 0 dX8_requireVertex_0 rfl rfl ?_
  refine ab_get O fl_X8_10 dX8_requireVertex_1 (at_0 _ _ _) rfl ?_
  refine ab_iload_n O 1 dX8_requireVertex_4 rfl rfl ?_
  refine ab_callvI O I.2.2.2.2.2.2 (fr := False) (st := []) lk_X8_304 rfl (at_1 _ _ _) dX8_requireVertex_5 (c_X3_hasVertex (d - 1) (by omega) _ O.2.2.2.2.2.2.1 _ _ _ _ h) rfl rfl ⟨by rw [I.2.1]; show d - 1 + 1 ≤ d; omega, by rw [I.2.1]; show 8 + (_ + 11) + 36 * (d - 1) ≤ 36 * d; omega⟩ (show 0 ≤ 8 by decide) ⟨by rw [I.2.1]; show 0 + 0 ≤ 1; decide, by rw [I.2.1]; show 0 + 0 ≤ 6; decide⟩ (fun q => q.elim) (fun E u q => q.elim) (fun r2 u hu => ?_)
  obtain ⟨V1, rfl, h⟩ := hu
  refine ab_if_ne O 22 dX8_requireVertex_8 rfl (fun q3 => ?_) (fun q3 => ?_)
  · have h := h.2 q3
    exact ab_return O I dX8_requireVertex_22 (by decide) (by decide) ⟨_, rfl, h⟩
  · have h := h.1 q3
    exact ab_throwW O I th_X8_307 (show (RX8, 309, "there is no such vertex") ∈ tk_strs by decide +kernel) dX8_requireVertex_11 dX8_requireVertex_14 dX8_requireVertex_15 dX8_requireVertex_18 dX8_requireVertex_21 (show 5 < d by omega) (show 0 + 82 ≤ 36 * d by omega) (show 0 + 1 ≤ 1 by decide) (show 0 + 6 ≤ 6 by decide) ⟨_, rfl, h⟩

def wp_X8_requireVertices (V : Mm) (a0 a1 : Int32) (post : Mm → Prop) (px : String → Mm → Prop) : Prop := (wp_X8_requireVertex V (a0) (fun (V1 : Mm) => (wp_X8_requireVertex V1 (a1) (fun (V2 : Mm) => post V2) px)) px)
set_option maxHeartbeats 4000000 in
theorem c_X8_requireVertices (d : Nat) (hd : 7 ≤ d) (l : Launch) (hl : l.stackTraces = false) (g : ab_G) (o : Nat → Int64) (D : Nat → UInt64) (a0 : Int32) (a1 : Int32) {V : Mm} {px : String → Mm → Prop} {post : Mm → Prop} (h : wp_X8_requireVertices V a0 a1 post px) : Ct l g tk_strs False d 2 12 yX8_requireVertices cX8_requireVertices 3 none [.ref 0, .int a0, .int a1] (SW V o D) (tk_V g (fun u => ∃ V : Mm, u = SW V o D ∧ post V)) (fun E u => ∃ V : Mm, u = SW V o D ∧ px E V) := by
  refine ct_in (by decide +kernel) (show 3 ≤ 3 by decide) (by simp [Value.category]) hl (fun X I O _ => ?_)
  show Ab X g 0 0 _ 0 [some (.ref (0)), some (.int (a0)), some (.int (a1))] [] _
  refine ab_aload_n O 0 dX8_requireVertices_0 rfl rfl ?_
  refine ab_iload_n O 1 dX8_requireVertices_1 rfl rfl ?_
  refine ab_callvV O I.2.2.2.2.2.2 (fr := False) (st := []) lk_X8_92 rfl (at_0 _ _ _) dX8_requireVertices_2 (c_X8_requireVertex (d - 1) (by omega) _ O.2.2.2.2.2.2.1 _ _ _ _ h) rfl rfl ⟨by rw [I.2.1]; show d - 1 + 1 ≤ d; omega, by rw [I.2.1]; show 8 + (_ + 11) + 36 * (d - 1) ≤ 36 * d; omega⟩ (show 0 ≤ 8 by decide) ⟨by rw [I.2.1]; show 0 + 1 ≤ 2; decide, by rw [I.2.1]; show 0 + 6 ≤ 12; decide⟩ (fun q => q.elim) (fun E u q => by obtain ⟨V9, rfl, q⟩ := q; exact abx_out O I (by decide) (by decide) ⟨V9, rfl, q⟩) (fun u hu => ?_)
  obtain ⟨V1, rfl, h⟩ := hu
  refine ab_aload_n O 0 dX8_requireVertices_5 rfl rfl ?_
  refine ab_iload_n O 2 dX8_requireVertices_6 rfl rfl ?_
  refine ab_callvV O I.2.2.2.2.2.2 (fr := False) (st := []) lk_X8_92 rfl (at_0 _ _ _) dX8_requireVertices_7 (c_X8_requireVertex (d - 1) (by omega) _ O.2.2.2.2.2.2.1 _ _ _ _ h) rfl rfl ⟨by rw [I.2.1]; show d - 1 + 1 ≤ d; omega, by rw [I.2.1]; show 8 + (_ + 11) + 36 * (d - 1) ≤ 36 * d; omega⟩ (show 0 ≤ 8 by decide) ⟨by rw [I.2.1]; show 1 + 1 ≤ 2; decide, by rw [I.2.1]; show 6 + 6 ≤ 12; decide⟩ (fun q => q.elim) (fun E u q => by obtain ⟨V9, rfl, q⟩ := q; exact abx_out O I (by decide) (by decide) ⟨V9, rfl, q⟩) (fun u hu => ?_)
  obtain ⟨V2, rfl, h⟩ := hu
  exact ab_return O I dX8_requireVertices_10 (by decide) (by decide) ⟨_, rfl, h⟩

def wp_X8_isBetween (V : Mm) (a0 a1 a2 : Int32) (post : Int32 → Mm → Prop) : Prop := ((a0 < a1 → post 0 V) ∧ (¬ a0 < a1 → ((a2 < a0 → post 0 V) ∧ (¬ a2 < a0 → post 1 V))))
set_option maxHeartbeats 4000000 in
theorem c_X8_isBetween (d : Nat) (hd : 0 ≤ d) (l : Launch) (hl : l.stackTraces = false) (g : ab_G) (o : Nat → Int64) (D : Nat → UInt64) (a0 : Int32) (a1 : Int32) (a2 : Int32) {V : Mm} {post : Int32 → Mm → Prop} (h : wp_X8_isBetween V a0 a1 a2 post) : Ct l g tk_strs False d 0 0 yX8_isBetween cX8_isBetween 3 (some .boolean) [.int a0, .int a1, .int a2] (SW V o D) (tk_I g (fun r u => ∃ V : Mm, u = SW V o D ∧ post r V)) (fun _ _ => False) := by
  refine ct_in (by decide +kernel) (show 3 ≤ 3 by decide) (by simp [Value.category]) hl (fun X I O _ => ?_)
  show Ab X g 0 0 _ 0 [some (.int (a0)), some (.int (a1)), some (.int (a2))] [] _
  refine ab_iload_n O 0 dX8_isBetween_0 rfl rfl ?_
  refine ab_iload_n O 1 dX8_isBetween_1 rfl rfl ?_
  refine ab_icmp_lt O 14 dX8_isBetween_2 rfl (fun q1 => ?_) (fun q1 => ?_)
  · have h := h.1 q1
    refine ab_iconst O 0 dX8_isBetween_14 rfl ?_
    exact ab_ireturn O I dX8_isBetween_15 (by decide) (by decide) (by rfl) ⟨_, rfl, h⟩
  · have h := h.2 q1
    refine ab_iload_n O 0 dX8_isBetween_5 rfl rfl ?_
    refine ab_iload_n O 2 dX8_isBetween_6 rfl rfl ?_
    refine ab_icmp_gt O 14 dX8_isBetween_7 rfl (fun q2 => ?_) (fun q2 => ?_)
    · have h := h.1 q2
      refine ab_iconst O 0 dX8_isBetween_14 rfl ?_
      exact ab_ireturn O I dX8_isBetween_15 (by decide) (by decide) (by rfl) ⟨_, rfl, h⟩
    · have h := h.2 q2
      refine ab_iconst O 1 dX8_isBetween_10 rfl ?_
      refine ab_goto O 15 dX8_isBetween_11 rfl ?_
      exact ab_ireturn O I dX8_isBetween_15 (by decide) (by decide) (by rfl) ⟨_, rfl, h⟩

def wp_X8_requireWeight (V : Mm) (a0 : Int32) (post : Mm → Prop) (px : String → Mm → Prop) : Prop := (wp_X8_isBetween V (a0) (1) (99) (fun (r2 : Int32) (V1 : Mm) => ((r2 = 0 → px "java/lang/IllegalArgumentException" V1) ∧ (¬ r2 = 0 → post V1))))
set_option maxHeartbeats 4000000 in
theorem c_X8_requireWeight (d : Nat) (hd : 6 ≤ d) (l : Launch) (hl : l.stackTraces = false) (g : ab_G) (o : Nat → Int64) (D : Nat → UInt64) (a0 : Int32) {V : Mm} {px : String → Mm → Prop} {post : Mm → Prop} (h : wp_X8_requireWeight V a0 post px) : Ct l g tk_strs False d 1 6 yX8_requireWeight cX8_requireWeight 1 none [.int a0] (SW V o D) (tk_V g (fun u => ∃ V : Mm, u = SW V o D ∧ post V)) (fun E u => ∃ V : Mm, u = SW V o D ∧ px E V) := by
  refine ct_in (by decide +kernel) (show 1 ≤ 1 by decide) (by simp [Value.category]) hl (fun X I O _ => ?_)
  show Ab X g 0 0 _ 0 [some (.int (a0))] [] _
  refine ab_iload_n O 0 dX8_requireWeight_0 rfl rfl ?_
  refine ab_iconst O 1 dX8_requireWeight_1 rfl ?_
  refine ab_bipush O 99 dX8_requireWeight_2 rfl ?_
  refine ab_callsI O I.2.2.2.2.2.2 (fr := False) (st := []) lk_X8_138 dX8_requireWeight_4 (c_X8_isBetween (d - 1) (by omega) _ O.2.2.2.2.2.2.1 _ _ _ _ _ _ h) rfl rfl ⟨by rw [I.2.1]; show d - 1 + 1 ≤ d; omega, by rw [I.2.1]; show 8 + (_ + 11) + 36 * (d - 1) ≤ 36 * d; omega⟩ (show 0 ≤ 8 by decide) ⟨by rw [I.2.1]; show 0 + 0 ≤ 1; decide, by rw [I.2.1]; show 0 + 0 ≤ 6; decide⟩ (fun q => q.elim) (fun E u q => q.elim) (fun r2 u hu => ?_)
  obtain ⟨V1, rfl, h⟩ := hu
  refine ab_if_ne O 21 dX8_requireWeight_7 rfl (fun q3 => ?_) (fun q3 => ?_)
  · have h := h.2 q3
    exact ab_return O I dX8_requireWeight_21 (by decide) (by decide) ⟨_, rfl, h⟩
  · have h := h.1 q3
    exact ab_throwW O I th_X8_142 (show (RX8, 300, "the weight is not between 1 and 99") ∈ tk_strs by decide +kernel) dX8_requireWeight_10 dX8_requireWeight_13 dX8_requireWeight_14 dX8_requireWeight_17 dX8_requireWeight_20 (show 5 < d by omega) (show 0 + 82 ≤ 36 * d by omega) (show 0 + 1 ≤ 1 by decide) (show 0 + 6 ≤ 6 by decide) ⟨_, rfl, h⟩

def wp_X8_requireDifferent (V : Mm) (a0 a1 : Int32) (post : Mm → Prop) (px : String → Mm → Prop) : Prop := ((a0 = a1 → px "java/lang/UnsupportedOperationException" V) ∧ (¬ a0 = a1 → post V))
set_option maxHeartbeats 4000000 in
theorem c_X8_requireDifferent (d : Nat) (hd : 6 ≤ d) (l : Launch) (hl : l.stackTraces = false) (g : ab_G) (o : Nat → Int64) (D : Nat → UInt64) (a0 : Int32) (a1 : Int32) {V : Mm} {px : String → Mm → Prop} {post : Mm → Prop} (h : wp_X8_requireDifferent V a0 a1 post px) : Ct l g tk_strs False d 1 6 yX8_requireDifferent cX8_requireDifferent 2 none [.int a0, .int a1] (SW V o D) (tk_V g (fun u => ∃ V : Mm, u = SW V o D ∧ post V)) (fun E u => ∃ V : Mm, u = SW V o D ∧ px E V) := by
  refine ct_in (by decide +kernel) (show 2 ≤ 2 by decide) (by simp [Value.category]) hl (fun X I O _ => ?_)
  show Ab X g 0 0 _ 0 [some (.int (a0)), some (.int (a1))] [] _
  refine ab_iload_n O 0 dX8_requireDifferent_0 rfl rfl ?_
  refine ab_iload_n O 1 dX8_requireDifferent_1 rfl rfl ?_
  refine ab_icmp_ne O 16 dX8_requireDifferent_2 rfl (fun q1 => ?_) (fun q1 => ?_)
  · have h := h.2 q1
    exact ab_return O I dX8_requireDifferent_16 (by decide) (by decide) ⟨_, rfl, h⟩
  · have h := h.1 q1
    exact ab_throwW O I th_X8_245 (show (RX8, 302, "both vertices are the same") ∈ tk_strs by decide +kernel) dX8_requireDifferent_5 dX8_requireDifferent_8 dX8_requireDifferent_9 dX8_requireDifferent_12 dX8_requireDifferent_15 (show 5 < d by omega) (show 0 + 82 ≤ 36 * d by omega) (show 0 + 1 ≤ 1 by decide) (show 0 + 6 ≤ 6 by decide) ⟨_, rfl, h⟩

def wp_X8_addEdge (V : Mm) (a0 a1 a2 : Int32) (post : Int32 → Mm → Prop) (px : String → Mm → Prop) : Prop := (wp_X8_requireVertices V (a0) (a1) (fun (V1 : Mm) => (wp_X8_requireWeight V1 (a2) (fun (V2 : Mm) => (wp_X8_requireDifferent V2 (a0) (a1) (fun (V3 : Mm) => (wp_X3_edgeCount V3 (fun (r5 : Int32) (V4 : Mm) => ((r5 < 60 → (wp_X3_appendEdge V4 (a0) (a1) (a2) (fun (r8 : Int32) (V7 : Mm) => (wp_X2_admit V7 (r8) (fun (V9 : Mm) => post r8 V9))))) ∧ (¬ r5 < 60 → px "java/lang/IllegalStateException" V4))))) px)) px)) px)
set_option maxHeartbeats 4000000 in
theorem c_X8_addEdge (d : Nat) (hd : 8 ≤ d) (l : Launch) (hl : l.stackTraces = false) (g : ab_G) (o : Nat → Int64) (D : Nat → UInt64) (a0 : Int32) (a1 : Int32) (a2 : Int32) {V : Mm} {px : String → Mm → Prop} {post : Int32 → Mm → Prop} (h : wp_X8_addEdge V a0 a1 a2 post px) : Ct l g tk_strs False d 5 30 yX8_addEdge cX8_addEdge 5 (some .int) [.ref 0, .int a0, .int a1, .int a2] (SW V o D) (tk_I g (fun r u => ∃ V : Mm, u = SW V o D ∧ post r V)) (fun E u => ∃ V : Mm, u = SW V o D ∧ px E V) := by
  refine ct_in (by decide +kernel) (show 4 ≤ 5 by decide) (by simp [Value.category]) hl (fun X I O _ => ?_)
  show Ab X g 0 0 _ 0 [some (.ref (0)), some (.int (a0)), some (.int (a1)), some (.int (a2)), none] [] _
  refine ab_aload_n O 0 dX8_addEdge_0 rfl rfl ?_
  refine ab_iload_n O 1 dX8_addEdge_1 rfl rfl ?_
  refine ab_iload_n O 2 dX8_addEdge_2 rfl rfl ?_
  refine ab_callvV O I.2.2.2.2.2.2 (fr := False) (st := []) lk_X8_102 rfl (at_0 _ _ _) dX8_addEdge_3 (c_X8_requireVertices (d - 1) (by omega) _ O.2.2.2.2.2.2.1 _ _ _ _ _ h) rfl rfl ⟨by rw [I.2.1]; show d - 1 + 1 ≤ d; omega, by rw [I.2.1]; show 8 + (_ + 11) + 36 * (d - 1) ≤ 36 * d; omega⟩ (show 0 ≤ 8 by decide) ⟨by rw [I.2.1]; show 0 + 2 ≤ 5; decide, by rw [I.2.1]; show 0 + 12 ≤ 30; decide⟩ (fun q => q.elim) (fun E u q => by obtain ⟨V9, rfl, q⟩ := q; exact abx_out O I (by decide) (by decide) ⟨V9, rfl, q⟩) (fun u hu => ?_)
  obtain ⟨V1, rfl, h⟩ := hu
  refine ab_iload_n O 3 dX8_addEdge_6 rfl rfl ?_
  refine ab_callsV O I.2.2.2.2.2.2 (fr := False) (st := []) lk_X8_105 dX8_addEdge_7 (c_X8_requireWeight (d - 1) (by omega) _ O.2.2.2.2.2.2.1 _ _ _ _ h) rfl rfl ⟨by rw [I.2.1]; show d - 1 + 1 ≤ d; omega, by rw [I.2.1]; show 8 + (_ + 11) + 36 * (d - 1) ≤ 36 * d; omega⟩ (show 0 ≤ 8 by decide) ⟨by rw [I.2.1]; show 2 + 1 ≤ 5; decide, by rw [I.2.1]; show 12 + 6 ≤ 30; decide⟩ (fun q => q.elim) (fun E u q => by obtain ⟨V9, rfl, q⟩ := q; exact abx_out O I (by decide) (by decide) ⟨V9, rfl, q⟩) (fun u hu => ?_)
  obtain ⟨V2, rfl, h⟩ := hu
  refine ab_iload_n O 1 dX8_addEdge_10 rfl rfl ?_
  refine ab_iload_n O 2 dX8_addEdge_11 rfl rfl ?_
  refine ab_callsV O I.2.2.2.2.2.2 (fr := False) (st := []) lk_X8_108 dX8_addEdge_12 (c_X8_requireDifferent (d - 1) (by omega) _ O.2.2.2.2.2.2.1 _ _ _ _ _ h) rfl rfl ⟨by rw [I.2.1]; show d - 1 + 1 ≤ d; omega, by rw [I.2.1]; show 8 + (_ + 11) + 36 * (d - 1) ≤ 36 * d; omega⟩ (show 0 ≤ 8 by decide) ⟨by rw [I.2.1]; show 3 + 1 ≤ 5; decide, by rw [I.2.1]; show 18 + 6 ≤ 30; decide⟩ (fun q => q.elim) (fun E u q => by obtain ⟨V9, rfl, q⟩ := q; exact abx_out O I (by decide) (by decide) ⟨V9, rfl, q⟩) (fun u hu => ?_)
  obtain ⟨V3, rfl, h⟩ := hu
  refine ab_aload_n O 0 dX8_addEdge_15 rfl rfl ?_
  refine ab_get O fl_X8_10 dX8_addEdge_16 (at_0 _ _ _) rfl ?_
  refine ab_callvI O I.2.2.2.2.2.2 (fr := False) (st := []) lk_X8_111 rfl (at_1 _ _ _) dX8_addEdge_19 (c_X3_edgeCount (d - 1) (by omega) _ O.2.2.2.2.2.2.1 _ _ _ h) rfl rfl ⟨by rw [I.2.1]; show d - 1 + 1 ≤ d; omega, by rw [I.2.1]; show 8 + (_ + 11) + 36 * (d - 1) ≤ 36 * d; omega⟩ (show 0 ≤ 8 by decide) ⟨by rw [I.2.1]; show 4 + 0 ≤ 5; decide, by rw [I.2.1]; show 24 + 0 ≤ 30; decide⟩ (fun q => q.elim) (fun E u q => q.elim) (fun r5 u hu => ?_)
  obtain ⟨V4, rfl, h⟩ := hu
  refine ab_bipush O 60 dX8_addEdge_22 rfl ?_
  refine ab_icmp_lt O 37 dX8_addEdge_24 rfl (fun q6 => ?_) (fun q6 => ?_)
  · have h := h.1 q6
    refine ab_aload_n O 0 dX8_addEdge_37 rfl rfl ?_
    refine ab_get O fl_X8_10 dX8_addEdge_38 (at_0 _ _ _) rfl ?_
    refine ab_iload_n O 1 dX8_addEdge_41 rfl rfl ?_
    refine ab_iload_n O 2 dX8_addEdge_42 rfl rfl ?_
    refine ab_iload_n O 3 dX8_addEdge_43 rfl rfl ?_
    refine ab_callvI O I.2.2.2.2.2.2 (fr := False) (st := []) lk_X8_116 rfl (at_1 _ _ _) dX8_addEdge_44 (c_X3_appendEdge (d - 1) (by omega) _ O.2.2.2.2.2.2.1 _ _ _ _ _ _ h) rfl rfl ⟨by rw [I.2.1]; show d - 1 + 1 ≤ d; omega, by rw [I.2.1]; show 8 + (_ + 11) + 36 * (d - 1) ≤ 36 * d; omega⟩ (show 0 ≤ 8 by decide) ⟨by rw [I.2.1]; show 4 + 0 ≤ 5; decide, by rw [I.2.1]; show 24 + 0 ≤ 30; decide⟩ (fun q => q.elim) (fun E u q => q.elim) (fun r8 u hu => ?_)
    obtain ⟨V7, rfl, h⟩ := hu
    refine ab_istore O dX8_addEdge_47 (show 4 < 5 by decide) ?_
    refine ab_aload_n O 0 dX8_addEdge_49 rfl rfl ?_
    refine ab_get O fl_X8_39 dX8_addEdge_50 (at_0 _ _ _) rfl ?_
    refine ab_iload O dX8_addEdge_53 rfl ?_
    refine ab_callvV O I.2.2.2.2.2.2 (fr := False) (st := []) lk_X8_120 rfl (at_35 _ _ _) dX8_addEdge_55 (c_X2_admit (d - 1) (by omega) _ O.2.2.2.2.2.2.1 _ _ _ _ h) rfl rfl ⟨by rw [I.2.1]; show d - 1 + 1 ≤ d; omega, by rw [I.2.1]; show 8 + (_ + 11) + 36 * (d - 1) ≤ 36 * d; omega⟩ (show 0 ≤ 8 by decide) ⟨by rw [I.2.1]; show 4 + 0 ≤ 5; decide, by rw [I.2.1]; show 24 + 0 ≤ 30; decide⟩ (fun q => q.elim) (fun E u q => q.elim) (fun u hu => ?_)
    obtain ⟨V9, rfl, h⟩ := hu
    refine ab_iload O dX8_addEdge_58 rfl ?_
    exact ab_ireturn O I dX8_addEdge_60 (by decide) (by decide) (by rfl) ⟨_, rfl, h⟩
  · have h := h.2 q6
    exact ab_throw O I th_X8_81 (show (RX8, 114, "60 edges have been added") ∈ tk_strs by decide +kernel) dX8_addEdge_27 dX8_addEdge_30 dX8_addEdge_31 dX8_addEdge_33 dX8_addEdge_36 (show 5 < d by omega) (show 0 + 82 ≤ 36 * d by omega) (show 4 + 1 ≤ 5 by decide) (show 24 + 6 ≤ 30 by decide) ⟨_, rfl, h⟩

def wp_X8_requireInTree (V : Mm) (a0 : Int32) (post : Mm → Prop) (px : String → Mm → Prop) : Prop := (wp_X7_holds V (a0) (fun (r2 : Int32) (V1 : Mm) => ((r2 = 0 → px "java/util/NoSuchElementException" V1) ∧ (¬ r2 = 0 → post V1))))
set_option maxHeartbeats 4000000 in
theorem c_X8_requireInTree (d : Nat) (hd : 6 ≤ d) (l : Launch) (hl : l.stackTraces = false) (g : ab_G) (o : Nat → Int64) (D : Nat → UInt64) (a0 : Int32) {V : Mm} {px : String → Mm → Prop} {post : Mm → Prop} (h : wp_X8_requireInTree V a0 post px) : Ct l g tk_strs False d 1 6 yX8_requireInTree cX8_requireInTree 2 none [.ref 0, .int a0] (SW V o D) (tk_V g (fun u => ∃ V : Mm, u = SW V o D ∧ post V)) (fun E u => ∃ V : Mm, u = SW V o D ∧ px E V) := by
  refine ct_in (by decide +kernel) (show 2 ≤ 2 by decide) (by simp [Value.category]) hl (fun X I O _ => ?_)
  show Ab X g 0 0 _ 0 [some (.ref (0)), some (.int (a0))] [] _
  refine ab_aload_n O 0 dX8_requireInTree_0 rfl rfl ?_
  refine ab_get O fl_X8_30 dX8_requireInTree_1 (at_0 _ _ _) rfl ?_
  refine ab_iload_n O 1 dX8_requireInTree_4 rfl rfl ?_
  refine ab_callvI O I.2.2.2.2.2.2 (fr := False) (st := []) lk_X8_201 rfl (at_29 _ _ _) dX8_requireInTree_5 (c_X7_holds (d - 1) (by omega) _ O.2.2.2.2.2.2.1 _ _ _ _ h) rfl rfl ⟨by rw [I.2.1]; show d - 1 + 1 ≤ d; omega, by rw [I.2.1]; show 8 + (_ + 11) + 36 * (d - 1) ≤ 36 * d; omega⟩ (show 0 ≤ 8 by decide) ⟨by rw [I.2.1]; show 0 + 0 ≤ 1; decide, by rw [I.2.1]; show 0 + 0 ≤ 6; decide⟩ (fun q => q.elim) (fun E u q => q.elim) (fun r2 u hu => ?_)
  obtain ⟨V1, rfl, h⟩ := hu
  refine ab_if_ne O 22 dX8_requireInTree_8 rfl (fun q3 => ?_) (fun q3 => ?_)
  · have h := h.2 q3
    exact ab_return O I dX8_requireInTree_22 (by decide) (by decide) ⟨_, rfl, h⟩
  · have h := h.1 q3
    exact ab_throwWN O I th_X8_167 (show (RX8, 323, "the vertices are in different trees") ∈ tk_strs by decide +kernel) dX8_requireInTree_11 dX8_requireInTree_14 dX8_requireInTree_15 dX8_requireInTree_18 dX8_requireInTree_21 (show 5 < d by omega) (show 0 + 82 ≤ 36 * d by omega) (show 0 + 1 ≤ 1 by decide) (show 0 + 6 ≤ 6 by decide) ⟨_, rfl, h⟩

def wp_X8_plantHolding (V : Mm) (a0 a1 : Int32) (post : Mm → Prop) (px : String → Mm → Prop) : Prop := (wp_X7_plant V (a0) ((-1)) (fun (V1 : Mm) => (wp_X8_requireInTree V1 (a1) (fun (V2 : Mm) => post V2) px)))
set_option maxHeartbeats 4000000 in
theorem c_X8_plantHolding (d : Nat) (hd : 7 ≤ d) (l : Launch) (hl : l.stackTraces = false) (g : ab_G) (o : Nat → Int64) (D : Nat → UInt64) (a0 : Int32) (a1 : Int32) {V : Mm} {px : String → Mm → Prop} {post : Mm → Prop} (h : wp_X8_plantHolding V a0 a1 post px) : Ct l g tk_strs False d 1 6 yX8_plantHolding cX8_plantHolding 3 none [.ref 0, .int a0, .int a1] (SW V o D) (tk_V g (fun u => ∃ V : Mm, u = SW V o D ∧ post V)) (fun E u => ∃ V : Mm, u = SW V o D ∧ px E V) := by
  refine ct_in (by decide +kernel) (show 3 ≤ 3 by decide) (by simp [Value.category]) hl (fun X I O _ => ?_)
  show Ab X g 0 0 _ 0 [some (.ref (0)), some (.int (a0)), some (.int (a1))] [] _
  refine ab_aload_n O 0 dX8_plantHolding_0 rfl rfl ?_
  refine ab_get O fl_X8_30 dX8_plantHolding_1 (at_0 _ _ _) rfl ?_
  refine ab_iload_n O 1 dX8_plantHolding_4 rfl rfl ?_
  refine ab_iconst O (-1) dX8_plantHolding_5 rfl ?_
  refine ab_callvV O I.2.2.2.2.2.2 (fr := False) (st := []) lk_X8_198 rfl (at_29 _ _ _) dX8_plantHolding_6 (c_X7_plant (d - 1) (by omega) _ O.2.2.2.2.2.2.1 _ _ _ _ _ h) rfl rfl ⟨by rw [I.2.1]; show d - 1 + 1 ≤ d; omega, by rw [I.2.1]; show 8 + (_ + 11) + 36 * (d - 1) ≤ 36 * d; omega⟩ (show 0 ≤ 8 by decide) ⟨by rw [I.2.1]; show 0 + 0 ≤ 1; decide, by rw [I.2.1]; show 0 + 0 ≤ 6; decide⟩ (fun q => q.elim) (fun E u q => q.elim) (fun u hu => ?_)
  obtain ⟨V1, rfl, h⟩ := hu
  refine ab_aload_n O 0 dX8_plantHolding_9 rfl rfl ?_
  refine ab_iload_n O 2 dX8_plantHolding_10 rfl rfl ?_
  refine ab_callvV O I.2.2.2.2.2.2 (fr := False) (st := []) lk_X8_258 rfl (at_0 _ _ _) dX8_plantHolding_11 (c_X8_requireInTree (d - 1) (by omega) _ O.2.2.2.2.2.2.1 _ _ _ _ h) rfl rfl ⟨by rw [I.2.1]; show d - 1 + 1 ≤ d; omega, by rw [I.2.1]; show 8 + (_ + 11) + 36 * (d - 1) ≤ 36 * d; omega⟩ (show 0 ≤ 8 by decide) ⟨by rw [I.2.1]; show 0 + 1 ≤ 1; decide, by rw [I.2.1]; show 0 + 6 ≤ 6; decide⟩ (fun q => q.elim) (fun E u q => by obtain ⟨V9, rfl, q⟩ := q; exact abx_out O I (by decide) (by decide) ⟨V9, rfl, q⟩) (fun u hu => ?_)
  obtain ⟨V2, rfl, h⟩ := hu
  exact ab_return O I dX8_plantHolding_14 (by decide) (by decide) ⟨_, rfl, h⟩

def wp_X8_addOnPath (V : Mm) (a0 a1 a2 : Int32) (post : Int32 → Mm → Prop) (px : String → Mm → Prop) : Prop := (wp_X8_requireVertices V (a0) (a1) (fun (V1 : Mm) => (wp_X8_isBetween V1 (a2) ((-9)) (9) (fun (r3 : Int32) (V2 : Mm) => ((r3 = 0 → px "java/lang/IllegalArgumentException" V2) ∧ (¬ r3 = 0 → (wp_X8_plantHolding V2 (a1) (a0) (fun (V5 : Mm) => (wp_X7_addOnWayToRoot V5 (a0) (a2) (fun (V6 : Mm) => (wp_X7_depthOf V6 (a0) (fun (r8 : Int32) (V7 : Mm) => post (r8 + 1) V7))))) px)))))) px)
set_option maxHeartbeats 4000000 in
theorem c_X8_addOnPath (d : Nat) (hd : 8 ≤ d) (l : Launch) (hl : l.stackTraces = false) (g : ab_G) (o : Nat → Int64) (D : Nat → UInt64) (a0 : Int32) (a1 : Int32) (a2 : Int32) {V : Mm} {px : String → Mm → Prop} {post : Int32 → Mm → Prop} (h : wp_X8_addOnPath V a0 a1 a2 post px) : Ct l g tk_strs False d 3 18 yX8_addOnPath cX8_addOnPath 4 (some .int) [.ref 0, .int a0, .int a1, .int a2] (SW V o D) (tk_I g (fun r u => ∃ V : Mm, u = SW V o D ∧ post r V)) (fun E u => ∃ V : Mm, u = SW V o D ∧ px E V) := by
  refine ct_in (by decide +kernel) (show 4 ≤ 4 by decide) (by simp [Value.category]) hl (fun X I O _ => ?_)
  show Ab X g 0 0 _ 0 [some (.ref (0)), some (.int (a0)), some (.int (a1)), some (.int (a2))] [] _
  refine ab_aload_n O 0 dX8_addOnPath_0 rfl rfl ?_
  refine ab_iload_n O 1 dX8_addOnPath_1 rfl rfl ?_
  refine ab_iload_n O 2 dX8_addOnPath_2 rfl rfl ?_
  refine ab_callvV O I.2.2.2.2.2.2 (fr := False) (st := []) lk_X8_102 rfl (at_0 _ _ _) dX8_addOnPath_3 (c_X8_requireVertices (d - 1) (by omega) _ O.2.2.2.2.2.2.1 _ _ _ _ _ h) rfl rfl ⟨by rw [I.2.1]; show d - 1 + 1 ≤ d; omega, by rw [I.2.1]; show 8 + (_ + 11) + 36 * (d - 1) ≤ 36 * d; omega⟩ (show 0 ≤ 8 by decide) ⟨by rw [I.2.1]; show 0 + 2 ≤ 3; decide, by rw [I.2.1]; show 0 + 12 ≤ 18; decide⟩ (fun q => q.elim) (fun E u q => by obtain ⟨V9, rfl, q⟩ := q; exact abx_out O I (by decide) (by decide) ⟨V9, rfl, q⟩) (fun u hu => ?_)
  obtain ⟨V1, rfl, h⟩ := hu
  refine ab_iload_n O 3 dX8_addOnPath_6 rfl rfl ?_
  refine ab_bipush O (-9) dX8_addOnPath_7 rfl ?_
  refine ab_bipush O 9 dX8_addOnPath_9 rfl ?_
  refine ab_callsI O I.2.2.2.2.2.2 (fr := False) (st := []) lk_X8_138 dX8_addOnPath_11 (c_X8_isBetween (d - 1) (by omega) _ O.2.2.2.2.2.2.1 _ _ _ _ _ _ h) rfl rfl ⟨by rw [I.2.1]; show d - 1 + 1 ≤ d; omega, by rw [I.2.1]; show 8 + (_ + 11) + 36 * (d - 1) ≤ 36 * d; omega⟩ (show 0 ≤ 8 by decide) ⟨by rw [I.2.1]; show 2 + 0 ≤ 3; decide, by rw [I.2.1]; show 12 + 0 ≤ 18; decide⟩ (fun q => q.elim) (fun E u q => q.elim) (fun r3 u hu => ?_)
  obtain ⟨V2, rfl, h⟩ := hu
  refine ab_if_ne O 27 dX8_addOnPath_14 rfl (fun q4 => ?_) (fun q4 => ?_)
  · have h := h.2 q4
    refine ab_aload_n O 0 dX8_addOnPath_27 rfl rfl ?_
    refine ab_iload_n O 2 dX8_addOnPath_28 rfl rfl ?_
    refine ab_iload_n O 1 dX8_addOnPath_29 rfl rfl ?_
    refine ab_callvV O I.2.2.2.2.2.2 (fr := False) (st := []) lk_X8_147 rfl (at_0 _ _ _) dX8_addOnPath_30 (c_X8_plantHolding (d - 1) (by omega) _ O.2.2.2.2.2.2.1 _ _ _ _ _ h) rfl rfl ⟨by rw [I.2.1]; show d - 1 + 1 ≤ d; omega, by rw [I.2.1]; show 8 + (_ + 11) + 36 * (d - 1) ≤ 36 * d; omega⟩ (show 0 ≤ 8 by decide) ⟨by rw [I.2.1]; show 2 + 1 ≤ 3; decide, by rw [I.2.1]; show 12 + 6 ≤ 18; decide⟩ (fun q => q.elim) (fun E u q => by obtain ⟨V9, rfl, q⟩ := q; exact abx_out O I (by decide) (by decide) ⟨V9, rfl, q⟩) (fun u hu => ?_)
    obtain ⟨V5, rfl, h⟩ := hu
    refine ab_aload_n O 0 dX8_addOnPath_33 rfl rfl ?_
    refine ab_get O fl_X8_30 dX8_addOnPath_34 (at_0 _ _ _) rfl ?_
    refine ab_iload_n O 1 dX8_addOnPath_37 rfl rfl ?_
    refine ab_iload_n O 3 dX8_addOnPath_38 rfl rfl ?_
    refine ab_callvV O I.2.2.2.2.2.2 (fr := False) (st := []) lk_X8_150 rfl (at_29 _ _ _) dX8_addOnPath_39 (c_X7_addOnWayToRoot (d - 1) (by omega) _ O.2.2.2.2.2.2.1 _ _ _ _ _ h) rfl rfl ⟨by rw [I.2.1]; show d - 1 + 1 ≤ d; omega, by rw [I.2.1]; show 8 + (_ + 11) + 36 * (d - 1) ≤ 36 * d; omega⟩ (show 0 ≤ 8 by decide) ⟨by rw [I.2.1]; show 3 + 0 ≤ 3; decide, by rw [I.2.1]; show 18 + 0 ≤ 18; decide⟩ (fun q => q.elim) (fun E u q => q.elim) (fun u hu => ?_)
    obtain ⟨V6, rfl, h⟩ := hu
    refine ab_aload_n O 0 dX8_addOnPath_42 rfl rfl ?_
    refine ab_get O fl_X8_30 dX8_addOnPath_43 (at_0 _ _ _) rfl ?_
    refine ab_iload_n O 1 dX8_addOnPath_46 rfl rfl ?_
    refine ab_callvI O I.2.2.2.2.2.2 (fr := False) (st := []) lk_X8_153 rfl (at_29 _ _ _) dX8_addOnPath_47 (c_X7_depthOf (d - 1) (by omega) _ O.2.2.2.2.2.2.1 _ _ _ _ h) rfl rfl ⟨by rw [I.2.1]; show d - 1 + 1 ≤ d; omega, by rw [I.2.1]; show 8 + (_ + 11) + 36 * (d - 1) ≤ 36 * d; omega⟩ (show 0 ≤ 8 by decide) ⟨by rw [I.2.1]; show 3 + 0 ≤ 3; decide, by rw [I.2.1]; show 18 + 0 ≤ 18; decide⟩ (fun q => q.elim) (fun E u q => q.elim) (fun r8 u hu => ?_)
    obtain ⟨V7, rfl, h⟩ := hu
    refine ab_iconst O 1 dX8_addOnPath_50 rfl ?_
    refine ab_iadd O dX8_addOnPath_51 ?_
    exact ab_ireturn O I dX8_addOnPath_52 (by decide) (by decide) (by rfl) ⟨_, rfl, h⟩
  · have h := h.1 q4
    exact ab_throw O I th_X8_142 (show (RX8, 144, "the amount is not between -9 and 9") ∈ tk_strs by decide +kernel) dX8_addOnPath_17 dX8_addOnPath_20 dX8_addOnPath_21 dX8_addOnPath_23 dX8_addOnPath_26 (show 5 < d by omega) (show 0 + 82 ≤ 36 * d by omega) (show 2 + 1 ≤ 3 by decide) (show 12 + 6 ≤ 18 by decide) ⟨_, rfl, h⟩

def wp_X8_requireValue (V : Mm) (a0 : Int32) (post : Mm → Prop) (px : String → Mm → Prop) : Prop := (wp_X8_isBetween V (a0) ((-99)) (99) (fun (r2 : Int32) (V1 : Mm) => ((r2 = 0 → px "java/lang/IllegalArgumentException" V1) ∧ (¬ r2 = 0 → post V1))))
set_option maxHeartbeats 4000000 in
theorem c_X8_requireValue (d : Nat) (hd : 6 ≤ d) (l : Launch) (hl : l.stackTraces = false) (g : ab_G) (o : Nat → Int64) (D : Nat → UInt64) (a0 : Int32) {V : Mm} {px : String → Mm → Prop} {post : Mm → Prop} (h : wp_X8_requireValue V a0 post px) : Ct l g tk_strs False d 1 6 yX8_requireValue cX8_requireValue 1 none [.int a0] (SW V o D) (tk_V g (fun u => ∃ V : Mm, u = SW V o D ∧ post V)) (fun E u => ∃ V : Mm, u = SW V o D ∧ px E V) := by
  refine ct_in (by decide +kernel) (show 1 ≤ 1 by decide) (by simp [Value.category]) hl (fun X I O _ => ?_)
  show Ab X g 0 0 _ 0 [some (.int (a0))] [] _
  refine ab_iload_n O 0 dX8_requireValue_0 rfl rfl ?_
  refine ab_bipush O (-99) dX8_requireValue_1 rfl ?_
  refine ab_bipush O 99 dX8_requireValue_3 rfl ?_
  refine ab_callsI O I.2.2.2.2.2.2 (fr := False) (st := []) lk_X8_138 dX8_requireValue_5 (c_X8_isBetween (d - 1) (by omega) _ O.2.2.2.2.2.2.1 _ _ _ _ _ _ h) rfl rfl ⟨by rw [I.2.1]; show d - 1 + 1 ≤ d; omega, by rw [I.2.1]; show 8 + (_ + 11) + 36 * (d - 1) ≤ 36 * d; omega⟩ (show 0 ≤ 8 by decide) ⟨by rw [I.2.1]; show 0 + 0 ≤ 1; decide, by rw [I.2.1]; show 0 + 0 ≤ 6; decide⟩ (fun q => q.elim) (fun E u q => q.elim) (fun r2 u hu => ?_)
  obtain ⟨V1, rfl, h⟩ := hu
  refine ab_if_ne O 22 dX8_requireValue_8 rfl (fun q3 => ?_) (fun q3 => ?_)
  · have h := h.2 q3
    exact ab_return O I dX8_requireValue_22 (by decide) (by decide) ⟨_, rfl, h⟩
  · have h := h.1 q3
    exact ab_throwW O I th_X8_142 (show (RX8, 298, "the value is not between -99 and 99") ∈ tk_strs by decide +kernel) dX8_requireValue_11 dX8_requireValue_14 dX8_requireValue_15 dX8_requireValue_18 dX8_requireValue_21 (show 5 < d by omega) (show 0 + 82 ≤ 36 * d by omega) (show 0 + 1 ≤ 1 by decide) (show 0 + 6 ≤ 6 by decide) ⟨_, rfl, h⟩

def wp_X8_addVertex (V : Mm) (a0 : Int32) (post : Int32 → Mm → Prop) (px : String → Mm → Prop) : Prop := (wp_X8_requireValue V (a0) (fun (V1 : Mm) => (wp_X3_vertexCount V1 (fun (r3 : Int32) (V2 : Mm) => ((r3 < 20 → (wp_X3_appendVertex V2 (a0) (fun (r6 : Int32) (V5 : Mm) => post r6 V5))) ∧ (¬ r3 < 20 → px "java/lang/IllegalStateException" V2))))) px)
set_option maxHeartbeats 4000000 in
theorem c_X8_addVertex (d : Nat) (hd : 7 ≤ d) (l : Launch) (hl : l.stackTraces = false) (g : ab_G) (o : Nat → Int64) (D : Nat → UInt64) (a0 : Int32) {V : Mm} {px : String → Mm → Prop} {post : Int32 → Mm → Prop} (h : wp_X8_addVertex V a0 post px) : Ct l g tk_strs False d 2 12 yX8_addVertex cX8_addVertex 2 (some .int) [.ref 0, .int a0] (SW V o D) (tk_I g (fun r u => ∃ V : Mm, u = SW V o D ∧ post r V)) (fun E u => ∃ V : Mm, u = SW V o D ∧ px E V) := by
  refine ct_in (by decide +kernel) (show 2 ≤ 2 by decide) (by simp [Value.category]) hl (fun X I O _ => ?_)
  show Ab X g 0 0 _ 0 [some (.ref (0)), some (.int (a0))] [] _
  refine ab_iload_n O 1 dX8_addVertex_0 rfl rfl ?_
  refine ab_callsV O I.2.2.2.2.2.2 (fr := False) (st := []) lk_X8_73 dX8_addVertex_1 (c_X8_requireValue (d - 1) (by omega) _ O.2.2.2.2.2.2.1 _ _ _ _ h) rfl rfl ⟨by rw [I.2.1]; show d - 1 + 1 ≤ d; omega, by rw [I.2.1]; show 8 + (_ + 11) + 36 * (d - 1) ≤ 36 * d; omega⟩ (show 0 ≤ 8 by decide) ⟨by rw [I.2.1]; show 0 + 1 ≤ 2; decide, by rw [I.2.1]; show 0 + 6 ≤ 12; decide⟩ (fun q => q.elim) (fun E u q => by obtain ⟨V9, rfl, q⟩ := q; exact abx_out O I (by decide) (by decide) ⟨V9, rfl, q⟩) (fun u hu => ?_)
  obtain ⟨V1, rfl, h⟩ := hu
  refine ab_aload_n O 0 dX8_addVertex_4 rfl rfl ?_
  refine ab_get O fl_X8_10 dX8_addVertex_5 (at_0 _ _ _) rfl ?_
  refine ab_callvI O I.2.2.2.2.2.2 (fr := False) (st := []) lk_X8_77 rfl (at_1 _ _ _) dX8_addVertex_8 (c_X3_vertexCount (d - 1) (by omega) _ O.2.2.2.2.2.2.1 _ _ _ h) rfl rfl ⟨by rw [I.2.1]; show d - 1 + 1 ≤ d; omega, by rw [I.2.1]; show 8 + (_ + 11) + 36 * (d - 1) ≤ 36 * d; omega⟩ (show 0 ≤ 8 by decide) ⟨by rw [I.2.1]; show 1 + 0 ≤ 2; decide, by rw [I.2.1]; show 6 + 0 ≤ 12; decide⟩ (fun q => q.elim) (fun E u q => q.elim) (fun r3 u hu => ?_)
  obtain ⟨V2, rfl, h⟩ := hu
  refine ab_bipush O 20 dX8_addVertex_11 rfl ?_
  refine ab_icmp_lt O 26 dX8_addVertex_13 rfl (fun q4 => ?_) (fun q4 => ?_)
  · have h := h.1 q4
    refine ab_aload_n O 0 dX8_addVertex_26 rfl rfl ?_
    refine ab_get O fl_X8_10 dX8_addVertex_27 (at_0 _ _ _) rfl ?_
    refine ab_iload_n O 1 dX8_addVertex_30 rfl rfl ?_
    refine ab_callvI O I.2.2.2.2.2.2 (fr := False) (st := []) lk_X8_88 rfl (at_1 _ _ _) dX8_addVertex_31 (c_X3_appendVertex (d - 1) (by omega) _ O.2.2.2.2.2.2.1 _ _ _ _ h) rfl rfl ⟨by rw [I.2.1]; show d - 1 + 1 ≤ d; omega, by rw [I.2.1]; show 8 + (_ + 11) + 36 * (d - 1) ≤ 36 * d; omega⟩ (show 0 ≤ 8 by decide) ⟨by rw [I.2.1]; show 1 + 0 ≤ 2; decide, by rw [I.2.1]; show 6 + 0 ≤ 12; decide⟩ (fun q => q.elim) (fun E u q => q.elim) (fun r6 u hu => ?_)
    obtain ⟨V5, rfl, h⟩ := hu
    exact ab_ireturn O I dX8_addVertex_34 (by decide) (by decide) (by rfl) ⟨_, rfl, h⟩
  · have h := h.2 q4
    exact ab_throw O I th_X8_81 (show (RX8, 83, "there are 20 vertices") ∈ tk_strs by decide +kernel) dX8_addVertex_16 dX8_addVertex_19 dX8_addVertex_20 dX8_addVertex_22 dX8_addVertex_25 (show 5 < d by omega) (show 0 + 82 ≤ 36 * d by omega) (show 1 + 1 ≤ 2 by decide) (show 6 + 6 ≤ 12 by decide) ⟨_, rfl, h⟩

def wp_X8_requireDistance (V : Mm) (a0 a1 : Int32) (post : Mm → Prop) (px : String → Mm → Prop) : Prop := (wp_X7_depthOf V (a0) (fun (r2 : Int32) (V1 : Mm) => (wp_X8_isBetween V1 (a1) (0) (r2) (fun (r4 : Int32) (V3 : Mm) => ((r4 = 0 → px "java/lang/IllegalArgumentException" V3) ∧ (¬ r4 = 0 → post V3))))))
set_option maxHeartbeats 4000000 in
theorem c_X8_requireDistance (d : Nat) (hd : 6 ≤ d) (l : Launch) (hl : l.stackTraces = false) (g : ab_G) (o : Nat → Int64) (D : Nat → UInt64) (a0 : Int32) (a1 : Int32) {V : Mm} {px : String → Mm → Prop} {post : Mm → Prop} (h : wp_X8_requireDistance V a0 a1 post px) : Ct l g tk_strs False d 1 6 yX8_requireDistance cX8_requireDistance 3 none [.ref 0, .int a0, .int a1] (SW V o D) (tk_V g (fun u => ∃ V : Mm, u = SW V o D ∧ post V)) (fun E u => ∃ V : Mm, u = SW V o D ∧ px E V) := by
  refine ct_in (by decide +kernel) (show 3 ≤ 3 by decide) (by simp [Value.category]) hl (fun X I O _ => ?_)
  show Ab X g 0 0 _ 0 [some (.ref (0)), some (.int (a0)), some (.int (a1))] [] _
  refine ab_iload_n O 2 dX8_requireDistance_0 rfl rfl ?_
  refine ab_iconst O 0 dX8_requireDistance_1 rfl ?_
  refine ab_aload_n O 0 dX8_requireDistance_2 rfl rfl ?_
  refine ab_get O fl_X8_30 dX8_requireDistance_3 (at_0 _ _ _) rfl ?_
  refine ab_iload_n O 1 dX8_requireDistance_6 rfl rfl ?_
  refine ab_callvI O I.2.2.2.2.2.2 (fr := False) (st := [.int (0), .int (a1)]) lk_X8_153 rfl (at_29 _ _ _) dX8_requireDistance_7 (c_X7_depthOf (d - 1) (by omega) _ O.2.2.2.2.2.2.1 _ _ _ _ h) rfl rfl ⟨by rw [I.2.1]; show d - 1 + 1 ≤ d; omega, by rw [I.2.1]; show 8 + (_ + 11) + 36 * (d - 1) ≤ 36 * d; omega⟩ (show 2 ≤ 8 by decide) ⟨by rw [I.2.1]; show 0 + 0 ≤ 1; decide, by rw [I.2.1]; show 0 + 0 ≤ 6; decide⟩ (fun q => q.elim) (fun E u q => q.elim) (fun r2 u hu => ?_)
  obtain ⟨V1, rfl, h⟩ := hu
  refine ab_callsI O I.2.2.2.2.2.2 (fr := False) (st := []) lk_X8_138 dX8_requireDistance_10 (c_X8_isBetween (d - 1) (by omega) _ O.2.2.2.2.2.2.1 _ _ _ _ _ _ h) rfl rfl ⟨by rw [I.2.1]; show d - 1 + 1 ≤ d; omega, by rw [I.2.1]; show 8 + (_ + 11) + 36 * (d - 1) ≤ 36 * d; omega⟩ (show 0 ≤ 8 by decide) ⟨by rw [I.2.1]; show 0 + 0 ≤ 1; decide, by rw [I.2.1]; show 0 + 0 ≤ 6; decide⟩ (fun q => q.elim) (fun E u q => q.elim) (fun r4 u hu => ?_)
  obtain ⟨V3, rfl, h⟩ := hu
  refine ab_if_ne O 27 dX8_requireDistance_13 rfl (fun q5 => ?_) (fun q5 => ?_)
  · have h := h.2 q5
    exact ab_return O I dX8_requireDistance_27 (by decide) (by decide) ⟨_, rfl, h⟩
  · have h := h.1 q5
    exact ab_throwW O I th_X8_142 (show (RX8, 325, "the distance is not between 0 and the depth") ∈ tk_strs by decide +kernel) dX8_requireDistance_16 dX8_requireDistance_19 dX8_requireDistance_20 dX8_requireDistance_23 dX8_requireDistance_26 (show 5 < d by omega) (show 0 + 82 ≤ 36 * d by omega) (show 0 + 1 ≤ 1 by decide) (show 0 + 6 ≤ 6 by decide) ⟨_, rfl, h⟩

def wp_X8_ancestor (V : Mm) (a0 a1 a2 : Int32) (post : Int32 → Mm → Prop) (px : String → Mm → Prop) : Prop := (wp_X8_requireVertices V (a0) (a1) (fun (V1 : Mm) => (wp_X8_plantHolding V1 (a0) (a1) (fun (V2 : Mm) => (wp_X8_requireDistance V2 (a1) (a2) (fun (V3 : Mm) => (wp_X6_build V3 (fun (V4 : Mm) => (wp_X6_climb V4 (a1) (a2) (fun (r6 : Int32) (V5 : Mm) => post r6 V5))))) px)) px)) px)
set_option maxHeartbeats 4000000 in
theorem c_X8_ancestor (d : Nat) (hd : 8 ≤ d) (l : Launch) (hl : l.stackTraces = false) (g : ab_G) (o : Nat → Int64) (D : Nat → UInt64) (a0 : Int32) (a1 : Int32) (a2 : Int32) {V : Mm} {px : String → Mm → Prop} {post : Int32 → Mm → Prop} (h : wp_X8_ancestor V a0 a1 a2 post px) : Ct l g tk_strs False d 4 24 yX8_ancestor cX8_ancestor 4 (some .int) [.ref 0, .int a0, .int a1, .int a2] (SW V o D) (tk_I g (fun r u => ∃ V : Mm, u = SW V o D ∧ post r V)) (fun E u => ∃ V : Mm, u = SW V o D ∧ px E V) := by
  refine ct_in (by decide +kernel) (show 4 ≤ 4 by decide) (by simp [Value.category]) hl (fun X I O _ => ?_)
  show Ab X g 0 0 _ 0 [some (.ref (0)), some (.int (a0)), some (.int (a1)), some (.int (a2))] [] _
  refine ab_aload_n O 0 dX8_ancestor_0 rfl rfl ?_
  refine ab_iload_n O 1 dX8_ancestor_1 rfl rfl ?_
  refine ab_iload_n O 2 dX8_ancestor_2 rfl rfl ?_
  refine ab_callvV O I.2.2.2.2.2.2 (fr := False) (st := []) lk_X8_102 rfl (at_0 _ _ _) dX8_ancestor_3 (c_X8_requireVertices (d - 1) (by omega) _ O.2.2.2.2.2.2.1 _ _ _ _ _ h) rfl rfl ⟨by rw [I.2.1]; show d - 1 + 1 ≤ d; omega, by rw [I.2.1]; show 8 + (_ + 11) + 36 * (d - 1) ≤ 36 * d; omega⟩ (show 0 ≤ 8 by decide) ⟨by rw [I.2.1]; show 0 + 2 ≤ 4; decide, by rw [I.2.1]; show 0 + 12 ≤ 24; decide⟩ (fun q => q.elim) (fun E u q => by obtain ⟨V9, rfl, q⟩ := q; exact abx_out O I (by decide) (by decide) ⟨V9, rfl, q⟩) (fun u hu => ?_)
  obtain ⟨V1, rfl, h⟩ := hu
  refine ab_aload_n O 0 dX8_ancestor_6 rfl rfl ?_
  refine ab_iload_n O 1 dX8_ancestor_7 rfl rfl ?_
  refine ab_iload_n O 2 dX8_ancestor_8 rfl rfl ?_
  refine ab_callvV O I.2.2.2.2.2.2 (fr := False) (st := []) lk_X8_147 rfl (at_0 _ _ _) dX8_ancestor_9 (c_X8_plantHolding (d - 1) (by omega) _ O.2.2.2.2.2.2.1 _ _ _ _ _ h) rfl rfl ⟨by rw [I.2.1]; show d - 1 + 1 ≤ d; omega, by rw [I.2.1]; show 8 + (_ + 11) + 36 * (d - 1) ≤ 36 * d; omega⟩ (show 0 ≤ 8 by decide) ⟨by rw [I.2.1]; show 2 + 1 ≤ 4; decide, by rw [I.2.1]; show 12 + 6 ≤ 24; decide⟩ (fun q => q.elim) (fun E u q => by obtain ⟨V9, rfl, q⟩ := q; exact abx_out O I (by decide) (by decide) ⟨V9, rfl, q⟩) (fun u hu => ?_)
  obtain ⟨V2, rfl, h⟩ := hu
  refine ab_aload_n O 0 dX8_ancestor_12 rfl rfl ?_
  refine ab_iload_n O 2 dX8_ancestor_13 rfl rfl ?_
  refine ab_iload_n O 3 dX8_ancestor_14 rfl rfl ?_
  refine ab_callvV O I.2.2.2.2.2.2 (fr := False) (st := []) lk_X8_253 rfl (at_0 _ _ _) dX8_ancestor_15 (c_X8_requireDistance (d - 1) (by omega) _ O.2.2.2.2.2.2.1 _ _ _ _ _ h) rfl rfl ⟨by rw [I.2.1]; show d - 1 + 1 ≤ d; omega, by rw [I.2.1]; show 8 + (_ + 11) + 36 * (d - 1) ≤ 36 * d; omega⟩ (show 0 ≤ 8 by decide) ⟨by rw [I.2.1]; show 3 + 1 ≤ 4; decide, by rw [I.2.1]; show 18 + 6 ≤ 24; decide⟩ (fun q => q.elim) (fun E u q => by obtain ⟨V9, rfl, q⟩ := q; exact abx_out O I (by decide) (by decide) ⟨V9, rfl, q⟩) (fun u hu => ?_)
  obtain ⟨V3, rfl, h⟩ := hu
  refine ab_aload_n O 0 dX8_ancestor_18 rfl rfl ?_
  refine ab_get O fl_X8_69 dX8_ancestor_19 (at_0 _ _ _) rfl ?_
  refine ab_callvV O I.2.2.2.2.2.2 (fr := False) (st := []) lk_X8_256 rfl (at_50 _ _ _) dX8_ancestor_22 (c_X6_build (d - 1) (by omega) _ O.2.2.2.2.2.2.1 _ _ _ h) rfl rfl ⟨by rw [I.2.1]; show d - 1 + 1 ≤ d; omega, by rw [I.2.1]; show 8 + (_ + 11) + 36 * (d - 1) ≤ 36 * d; omega⟩ (show 0 ≤ 8 by decide) ⟨by rw [I.2.1]; show 4 + 0 ≤ 4; decide, by rw [I.2.1]; show 24 + 0 ≤ 24; decide⟩ (fun q => q.elim) (fun E u q => q.elim) (fun u hu => ?_)
  obtain ⟨V4, rfl, h⟩ := hu
  refine ab_aload_n O 0 dX8_ancestor_25 rfl rfl ?_
  refine ab_get O fl_X8_69 dX8_ancestor_26 (at_0 _ _ _) rfl ?_
  refine ab_iload_n O 2 dX8_ancestor_29 rfl rfl ?_
  refine ab_iload_n O 3 dX8_ancestor_30 rfl rfl ?_
  refine ab_callvI O I.2.2.2.2.2.2 (fr := False) (st := []) lk_X8_257 rfl (at_50 _ _ _) dX8_ancestor_31 (c_X6_climb (d - 1) (by omega) _ O.2.2.2.2.2.2.1 _ _ _ _ _ h) rfl rfl ⟨by rw [I.2.1]; show d - 1 + 1 ≤ d; omega, by rw [I.2.1]; show 8 + (_ + 11) + 36 * (d - 1) ≤ 36 * d; omega⟩ (show 0 ≤ 8 by decide) ⟨by rw [I.2.1]; show 4 + 0 ≤ 4; decide, by rw [I.2.1]; show 24 + 0 ≤ 24; decide⟩ (fun q => q.elim) (fun E u q => q.elim) (fun r6 u hu => ?_)
  obtain ⟨V5, rfl, h⟩ := hu
  exact ab_ireturn O I dX8_ancestor_34 (by decide) (by decide) (by rfl) ⟨_, rfl, h⟩

def wp_X8_ancestorByWalk (V : Mm) (a0 a1 a2 : Int32) (post : Int32 → Mm → Prop) (px : String → Mm → Prop) : Prop := (wp_X8_requireVertices V (a0) (a1) (fun (V1 : Mm) => (wp_X8_plantHolding V1 (a0) (a1) (fun (V2 : Mm) => (wp_X8_requireDistance V2 (a1) (a2) (fun (V3 : Mm) => (wp_X7_climb V3 (a1) (a2) (fun (r5 : Int32) (V4 : Mm) => post r5 V4))) px)) px)) px)
set_option maxHeartbeats 4000000 in
theorem c_X8_ancestorByWalk (d : Nat) (hd : 8 ≤ d) (l : Launch) (hl : l.stackTraces = false) (g : ab_G) (o : Nat → Int64) (D : Nat → UInt64) (a0 : Int32) (a1 : Int32) (a2 : Int32) {V : Mm} {px : String → Mm → Prop} {post : Int32 → Mm → Prop} (h : wp_X8_ancestorByWalk V a0 a1 a2 post px) : Ct l g tk_strs False d 4 24 yX8_ancestorByWalk cX8_ancestorByWalk 4 (some .int) [.ref 0, .int a0, .int a1, .int a2] (SW V o D) (tk_I g (fun r u => ∃ V : Mm, u = SW V o D ∧ post r V)) (fun E u => ∃ V : Mm, u = SW V o D ∧ px E V) := by
  refine ct_in (by decide +kernel) (show 4 ≤ 4 by decide) (by simp [Value.category]) hl (fun X I O _ => ?_)
  show Ab X g 0 0 _ 0 [some (.ref (0)), some (.int (a0)), some (.int (a1)), some (.int (a2))] [] _
  refine ab_aload_n O 0 dX8_ancestorByWalk_0 rfl rfl ?_
  refine ab_iload_n O 1 dX8_ancestorByWalk_1 rfl rfl ?_
  refine ab_iload_n O 2 dX8_ancestorByWalk_2 rfl rfl ?_
  refine ab_callvV O I.2.2.2.2.2.2 (fr := False) (st := []) lk_X8_102 rfl (at_0 _ _ _) dX8_ancestorByWalk_3 (c_X8_requireVertices (d - 1) (by omega) _ O.2.2.2.2.2.2.1 _ _ _ _ _ h) rfl rfl ⟨by rw [I.2.1]; show d - 1 + 1 ≤ d; omega, by rw [I.2.1]; show 8 + (_ + 11) + 36 * (d - 1) ≤ 36 * d; omega⟩ (show 0 ≤ 8 by decide) ⟨by rw [I.2.1]; show 0 + 2 ≤ 4; decide, by rw [I.2.1]; show 0 + 12 ≤ 24; decide⟩ (fun q => q.elim) (fun E u q => by obtain ⟨V9, rfl, q⟩ := q; exact abx_out O I (by decide) (by decide) ⟨V9, rfl, q⟩) (fun u hu => ?_)
  obtain ⟨V1, rfl, h⟩ := hu
  refine ab_aload_n O 0 dX8_ancestorByWalk_6 rfl rfl ?_
  refine ab_iload_n O 1 dX8_ancestorByWalk_7 rfl rfl ?_
  refine ab_iload_n O 2 dX8_ancestorByWalk_8 rfl rfl ?_
  refine ab_callvV O I.2.2.2.2.2.2 (fr := False) (st := []) lk_X8_147 rfl (at_0 _ _ _) dX8_ancestorByWalk_9 (c_X8_plantHolding (d - 1) (by omega) _ O.2.2.2.2.2.2.1 _ _ _ _ _ h) rfl rfl ⟨by rw [I.2.1]; show d - 1 + 1 ≤ d; omega, by rw [I.2.1]; show 8 + (_ + 11) + 36 * (d - 1) ≤ 36 * d; omega⟩ (show 0 ≤ 8 by decide) ⟨by rw [I.2.1]; show 2 + 1 ≤ 4; decide, by rw [I.2.1]; show 12 + 6 ≤ 24; decide⟩ (fun q => q.elim) (fun E u q => by obtain ⟨V9, rfl, q⟩ := q; exact abx_out O I (by decide) (by decide) ⟨V9, rfl, q⟩) (fun u hu => ?_)
  obtain ⟨V2, rfl, h⟩ := hu
  refine ab_aload_n O 0 dX8_ancestorByWalk_12 rfl rfl ?_
  refine ab_iload_n O 2 dX8_ancestorByWalk_13 rfl rfl ?_
  refine ab_iload_n O 3 dX8_ancestorByWalk_14 rfl rfl ?_
  refine ab_callvV O I.2.2.2.2.2.2 (fr := False) (st := []) lk_X8_253 rfl (at_0 _ _ _) dX8_ancestorByWalk_15 (c_X8_requireDistance (d - 1) (by omega) _ O.2.2.2.2.2.2.1 _ _ _ _ _ h) rfl rfl ⟨by rw [I.2.1]; show d - 1 + 1 ≤ d; omega, by rw [I.2.1]; show 8 + (_ + 11) + 36 * (d - 1) ≤ 36 * d; omega⟩ (show 0 ≤ 8 by decide) ⟨by rw [I.2.1]; show 3 + 1 ≤ 4; decide, by rw [I.2.1]; show 18 + 6 ≤ 24; decide⟩ (fun q => q.elim) (fun E u q => by obtain ⟨V9, rfl, q⟩ := q; exact abx_out O I (by decide) (by decide) ⟨V9, rfl, q⟩) (fun u hu => ?_)
  obtain ⟨V3, rfl, h⟩ := hu
  refine ab_aload_n O 0 dX8_ancestorByWalk_18 rfl rfl ?_
  refine ab_get O fl_X8_30 dX8_ancestorByWalk_19 (at_0 _ _ _) rfl ?_
  refine ab_iload_n O 2 dX8_ancestorByWalk_22 rfl rfl ?_
  refine ab_iload_n O 3 dX8_ancestorByWalk_23 rfl rfl ?_
  refine ab_callvI O I.2.2.2.2.2.2 (fr := False) (st := []) lk_X8_221 rfl (at_29 _ _ _) dX8_ancestorByWalk_24 (c_X7_climb (d - 1) (by omega) _ O.2.2.2.2.2.2.1 _ _ _ _ _ h) rfl rfl ⟨by rw [I.2.1]; show d - 1 + 1 ≤ d; omega, by rw [I.2.1]; show 8 + (_ + 11) + 36 * (d - 1) ≤ 36 * d; omega⟩ (show 0 ≤ 8 by decide) ⟨by rw [I.2.1]; show 4 + 0 ≤ 4; decide, by rw [I.2.1]; show 24 + 0 ≤ 24; decide⟩ (fun q => q.elim) (fun E u q => q.elim) (fun r5 u hu => ?_)
  obtain ⟨V4, rfl, h⟩ := hu
  exact ab_ireturn O I dX8_ancestorByWalk_27 (by decide) (by decide) (by rfl) ⟨_, rfl, h⟩

def wp_X8_common (V : Mm) (a0 a1 a2 : Int32) (post : Int32 → Mm → Prop) (px : String → Mm → Prop) : Prop := (wp_X8_requireVertex V (a0) (fun (V1 : Mm) => (wp_X8_requireVertices V1 (a1) (a2) (fun (V2 : Mm) => (wp_X8_plantHolding V2 (a0) (a1) (fun (V3 : Mm) => (wp_X8_requireInTree V3 (a2) (fun (V4 : Mm) => (wp_X6_build V4 (fun (V5 : Mm) => (wp_X6_meet V5 (a1) (a2) (fun (r7 : Int32) (V6 : Mm) => post r7 V6))))) px)) px)) px)) px)
set_option maxHeartbeats 4000000 in
theorem c_X8_common (d : Nat) (hd : 8 ≤ d) (l : Launch) (hl : l.stackTraces = false) (g : ab_G) (o : Nat → Int64) (D : Nat → UInt64) (a0 : Int32) (a1 : Int32) (a2 : Int32) {V : Mm} {px : String → Mm → Prop} {post : Int32 → Mm → Prop} (h : wp_X8_common V a0 a1 a2 post px) : Ct l g tk_strs False d 5 30 yX8_common cX8_common 4 (some .int) [.ref 0, .int a0, .int a1, .int a2] (SW V o D) (tk_I g (fun r u => ∃ V : Mm, u = SW V o D ∧ post r V)) (fun E u => ∃ V : Mm, u = SW V o D ∧ px E V) := by
  refine ct_in (by decide +kernel) (show 4 ≤ 4 by decide) (by simp [Value.category]) hl (fun X I O _ => ?_)
  show Ab X g 0 0 _ 0 [some (.ref (0)), some (.int (a0)), some (.int (a1)), some (.int (a2))] [] _
  refine ab_aload_n O 0 dX8_common_0 rfl rfl ?_
  refine ab_iload_n O 1 dX8_common_1 rfl rfl ?_
  refine ab_callvV O I.2.2.2.2.2.2 (fr := False) (st := []) lk_X8_92 rfl (at_0 _ _ _) dX8_common_2 (c_X8_requireVertex (d - 1) (by omega) _ O.2.2.2.2.2.2.1 _ _ _ _ h) rfl rfl ⟨by rw [I.2.1]; show d - 1 + 1 ≤ d; omega, by rw [I.2.1]; show 8 + (_ + 11) + 36 * (d - 1) ≤ 36 * d; omega⟩ (show 0 ≤ 8 by decide) ⟨by rw [I.2.1]; show 0 + 1 ≤ 5; decide, by rw [I.2.1]; show 0 + 6 ≤ 30; decide⟩ (fun q => q.elim) (fun E u q => by obtain ⟨V9, rfl, q⟩ := q; exact abx_out O I (by decide) (by decide) ⟨V9, rfl, q⟩) (fun u hu => ?_)
  obtain ⟨V1, rfl, h⟩ := hu
  refine ab_aload_n O 0 dX8_common_5 rfl rfl ?_
  refine ab_iload_n O 2 dX8_common_6 rfl rfl ?_
  refine ab_iload_n O 3 dX8_common_7 rfl rfl ?_
  refine ab_callvV O I.2.2.2.2.2.2 (fr := False) (st := []) lk_X8_102 rfl (at_0 _ _ _) dX8_common_8 (c_X8_requireVertices (d - 1) (by omega) _ O.2.2.2.2.2.2.1 _ _ _ _ _ h) rfl rfl ⟨by rw [I.2.1]; show d - 1 + 1 ≤ d; omega, by rw [I.2.1]; show 8 + (_ + 11) + 36 * (d - 1) ≤ 36 * d; omega⟩ (show 0 ≤ 8 by decide) ⟨by rw [I.2.1]; show 1 + 2 ≤ 5; decide, by rw [I.2.1]; show 6 + 12 ≤ 30; decide⟩ (fun q => q.elim) (fun E u q => by obtain ⟨V9, rfl, q⟩ := q; exact abx_out O I (by decide) (by decide) ⟨V9, rfl, q⟩) (fun u hu => ?_)
  obtain ⟨V2, rfl, h⟩ := hu
  refine ab_aload_n O 0 dX8_common_11 rfl rfl ?_
  refine ab_iload_n O 1 dX8_common_12 rfl rfl ?_
  refine ab_iload_n O 2 dX8_common_13 rfl rfl ?_
  refine ab_callvV O I.2.2.2.2.2.2 (fr := False) (st := []) lk_X8_147 rfl (at_0 _ _ _) dX8_common_14 (c_X8_plantHolding (d - 1) (by omega) _ O.2.2.2.2.2.2.1 _ _ _ _ _ h) rfl rfl ⟨by rw [I.2.1]; show d - 1 + 1 ≤ d; omega, by rw [I.2.1]; show 8 + (_ + 11) + 36 * (d - 1) ≤ 36 * d; omega⟩ (show 0 ≤ 8 by decide) ⟨by rw [I.2.1]; show 3 + 1 ≤ 5; decide, by rw [I.2.1]; show 18 + 6 ≤ 30; decide⟩ (fun q => q.elim) (fun E u q => by obtain ⟨V9, rfl, q⟩ := q; exact abx_out O I (by decide) (by decide) ⟨V9, rfl, q⟩) (fun u hu => ?_)
  obtain ⟨V3, rfl, h⟩ := hu
  refine ab_aload_n O 0 dX8_common_17 rfl rfl ?_
  refine ab_iload_n O 3 dX8_common_18 rfl rfl ?_
  refine ab_callvV O I.2.2.2.2.2.2 (fr := False) (st := []) lk_X8_258 rfl (at_0 _ _ _) dX8_common_19 (c_X8_requireInTree (d - 1) (by omega) _ O.2.2.2.2.2.2.1 _ _ _ _ h) rfl rfl ⟨by rw [I.2.1]; show d - 1 + 1 ≤ d; omega, by rw [I.2.1]; show 8 + (_ + 11) + 36 * (d - 1) ≤ 36 * d; omega⟩ (show 0 ≤ 8 by decide) ⟨by rw [I.2.1]; show 4 + 1 ≤ 5; decide, by rw [I.2.1]; show 24 + 6 ≤ 30; decide⟩ (fun q => q.elim) (fun E u q => by obtain ⟨V9, rfl, q⟩ := q; exact abx_out O I (by decide) (by decide) ⟨V9, rfl, q⟩) (fun u hu => ?_)
  obtain ⟨V4, rfl, h⟩ := hu
  refine ab_aload_n O 0 dX8_common_22 rfl rfl ?_
  refine ab_get O fl_X8_69 dX8_common_23 (at_0 _ _ _) rfl ?_
  refine ab_callvV O I.2.2.2.2.2.2 (fr := False) (st := []) lk_X8_256 rfl (at_50 _ _ _) dX8_common_26 (c_X6_build (d - 1) (by omega) _ O.2.2.2.2.2.2.1 _ _ _ h) rfl rfl ⟨by rw [I.2.1]; show d - 1 + 1 ≤ d; omega, by rw [I.2.1]; show 8 + (_ + 11) + 36 * (d - 1) ≤ 36 * d; omega⟩ (show 0 ≤ 8 by decide) ⟨by rw [I.2.1]; show 5 + 0 ≤ 5; decide, by rw [I.2.1]; show 30 + 0 ≤ 30; decide⟩ (fun q => q.elim) (fun E u q => q.elim) (fun u hu => ?_)
  obtain ⟨V5, rfl, h⟩ := hu
  refine ab_aload_n O 0 dX8_common_29 rfl rfl ?_
  refine ab_get O fl_X8_69 dX8_common_30 (at_0 _ _ _) rfl ?_
  refine ab_iload_n O 2 dX8_common_33 rfl rfl ?_
  refine ab_iload_n O 3 dX8_common_34 rfl rfl ?_
  refine ab_callvI O I.2.2.2.2.2.2 (fr := False) (st := []) lk_X8_261 rfl (at_50 _ _ _) dX8_common_35 (c_X6_meet (d - 1) (by omega) _ O.2.2.2.2.2.2.1 _ _ _ _ _ h) rfl rfl ⟨by rw [I.2.1]; show d - 1 + 1 ≤ d; omega, by rw [I.2.1]; show 8 + (_ + 11) + 36 * (d - 1) ≤ 36 * d; omega⟩ (show 0 ≤ 8 by decide) ⟨by rw [I.2.1]; show 5 + 0 ≤ 5; decide, by rw [I.2.1]; show 30 + 0 ≤ 30; decide⟩ (fun q => q.elim) (fun E u q => q.elim) (fun r7 u hu => ?_)
  obtain ⟨V6, rfl, h⟩ := hu
  exact ab_ireturn O I dX8_common_38 (by decide) (by decide) (by rfl) ⟨_, rfl, h⟩

def wp_X8_commonByWalk (V : Mm) (a0 a1 a2 : Int32) (post : Int32 → Mm → Prop) (px : String → Mm → Prop) : Prop := (wp_X8_requireVertex V (a0) (fun (V1 : Mm) => (wp_X8_requireVertices V1 (a1) (a2) (fun (V2 : Mm) => (wp_X8_plantHolding V2 (a0) (a1) (fun (V3 : Mm) => (wp_X8_requireInTree V3 (a2) (fun (V4 : Mm) => (wp_X7_meetByClimbing V4 (a1) (a2) (fun (r6 : Int32) (V5 : Mm) => post r6 V5))) px)) px)) px)) px)
set_option maxHeartbeats 4000000 in
theorem c_X8_commonByWalk (d : Nat) (hd : 8 ≤ d) (l : Launch) (hl : l.stackTraces = false) (g : ab_G) (o : Nat → Int64) (D : Nat → UInt64) (a0 : Int32) (a1 : Int32) (a2 : Int32) {V : Mm} {px : String → Mm → Prop} {post : Int32 → Mm → Prop} (h : wp_X8_commonByWalk V a0 a1 a2 post px) : Ct l g tk_strs False d 5 30 yX8_commonByWalk cX8_commonByWalk 4 (some .int) [.ref 0, .int a0, .int a1, .int a2] (SW V o D) (tk_I g (fun r u => ∃ V : Mm, u = SW V o D ∧ post r V)) (fun E u => ∃ V : Mm, u = SW V o D ∧ px E V) := by
  refine ct_in (by decide +kernel) (show 4 ≤ 4 by decide) (by simp [Value.category]) hl (fun X I O _ => ?_)
  show Ab X g 0 0 _ 0 [some (.ref (0)), some (.int (a0)), some (.int (a1)), some (.int (a2))] [] _
  refine ab_aload_n O 0 dX8_commonByWalk_0 rfl rfl ?_
  refine ab_iload_n O 1 dX8_commonByWalk_1 rfl rfl ?_
  refine ab_callvV O I.2.2.2.2.2.2 (fr := False) (st := []) lk_X8_92 rfl (at_0 _ _ _) dX8_commonByWalk_2 (c_X8_requireVertex (d - 1) (by omega) _ O.2.2.2.2.2.2.1 _ _ _ _ h) rfl rfl ⟨by rw [I.2.1]; show d - 1 + 1 ≤ d; omega, by rw [I.2.1]; show 8 + (_ + 11) + 36 * (d - 1) ≤ 36 * d; omega⟩ (show 0 ≤ 8 by decide) ⟨by rw [I.2.1]; show 0 + 1 ≤ 5; decide, by rw [I.2.1]; show 0 + 6 ≤ 30; decide⟩ (fun q => q.elim) (fun E u q => by obtain ⟨V9, rfl, q⟩ := q; exact abx_out O I (by decide) (by decide) ⟨V9, rfl, q⟩) (fun u hu => ?_)
  obtain ⟨V1, rfl, h⟩ := hu
  refine ab_aload_n O 0 dX8_commonByWalk_5 rfl rfl ?_
  refine ab_iload_n O 2 dX8_commonByWalk_6 rfl rfl ?_
  refine ab_iload_n O 3 dX8_commonByWalk_7 rfl rfl ?_
  refine ab_callvV O I.2.2.2.2.2.2 (fr := False) (st := []) lk_X8_102 rfl (at_0 _ _ _) dX8_commonByWalk_8 (c_X8_requireVertices (d - 1) (by omega) _ O.2.2.2.2.2.2.1 _ _ _ _ _ h) rfl rfl ⟨by rw [I.2.1]; show d - 1 + 1 ≤ d; omega, by rw [I.2.1]; show 8 + (_ + 11) + 36 * (d - 1) ≤ 36 * d; omega⟩ (show 0 ≤ 8 by decide) ⟨by rw [I.2.1]; show 1 + 2 ≤ 5; decide, by rw [I.2.1]; show 6 + 12 ≤ 30; decide⟩ (fun q => q.elim) (fun E u q => by obtain ⟨V9, rfl, q⟩ := q; exact abx_out O I (by decide) (by decide) ⟨V9, rfl, q⟩) (fun u hu => ?_)
  obtain ⟨V2, rfl, h⟩ := hu
  refine ab_aload_n O 0 dX8_commonByWalk_11 rfl rfl ?_
  refine ab_iload_n O 1 dX8_commonByWalk_12 rfl rfl ?_
  refine ab_iload_n O 2 dX8_commonByWalk_13 rfl rfl ?_
  refine ab_callvV O I.2.2.2.2.2.2 (fr := False) (st := []) lk_X8_147 rfl (at_0 _ _ _) dX8_commonByWalk_14 (c_X8_plantHolding (d - 1) (by omega) _ O.2.2.2.2.2.2.1 _ _ _ _ _ h) rfl rfl ⟨by rw [I.2.1]; show d - 1 + 1 ≤ d; omega, by rw [I.2.1]; show 8 + (_ + 11) + 36 * (d - 1) ≤ 36 * d; omega⟩ (show 0 ≤ 8 by decide) ⟨by rw [I.2.1]; show 3 + 1 ≤ 5; decide, by rw [I.2.1]; show 18 + 6 ≤ 30; decide⟩ (fun q => q.elim) (fun E u q => by obtain ⟨V9, rfl, q⟩ := q; exact abx_out O I (by decide) (by decide) ⟨V9, rfl, q⟩) (fun u hu => ?_)
  obtain ⟨V3, rfl, h⟩ := hu
  refine ab_aload_n O 0 dX8_commonByWalk_17 rfl rfl ?_
  refine ab_iload_n O 3 dX8_commonByWalk_18 rfl rfl ?_
  refine ab_callvV O I.2.2.2.2.2.2 (fr := False) (st := []) lk_X8_258 rfl (at_0 _ _ _) dX8_commonByWalk_19 (c_X8_requireInTree (d - 1) (by omega) _ O.2.2.2.2.2.2.1 _ _ _ _ h) rfl rfl ⟨by rw [I.2.1]; show d - 1 + 1 ≤ d; omega, by rw [I.2.1]; show 8 + (_ + 11) + 36 * (d - 1) ≤ 36 * d; omega⟩ (show 0 ≤ 8 by decide) ⟨by rw [I.2.1]; show 4 + 1 ≤ 5; decide, by rw [I.2.1]; show 24 + 6 ≤ 30; decide⟩ (fun q => q.elim) (fun E u q => by obtain ⟨V9, rfl, q⟩ := q; exact abx_out O I (by decide) (by decide) ⟨V9, rfl, q⟩) (fun u hu => ?_)
  obtain ⟨V4, rfl, h⟩ := hu
  refine ab_aload_n O 0 dX8_commonByWalk_22 rfl rfl ?_
  refine ab_get O fl_X8_30 dX8_commonByWalk_23 (at_0 _ _ _) rfl ?_
  refine ab_iload_n O 2 dX8_commonByWalk_26 rfl rfl ?_
  refine ab_iload_n O 3 dX8_commonByWalk_27 rfl rfl ?_
  refine ab_callvI O I.2.2.2.2.2.2 (fr := False) (st := []) lk_X8_264 rfl (at_29 _ _ _) dX8_commonByWalk_28 (c_X7_meetByClimbing (d - 1) (by omega) _ O.2.2.2.2.2.2.1 _ _ _ _ _ h) rfl rfl ⟨by rw [I.2.1]; show d - 1 + 1 ≤ d; omega, by rw [I.2.1]; show 8 + (_ + 11) + 36 * (d - 1) ≤ 36 * d; omega⟩ (show 0 ≤ 8 by decide) ⟨by rw [I.2.1]; show 5 + 0 ≤ 5; decide, by rw [I.2.1]; show 30 + 0 ≤ 30; decide⟩ (fun q => q.elim) (fun E u q => q.elim) (fun r6 u hu => ?_)
  obtain ⟨V5, rfl, h⟩ := hu
  exact ab_ireturn O I dX8_commonByWalk_31 (by decide) (by decide) (by rfl) ⟨_, rfl, h⟩

def wp_X8_degree (V : Mm) (a0 : Int32) (post : Int32 → Mm → Prop) (px : String → Mm → Prop) : Prop := (wp_X8_requireVertex V (a0) (fun (V1 : Mm) => (wp_X0_countNeighbours V1 (a0) (fun (r3 : Int32) (V2 : Mm) => post r3 V2))) px)
set_option maxHeartbeats 4000000 in
theorem c_X8_degree (d : Nat) (hd : 7 ≤ d) (l : Launch) (hl : l.stackTraces = false) (g : ab_G) (o : Nat → Int64) (D : Nat → UInt64) (a0 : Int32) {V : Mm} {px : String → Mm → Prop} {post : Int32 → Mm → Prop} (h : wp_X8_degree V a0 post px) : Ct l g tk_strs False d 1 6 yX8_degree cX8_degree 2 (some .int) [.ref 0, .int a0] (SW V o D) (tk_I g (fun r u => ∃ V : Mm, u = SW V o D ∧ post r V)) (fun E u => ∃ V : Mm, u = SW V o D ∧ px E V) := by
  refine ct_in (by decide +kernel) (show 2 ≤ 2 by decide) (by simp [Value.category]) hl (fun X I O _ => ?_)
  show Ab X g 0 0 _ 0 [some (.ref (0)), some (.int (a0))] [] _
  refine ab_aload_n O 0 dX8_degree_0 rfl rfl ?_
  refine ab_iload_n O 1 dX8_degree_1 rfl rfl ?_
  refine ab_callvV O I.2.2.2.2.2.2 (fr := False) (st := []) lk_X8_92 rfl (at_0 _ _ _) dX8_degree_2 (c_X8_requireVertex (d - 1) (by omega) _ O.2.2.2.2.2.2.1 _ _ _ _ h) rfl rfl ⟨by rw [I.2.1]; show d - 1 + 1 ≤ d; omega, by rw [I.2.1]; show 8 + (_ + 11) + 36 * (d - 1) ≤ 36 * d; omega⟩ (show 0 ≤ 8 by decide) ⟨by rw [I.2.1]; show 0 + 1 ≤ 1; decide, by rw [I.2.1]; show 0 + 6 ≤ 6; decide⟩ (fun q => q.elim) (fun E u q => by obtain ⟨V9, rfl, q⟩ := q; exact abx_out O I (by decide) (by decide) ⟨V9, rfl, q⟩) (fun u hu => ?_)
  obtain ⟨V1, rfl, h⟩ := hu
  refine ab_aload_n O 0 dX8_degree_5 rfl rfl ?_
  refine ab_get O fl_X8_21 dX8_degree_6 (at_0 _ _ _) rfl ?_
  refine ab_iload_n O 1 dX8_degree_9 rfl rfl ?_
  refine ab_callvI O I.2.2.2.2.2.2 (fr := False) (st := []) lk_X8_190 rfl (at_7 _ _ _) dX8_degree_10 (c_X0_countNeighbours (d - 1) (by omega) _ O.2.2.2.2.2.2.1 _ _ _ _ h) rfl rfl ⟨by rw [I.2.1]; show d - 1 + 1 ≤ d; omega, by rw [I.2.1]; show 8 + (_ + 11) + 36 * (d - 1) ≤ 36 * d; omega⟩ (show 0 ≤ 8 by decide) ⟨by rw [I.2.1]; show 1 + 0 ≤ 1; decide, by rw [I.2.1]; show 6 + 0 ≤ 6; decide⟩ (fun q => q.elim) (fun E u q => q.elim) (fun r3 u hu => ?_)
  obtain ⟨V2, rfl, h⟩ := hu
  exact ab_ireturn O I dX8_degree_13 (by decide) (by decide) (by rfl) ⟨_, rfl, h⟩

def wp_X8_depth (V : Mm) (a0 a1 : Int32) (post : Int32 → Mm → Prop) (px : String → Mm → Prop) : Prop := (wp_X8_requireVertices V (a0) (a1) (fun (V1 : Mm) => (wp_X8_plantHolding V1 (a0) (a1) (fun (V2 : Mm) => (wp_X7_depthOf V2 (a1) (fun (r4 : Int32) (V3 : Mm) => post r4 V3))) px)) px)
set_option maxHeartbeats 4000000 in
theorem c_X8_depth (d : Nat) (hd : 8 ≤ d) (l : Launch) (hl : l.stackTraces = false) (g : ab_G) (o : Nat → Int64) (D : Nat → UInt64) (a0 : Int32) (a1 : Int32) {V : Mm} {px : String → Mm → Prop} {post : Int32 → Mm → Prop} (h : wp_X8_depth V a0 a1 post px) : Ct l g tk_strs False d 3 18 yX8_depth cX8_depth 3 (some .int) [.ref 0, .int a0, .int a1] (SW V o D) (tk_I g (fun r u => ∃ V : Mm, u = SW V o D ∧ post r V)) (fun E u => ∃ V : Mm, u = SW V o D ∧ px E V) := by
  refine ct_in (by decide +kernel) (show 3 ≤ 3 by decide) (by simp [Value.category]) hl (fun X I O _ => ?_)
  show Ab X g 0 0 _ 0 [some (.ref (0)), some (.int (a0)), some (.int (a1))] [] _
  refine ab_aload_n O 0 dX8_depth_0 rfl rfl ?_
  refine ab_iload_n O 1 dX8_depth_1 rfl rfl ?_
  refine ab_iload_n O 2 dX8_depth_2 rfl rfl ?_
  refine ab_callvV O I.2.2.2.2.2.2 (fr := False) (st := []) lk_X8_102 rfl (at_0 _ _ _) dX8_depth_3 (c_X8_requireVertices (d - 1) (by omega) _ O.2.2.2.2.2.2.1 _ _ _ _ _ h) rfl rfl ⟨by rw [I.2.1]; show d - 1 + 1 ≤ d; omega, by rw [I.2.1]; show 8 + (_ + 11) + 36 * (d - 1) ≤ 36 * d; omega⟩ (show 0 ≤ 8 by decide) ⟨by rw [I.2.1]; show 0 + 2 ≤ 3; decide, by rw [I.2.1]; show 0 + 12 ≤ 18; decide⟩ (fun q => q.elim) (fun E u q => by obtain ⟨V9, rfl, q⟩ := q; exact abx_out O I (by decide) (by decide) ⟨V9, rfl, q⟩) (fun u hu => ?_)
  obtain ⟨V1, rfl, h⟩ := hu
  refine ab_aload_n O 0 dX8_depth_6 rfl rfl ?_
  refine ab_iload_n O 1 dX8_depth_7 rfl rfl ?_
  refine ab_iload_n O 2 dX8_depth_8 rfl rfl ?_
  refine ab_callvV O I.2.2.2.2.2.2 (fr := False) (st := []) lk_X8_147 rfl (at_0 _ _ _) dX8_depth_9 (c_X8_plantHolding (d - 1) (by omega) _ O.2.2.2.2.2.2.1 _ _ _ _ _ h) rfl rfl ⟨by rw [I.2.1]; show d - 1 + 1 ≤ d; omega, by rw [I.2.1]; show 8 + (_ + 11) + 36 * (d - 1) ≤ 36 * d; omega⟩ (show 0 ≤ 8 by decide) ⟨by rw [I.2.1]; show 2 + 1 ≤ 3; decide, by rw [I.2.1]; show 12 + 6 ≤ 18; decide⟩ (fun q => q.elim) (fun E u q => by obtain ⟨V9, rfl, q⟩ := q; exact abx_out O I (by decide) (by decide) ⟨V9, rfl, q⟩) (fun u hu => ?_)
  obtain ⟨V2, rfl, h⟩ := hu
  refine ab_aload_n O 0 dX8_depth_12 rfl rfl ?_
  refine ab_get O fl_X8_30 dX8_depth_13 (at_0 _ _ _) rfl ?_
  refine ab_iload_n O 2 dX8_depth_16 rfl rfl ?_
  refine ab_callvI O I.2.2.2.2.2.2 (fr := False) (st := []) lk_X8_153 rfl (at_29 _ _ _) dX8_depth_17 (c_X7_depthOf (d - 1) (by omega) _ O.2.2.2.2.2.2.1 _ _ _ _ h) rfl rfl ⟨by rw [I.2.1]; show d - 1 + 1 ≤ d; omega, by rw [I.2.1]; show 8 + (_ + 11) + 36 * (d - 1) ≤ 36 * d; omega⟩ (show 0 ≤ 8 by decide) ⟨by rw [I.2.1]; show 3 + 0 ≤ 3; decide, by rw [I.2.1]; show 18 + 0 ≤ 18; decide⟩ (fun q => q.elim) (fun E u q => q.elim) (fun r4 u hu => ?_)
  obtain ⟨V3, rfl, h⟩ := hu
  exact ab_ireturn O I dX8_depth_20 (by decide) (by decide) (by rfl) ⟨_, rfl, h⟩

def wp_X8_diameter (V : Mm) (a0 : Int32) (post : Int32 → Mm → Prop) (px : String → Mm → Prop) : Prop := (wp_X8_requireVertex V (a0) (fun (V1 : Mm) => (wp_X7_plant V1 (a0) ((-1)) (fun (V2 : Mm) => (wp_X7_deepest V2 (fun (r4 : Int32) (V3 : Mm) => (wp_X7_plant V3 (r4) ((-1)) (fun (V5 : Mm) => (wp_X7_deepest V5 (fun (r7 : Int32) (V6 : Mm) => (wp_X7_depthOf V6 (r7) (fun (r9 : Int32) (V8 : Mm) => post r9 V8))))))))))) px)
set_option maxHeartbeats 4000000 in
theorem c_X8_diameter (d : Nat) (hd : 7 ≤ d) (l : Launch) (hl : l.stackTraces = false) (g : ab_G) (o : Nat → Int64) (D : Nat → UInt64) (a0 : Int32) {V : Mm} {px : String → Mm → Prop} {post : Int32 → Mm → Prop} (h : wp_X8_diameter V a0 post px) : Ct l g tk_strs False d 1 6 yX8_diameter cX8_diameter 2 (some .int) [.ref 0, .int a0] (SW V o D) (tk_I g (fun r u => ∃ V : Mm, u = SW V o D ∧ post r V)) (fun E u => ∃ V : Mm, u = SW V o D ∧ px E V) := by
  refine ct_in (by decide +kernel) (show 2 ≤ 2 by decide) (by simp [Value.category]) hl (fun X I O _ => ?_)
  show Ab X g 0 0 _ 0 [some (.ref (0)), some (.int (a0))] [] _
  refine ab_aload_n O 0 dX8_diameter_0 rfl rfl ?_
  refine ab_iload_n O 1 dX8_diameter_1 rfl rfl ?_
  refine ab_callvV O I.2.2.2.2.2.2 (fr := False) (st := []) lk_X8_92 rfl (at_0 _ _ _) dX8_diameter_2 (c_X8_requireVertex (d - 1) (by omega) _ O.2.2.2.2.2.2.1 _ _ _ _ h) rfl rfl ⟨by rw [I.2.1]; show d - 1 + 1 ≤ d; omega, by rw [I.2.1]; show 8 + (_ + 11) + 36 * (d - 1) ≤ 36 * d; omega⟩ (show 0 ≤ 8 by decide) ⟨by rw [I.2.1]; show 0 + 1 ≤ 1; decide, by rw [I.2.1]; show 0 + 6 ≤ 6; decide⟩ (fun q => q.elim) (fun E u q => by obtain ⟨V9, rfl, q⟩ := q; exact abx_out O I (by decide) (by decide) ⟨V9, rfl, q⟩) (fun u hu => ?_)
  obtain ⟨V1, rfl, h⟩ := hu
  refine ab_aload_n O 0 dX8_diameter_5 rfl rfl ?_
  refine ab_get O fl_X8_30 dX8_diameter_6 (at_0 _ _ _) rfl ?_
  refine ab_iload_n O 1 dX8_diameter_9 rfl rfl ?_
  refine ab_iconst O (-1) dX8_diameter_10 rfl ?_
  refine ab_callvV O I.2.2.2.2.2.2 (fr := False) (st := []) lk_X8_198 rfl (at_29 _ _ _) dX8_diameter_11 (c_X7_plant (d - 1) (by omega) _ O.2.2.2.2.2.2.1 _ _ _ _ _ h) rfl rfl ⟨by rw [I.2.1]; show d - 1 + 1 ≤ d; omega, by rw [I.2.1]; show 8 + (_ + 11) + 36 * (d - 1) ≤ 36 * d; omega⟩ (show 0 ≤ 8 by decide) ⟨by rw [I.2.1]; show 1 + 0 ≤ 1; decide, by rw [I.2.1]; show 6 + 0 ≤ 6; decide⟩ (fun q => q.elim) (fun E u q => q.elim) (fun u hu => ?_)
  obtain ⟨V2, rfl, h⟩ := hu
  refine ab_aload_n O 0 dX8_diameter_14 rfl rfl ?_
  refine ab_get O fl_X8_30 dX8_diameter_15 (at_0 _ _ _) rfl ?_
  refine ab_aload_n O 0 dX8_diameter_18 rfl rfl ?_
  refine ab_get O fl_X8_30 dX8_diameter_19 (at_0 _ _ _) rfl ?_
  refine ab_callvI O I.2.2.2.2.2.2 (fr := False) (st := [.ref (29)]) lk_X8_287 rfl (at_29 _ _ _) dX8_diameter_22 (c_X7_deepest (d - 1) (by omega) _ O.2.2.2.2.2.2.1 _ _ _ h) rfl rfl ⟨by rw [I.2.1]; show d - 1 + 1 ≤ d; omega, by rw [I.2.1]; show 8 + (_ + 11) + 36 * (d - 1) ≤ 36 * d; omega⟩ (show 1 ≤ 8 by decide) ⟨by rw [I.2.1]; show 1 + 0 ≤ 1; decide, by rw [I.2.1]; show 6 + 0 ≤ 6; decide⟩ (fun q => q.elim) (fun E u q => q.elim) (fun r4 u hu => ?_)
  obtain ⟨V3, rfl, h⟩ := hu
  refine ab_iconst O (-1) dX8_diameter_25 rfl ?_
  refine ab_callvV O I.2.2.2.2.2.2 (fr := False) (st := []) lk_X8_198 rfl (at_29 _ _ _) dX8_diameter_26 (c_X7_plant (d - 1) (by omega) _ O.2.2.2.2.2.2.1 _ _ _ _ _ h) rfl rfl ⟨by rw [I.2.1]; show d - 1 + 1 ≤ d; omega, by rw [I.2.1]; show 8 + (_ + 11) + 36 * (d - 1) ≤ 36 * d; omega⟩ (show 0 ≤ 8 by decide) ⟨by rw [I.2.1]; show 1 + 0 ≤ 1; decide, by rw [I.2.1]; show 6 + 0 ≤ 6; decide⟩ (fun q => q.elim) (fun E u q => q.elim) (fun u hu => ?_)
  obtain ⟨V5, rfl, h⟩ := hu
  refine ab_aload_n O 0 dX8_diameter_29 rfl rfl ?_
  refine ab_get O fl_X8_30 dX8_diameter_30 (at_0 _ _ _) rfl ?_
  refine ab_aload_n O 0 dX8_diameter_33 rfl rfl ?_
  refine ab_get O fl_X8_30 dX8_diameter_34 (at_0 _ _ _) rfl ?_
  refine ab_callvI O I.2.2.2.2.2.2 (fr := False) (st := [.ref (29)]) lk_X8_287 rfl (at_29 _ _ _) dX8_diameter_37 (c_X7_deepest (d - 1) (by omega) _ O.2.2.2.2.2.2.1 _ _ _ h) rfl rfl ⟨by rw [I.2.1]; show d - 1 + 1 ≤ d; omega, by rw [I.2.1]; show 8 + (_ + 11) + 36 * (d - 1) ≤ 36 * d; omega⟩ (show 1 ≤ 8 by decide) ⟨by rw [I.2.1]; show 1 + 0 ≤ 1; decide, by rw [I.2.1]; show 6 + 0 ≤ 6; decide⟩ (fun q => q.elim) (fun E u q => q.elim) (fun r7 u hu => ?_)
  obtain ⟨V6, rfl, h⟩ := hu
  refine ab_callvI O I.2.2.2.2.2.2 (fr := False) (st := []) lk_X8_153 rfl (at_29 _ _ _) dX8_diameter_40 (c_X7_depthOf (d - 1) (by omega) _ O.2.2.2.2.2.2.1 _ _ _ _ h) rfl rfl ⟨by rw [I.2.1]; show d - 1 + 1 ≤ d; omega, by rw [I.2.1]; show 8 + (_ + 11) + 36 * (d - 1) ≤ 36 * d; omega⟩ (show 0 ≤ 8 by decide) ⟨by rw [I.2.1]; show 1 + 0 ≤ 1; decide, by rw [I.2.1]; show 6 + 0 ≤ 6; decide⟩ (fun q => q.elim) (fun E u q => q.elim) (fun r9 u hu => ?_)
  obtain ⟨V8, rfl, h⟩ := hu
  exact ab_ireturn O I dX8_diameter_43 (by decide) (by decide) (by rfl) ⟨_, rfl, h⟩

def wp_X8_greatestDepth_L4 (post : Int32 → Mm → Prop) (kx : Mm → Int32 → Int32 → Prop) : Nat → Mm → Int32 → Int32 → Prop
  | 0, _, _, _ => False
  | n4 + 1, V, x4_1, x4_2 => (wp_X3_vertexCount V (fun (r2 : Int32) (V1 : Mm) => ((r2 ≤ x4_2 → kx (V1) (x4_1) (x4_2)) ∧ (¬ r2 ≤ x4_2 → (wp_X7_holds V1 (x4_2) (fun (r5 : Int32) (V4 : Mm) => ((r5 = 0 → wp_X8_greatestDepth_L4 post kx n4 (V4) (x4_1) ((x4_2 + (1)))) ∧ (¬ r5 = 0 → (wp_X7_depthOf V4 (x4_2) (fun (r8 : Int32) (V7 : Mm) => wp_X8_greatestDepth_L4 post kx n4 (V7) ((if x4_1 < r8 then r8 else x4_1)) ((x4_2 + (1)))))))))))))

def wp_X8_greatestDepth (V : Mm) (post : Int32 → Mm → Prop) : Prop := (∃ m4 : Nat, wp_X8_greatestDepth_L4 post (fun (V9 : Mm) (x10 : Int32) (x11 : Int32) => post x10 V9) m4 (V) (0) (0))
set_option maxHeartbeats 4000000 in
theorem cl_X8_greatestDepth_L4 {X : ab_M} {g : ab_G} {l : Launch} {d : Nat} (hd : 3 ≤ d) {post : Int32 → Mm → Prop} {kx : Mm → Int32 → Int32 → Prop} {o : Nat → Int64} {D : Nat → UInt64} (O : ab_Ok X g cX8_greatestDepth RX8) (I : ab_I X l tk_strs 3 (some .int) yX8_greatestDepth.name d 0 0) (hk : ∀ (V : Mm) (x4_1 : Int32) (x4_2 : Int32), kx V x4_1 x4_2 → Ab X g 0 0 (tk_Q X g (tk_I g (fun r u => ∃ V : Mm, u = SW V o D ∧ post r V)) (fun _ _ => False) 0 0) 45 [none, some (.int (x4_1)), none] [] (SW V o D)) : ∀ (n : Nat) (V : Mm) (x4_1 : Int32) (x4_2 : Int32), wp_X8_greatestDepth_L4 post kx n V x4_1 x4_2 → Ab X g 0 0 (tk_Q X g (tk_I g (fun r u => ∃ V : Mm, u = SW V o D ∧ post r V)) (fun _ _ => False) 0 0) 4 [some (.ref (0)), some (.int (x4_1)), some (.int (x4_2))] [] (SW V o D) := by
  intro n
  induction n with
  | zero => intro V x4_1 x4_2 h; exact h.elim
  | succ n ih =>
    intro V x4_1 x4_2 h
    refine ab_iload_n O 2 dX8_greatestDepth_4 rfl rfl ?_
    refine ab_aload_n O 0 dX8_greatestDepth_5 rfl rfl ?_
    refine ab_get O fl_X8_10 dX8_greatestDepth_6 (at_0 _ _ _) rfl ?_
    refine ab_callvI O I.2.2.2.2.2.2 (fr := False) (st := [.int (x4_2)]) lk_X8_77 rfl (at_1 _ _ _) dX8_greatestDepth_9 (c_X3_vertexCount (d - 1) (by omega) _ O.2.2.2.2.2.2.1 _ _ _ h) rfl rfl ⟨by rw [I.2.1]; show d - 1 + 1 ≤ d; omega, by rw [I.2.1]; show 8 + (_ + 11) + 36 * (d - 1) ≤ 36 * d; omega⟩ (show 1 ≤ 8 by decide) ⟨by rw [I.2.1]; show 0 + 0 ≤ 0; decide, by rw [I.2.1]; show 0 + 0 ≤ 0; decide⟩ (fun q => q.elim) (fun E u q => q.elim) (fun r2 u hu => ?_)
    obtain ⟨V1, rfl, h⟩ := hu
    refine ab_icmp_ge O 45 dX8_greatestDepth_12 rfl (fun q3 => ?_) (fun q3 => ?_)
    · have h := h.1 q3
      exact ab_less (hk (V1) (x4_1) (x4_2) h) (ab_le_n (ab_le_s (ab_le_n ab_le_0)))
    · have h := h.2 q3
      refine ab_aload_n O 0 dX8_greatestDepth_15 rfl rfl ?_
      refine ab_get O fl_X8_30 dX8_greatestDepth_16 (at_0 _ _ _) rfl ?_
      refine ab_iload_n O 2 dX8_greatestDepth_19 rfl rfl ?_
      refine ab_callvI O I.2.2.2.2.2.2 (fr := False) (st := []) lk_X8_201 rfl (at_29 _ _ _) dX8_greatestDepth_20 (c_X7_holds (d - 1) (by omega) _ O.2.2.2.2.2.2.1 _ _ _ _ h) rfl rfl ⟨by rw [I.2.1]; show d - 1 + 1 ≤ d; omega, by rw [I.2.1]; show 8 + (_ + 11) + 36 * (d - 1) ≤ 36 * d; omega⟩ (show 0 ≤ 8 by decide) ⟨by rw [I.2.1]; show 0 + 0 ≤ 0; decide, by rw [I.2.1]; show 0 + 0 ≤ 0; decide⟩ (fun q => q.elim) (fun E u q => q.elim) (fun r5 u hu => ?_)
      obtain ⟨V4, rfl, h⟩ := hu
      refine ab_if_eq O 39 dX8_greatestDepth_23 rfl (fun q6 => ?_) (fun q6 => ?_)
      · have h := h.1 q6
        refine ab_iinc O ((x4_2 + (1))) dX8_greatestDepth_39 rfl rfl ?_
        refine ab_goto O 4 dX8_greatestDepth_42 rfl ?_
        exact ab_less (ih (V4) (x4_1) ((x4_2 + (1))) h) (ab_le_s (ab_le_s (ab_le_s ab_le_0)))
      · have h := h.2 q6
        refine ab_iload_n O 1 dX8_greatestDepth_26 rfl rfl ?_
        refine ab_aload_n O 0 dX8_greatestDepth_27 rfl rfl ?_
        refine ab_get O fl_X8_30 dX8_greatestDepth_28 (at_0 _ _ _) rfl ?_
        refine ab_iload_n O 2 dX8_greatestDepth_31 rfl rfl ?_
        refine ab_callvI O I.2.2.2.2.2.2 (fr := False) (st := [.int (x4_1)]) lk_X8_153 rfl (at_29 _ _ _) dX8_greatestDepth_32 (c_X7_depthOf (d - 1) (by omega) _ O.2.2.2.2.2.2.1 _ _ _ _ h) rfl rfl ⟨by rw [I.2.1]; show d - 1 + 1 ≤ d; omega, by rw [I.2.1]; show 8 + (_ + 11) + 36 * (d - 1) ≤ 36 * d; omega⟩ (show 1 ≤ 8 by decide) ⟨by rw [I.2.1]; show 0 + 0 ≤ 0; decide, by rw [I.2.1]; show 0 + 0 ≤ 0; decide⟩ (fun q => q.elim) (fun E u q => q.elim) (fun r8 u hu => ?_)
        obtain ⟨V7, rfl, h⟩ := hu
        refine ab_max O dX8_greatestDepth_35 lm_X8_293 mm_s mm_i mm_c (by rw [I.2.1]; show 1 ≤ d; omega) (by rw [I.2.1]; show 0 + 13 ≤ 36 * d; omega) (by rw [I.2.1]; show 0 ≤ 0; decide) (by rw [I.2.1]; show 0 ≤ 0; decide) ?_
        refine ab_istore_n O 1 dX8_greatestDepth_38 rfl (show 1 < 3 by decide) ?_
        refine ab_iinc O ((x4_2 + (1))) dX8_greatestDepth_39 rfl rfl ?_
        refine ab_goto O 4 dX8_greatestDepth_42 rfl ?_
        exact ab_less (ih (V7) ((if x4_1 < r8 then r8 else x4_1)) ((x4_2 + (1))) h) (ab_le_s (ab_le_s (ab_le_s ab_le_0)))
set_option maxHeartbeats 4000000 in
theorem c_X8_greatestDepth (d : Nat) (hd : 3 ≤ d) (l : Launch) (hl : l.stackTraces = false) (g : ab_G) (o : Nat → Int64) (D : Nat → UInt64) {V : Mm} {post : Int32 → Mm → Prop} (h : wp_X8_greatestDepth V post) : Ct l g tk_strs False d 0 0 yX8_greatestDepth cX8_greatestDepth 3 (some .int) [.ref 0] (SW V o D) (tk_I g (fun r u => ∃ V : Mm, u = SW V o D ∧ post r V)) (fun _ _ => False) := by
  refine ct_in (by decide +kernel) (show 1 ≤ 3 by decide) (by simp [Value.category]) hl (fun X I O _ => ?_)
  show Ab X g 0 0 _ 0 [some (.ref (0)), none, none] [] _
  refine ab_iconst O 0 dX8_greatestDepth_0 rfl ?_
  refine ab_istore_n O 1 dX8_greatestDepth_1 rfl (show 1 < 3 by decide) ?_
  refine ab_iconst O 0 dX8_greatestDepth_2 rfl ?_
  refine ab_istore_n O 2 dX8_greatestDepth_3 rfl (show 2 < 3 by decide) ?_
  obtain ⟨n9, h⟩ := h
  refine ab_less (cl_X8_greatestDepth_L4 hd O I (fun V9 x10 x11 h => ?_) n9 (V) (0) (0) h) (ab_le_s (ab_le_s (ab_le_s ab_le_0)))
  refine ab_iload_n O 1 dX8_greatestDepth_45 rfl rfl ?_
  exact ab_ireturn O I dX8_greatestDepth_46 (by decide) (by decide) (by rfl) ⟨_, rfl, h⟩

def wp_X8_diameterByTrying_L9 (y9_1 : Int32) (post : Int32 → Mm → Prop) (px : String → Mm → Prop) (kx : Mm → Int32 → Int32 → Prop) : Nat → Mm → Int32 → Int32 → Prop
  | 0, _, _, _ => False
  | n9 + 1, V, x9_2, x9_3 => (wp_X3_vertexCount V (fun (r3 : Int32) (V2 : Mm) => ((r3 ≤ x9_3 → kx (V2) (x9_2) (x9_3)) ∧ (¬ r3 ≤ x9_3 → (wp_X7_plant V2 (x9_3) ((-1)) (fun (V5 : Mm) => (wp_X7_holds V5 (y9_1) (fun (r7 : Int32) (V6 : Mm) => ((r7 = 0 → wp_X8_diameterByTrying_L9 y9_1 post px kx n9 (V6) (x9_2) ((x9_3 + (1)))) ∧ (¬ r7 = 0 → (wp_X8_greatestDepth V6 (fun (r10 : Int32) (V9 : Mm) => wp_X8_diameterByTrying_L9 y9_1 post px kx n9 (V9) ((if x9_2 < r10 then r10 else x9_2)) ((x9_3 + (1)))))))))))))))

def wp_X8_diameterByTrying (V : Mm) (a0 : Int32) (post : Int32 → Mm → Prop) (px : String → Mm → Prop) : Prop := (wp_X8_requireVertex V (a0) (fun (V1 : Mm) => (∃ m9 : Nat, wp_X8_diameterByTrying_L9 (a0) post px (fun (V11 : Mm) (x12 : Int32) (x13 : Int32) => post x12 V11) m9 (V1) (0) (0))) px)
set_option maxHeartbeats 4000000 in
theorem cl_X8_diameterByTrying_L9 {X : ab_M} {g : ab_G} {l : Launch} {d : Nat} (hd : 7 ≤ d) (y9_1 : Int32) {post : Int32 → Mm → Prop} {px : String → Mm → Prop} {kx : Mm → Int32 → Int32 → Prop} {o : Nat → Int64} {D : Nat → UInt64} (O : ab_Ok X g cX8_diameterByTrying RX8) (I : ab_I X l tk_strs 4 (some .int) yX8_diameterByTrying.name d 1 6) (hk : ∀ (V : Mm) (x9_2 : Int32) (x9_3 : Int32), kx V x9_2 x9_3 → Ab X g 1 6 (tk_Q X g (tk_I g (fun r u => ∃ V : Mm, u = SW V o D ∧ post r V)) (fun E u => ∃ V : Mm, u = SW V o D ∧ px E V) 1 6) 55 [none, none, some (.int (x9_2)), none] [] (SW V o D)) : ∀ (n : Nat) (V : Mm) (x9_2 : Int32) (x9_3 : Int32), wp_X8_diameterByTrying_L9 y9_1 post px kx n V x9_2 x9_3 → Ab X g 1 6 (tk_Q X g (tk_I g (fun r u => ∃ V : Mm, u = SW V o D ∧ post r V)) (fun E u => ∃ V : Mm, u = SW V o D ∧ px E V) 1 6) 9 [some (.ref (0)), some (.int (y9_1)), some (.int (x9_2)), some (.int (x9_3))] [] (SW V o D) := by
  intro n
  induction n with
  | zero => intro V x9_2 x9_3 h; exact h.elim
  | succ n ih =>
    intro V x9_2 x9_3 h
    refine ab_iload_n O 3 dX8_diameterByTrying_9 rfl rfl ?_
    refine ab_aload_n O 0 dX8_diameterByTrying_10 rfl rfl ?_
    refine ab_get O fl_X8_10 dX8_diameterByTrying_11 (at_0 _ _ _) rfl ?_
    refine ab_callvI O I.2.2.2.2.2.2 (fr := False) (st := [.int (x9_3)]) lk_X8_77 rfl (at_1 _ _ _) dX8_diameterByTrying_14 (c_X3_vertexCount (d - 1) (by omega) _ O.2.2.2.2.2.2.1 _ _ _ h) rfl rfl ⟨by rw [I.2.1]; show d - 1 + 1 ≤ d; omega, by rw [I.2.1]; show 8 + (_ + 11) + 36 * (d - 1) ≤ 36 * d; omega⟩ (show 1 ≤ 8 by decide) ⟨by rw [I.2.1]; show 1 + 0 ≤ 1; decide, by rw [I.2.1]; show 6 + 0 ≤ 6; decide⟩ (fun q => q.elim) (fun E u q => q.elim) (fun r3 u hu => ?_)
    obtain ⟨V2, rfl, h⟩ := hu
    refine ab_icmp_ge O 55 dX8_diameterByTrying_17 rfl (fun q4 => ?_) (fun q4 => ?_)
    · have h := h.1 q4
      exact ab_less (hk (V2) (x9_2) (x9_3) h) (ab_le_n (ab_le_n (ab_le_s (ab_le_n ab_le_0))))
    · have h := h.2 q4
      refine ab_aload_n O 0 dX8_diameterByTrying_20 rfl rfl ?_
      refine ab_get O fl_X8_30 dX8_diameterByTrying_21 (at_0 _ _ _) rfl ?_
      refine ab_iload_n O 3 dX8_diameterByTrying_24 rfl rfl ?_
      refine ab_iconst O (-1) dX8_diameterByTrying_25 rfl ?_
      refine ab_callvV O I.2.2.2.2.2.2 (fr := False) (st := []) lk_X8_198 rfl (at_29 _ _ _) dX8_diameterByTrying_26 (c_X7_plant (d - 1) (by omega) _ O.2.2.2.2.2.2.1 _ _ _ _ _ h) rfl rfl ⟨by rw [I.2.1]; show d - 1 + 1 ≤ d; omega, by rw [I.2.1]; show 8 + (_ + 11) + 36 * (d - 1) ≤ 36 * d; omega⟩ (show 0 ≤ 8 by decide) ⟨by rw [I.2.1]; show 1 + 0 ≤ 1; decide, by rw [I.2.1]; show 6 + 0 ≤ 6; decide⟩ (fun q => q.elim) (fun E u q => q.elim) (fun u hu => ?_)
      obtain ⟨V5, rfl, h⟩ := hu
      refine ab_aload_n O 0 dX8_diameterByTrying_29 rfl rfl ?_
      refine ab_get O fl_X8_30 dX8_diameterByTrying_30 (at_0 _ _ _) rfl ?_
      refine ab_iload_n O 1 dX8_diameterByTrying_33 rfl rfl ?_
      refine ab_callvI O I.2.2.2.2.2.2 (fr := False) (st := []) lk_X8_201 rfl (at_29 _ _ _) dX8_diameterByTrying_34 (c_X7_holds (d - 1) (by omega) _ O.2.2.2.2.2.2.1 _ _ _ _ h) rfl rfl ⟨by rw [I.2.1]; show d - 1 + 1 ≤ d; omega, by rw [I.2.1]; show 8 + (_ + 11) + 36 * (d - 1) ≤ 36 * d; omega⟩ (show 0 ≤ 8 by decide) ⟨by rw [I.2.1]; show 1 + 0 ≤ 1; decide, by rw [I.2.1]; show 6 + 0 ≤ 6; decide⟩ (fun q => q.elim) (fun E u q => q.elim) (fun r7 u hu => ?_)
      obtain ⟨V6, rfl, h⟩ := hu
      refine ab_if_eq O 49 dX8_diameterByTrying_37 rfl (fun q8 => ?_) (fun q8 => ?_)
      · have h := h.1 q8
        refine ab_iinc O ((x9_3 + (1))) dX8_diameterByTrying_49 rfl rfl ?_
        refine ab_goto O 9 dX8_diameterByTrying_52 rfl ?_
        exact ab_less (ih (V6) (x9_2) ((x9_3 + (1))) h) (ab_le_s (ab_le_s (ab_le_s (ab_le_s ab_le_0))))
      · have h := h.2 q8
        refine ab_iload_n O 2 dX8_diameterByTrying_40 rfl rfl ?_
        refine ab_aload_n O 0 dX8_diameterByTrying_41 rfl rfl ?_
        refine ab_callvI O I.2.2.2.2.2.2 (fr := False) (st := [.int (x9_2)]) lk_X8_290 rfl (at_0 _ _ _) dX8_diameterByTrying_42 (c_X8_greatestDepth (d - 1) (by omega) _ O.2.2.2.2.2.2.1 _ _ _ h) rfl rfl ⟨by rw [I.2.1]; show d - 1 + 1 ≤ d; omega, by rw [I.2.1]; show 8 + (_ + 11) + 36 * (d - 1) ≤ 36 * d; omega⟩ (show 1 ≤ 8 by decide) ⟨by rw [I.2.1]; show 1 + 0 ≤ 1; decide, by rw [I.2.1]; show 6 + 0 ≤ 6; decide⟩ (fun q => q.elim) (fun E u q => q.elim) (fun r10 u hu => ?_)
        obtain ⟨V9, rfl, h⟩ := hu
        refine ab_max O dX8_diameterByTrying_45 lm_X8_293 mm_s mm_i mm_c (by rw [I.2.1]; show 1 ≤ d; omega) (by rw [I.2.1]; show 0 + 13 ≤ 36 * d; omega) (by rw [I.2.1]; show 1 ≤ 1; decide) (by rw [I.2.1]; show 6 ≤ 6; decide) ?_
        refine ab_istore_n O 2 dX8_diameterByTrying_48 rfl (show 2 < 4 by decide) ?_
        refine ab_iinc O ((x9_3 + (1))) dX8_diameterByTrying_49 rfl rfl ?_
        refine ab_goto O 9 dX8_diameterByTrying_52 rfl ?_
        exact ab_less (ih (V9) ((if x9_2 < r10 then r10 else x9_2)) ((x9_3 + (1))) h) (ab_le_s (ab_le_s (ab_le_s (ab_le_s ab_le_0))))
set_option maxHeartbeats 4000000 in
theorem c_X8_diameterByTrying (d : Nat) (hd : 7 ≤ d) (l : Launch) (hl : l.stackTraces = false) (g : ab_G) (o : Nat → Int64) (D : Nat → UInt64) (a0 : Int32) {V : Mm} {px : String → Mm → Prop} {post : Int32 → Mm → Prop} (h : wp_X8_diameterByTrying V a0 post px) : Ct l g tk_strs False d 1 6 yX8_diameterByTrying cX8_diameterByTrying 4 (some .int) [.ref 0, .int a0] (SW V o D) (tk_I g (fun r u => ∃ V : Mm, u = SW V o D ∧ post r V)) (fun E u => ∃ V : Mm, u = SW V o D ∧ px E V) := by
  refine ct_in (by decide +kernel) (show 2 ≤ 4 by decide) (by simp [Value.category]) hl (fun X I O _ => ?_)
  show Ab X g 0 0 _ 0 [some (.ref (0)), some (.int (a0)), none, none] [] _
  refine ab_aload_n O 0 dX8_diameterByTrying_0 rfl rfl ?_
  refine ab_iload_n O 1 dX8_diameterByTrying_1 rfl rfl ?_
  refine ab_callvV O I.2.2.2.2.2.2 (fr := False) (st := []) lk_X8_92 rfl (at_0 _ _ _) dX8_diameterByTrying_2 (c_X8_requireVertex (d - 1) (by omega) _ O.2.2.2.2.2.2.1 _ _ _ _ h) rfl rfl ⟨by rw [I.2.1]; show d - 1 + 1 ≤ d; omega, by rw [I.2.1]; show 8 + (_ + 11) + 36 * (d - 1) ≤ 36 * d; omega⟩ (show 0 ≤ 8 by decide) ⟨by rw [I.2.1]; show 0 + 1 ≤ 1; decide, by rw [I.2.1]; show 0 + 6 ≤ 6; decide⟩ (fun q => q.elim) (fun E u q => by obtain ⟨V9, rfl, q⟩ := q; exact abx_out O I (by decide) (by decide) ⟨V9, rfl, q⟩) (fun u hu => ?_)
  obtain ⟨V1, rfl, h⟩ := hu
  refine ab_iconst O 0 dX8_diameterByTrying_5 rfl ?_
  refine ab_istore_n O 2 dX8_diameterByTrying_6 rfl (show 2 < 4 by decide) ?_
  refine ab_iconst O 0 dX8_diameterByTrying_7 rfl ?_
  refine ab_istore_n O 3 dX8_diameterByTrying_8 rfl (show 3 < 4 by decide) ?_
  obtain ⟨n9, h⟩ := h
  refine ab_less (cl_X8_diameterByTrying_L9 hd (a0) O I (fun V11 x12 x13 h => ?_) n9 (V1) (0) (0) h) (ab_le_s (ab_le_s (ab_le_s (ab_le_s ab_le_0))))
  refine ab_iload_n O 2 dX8_diameterByTrying_55 rfl rfl ?_
  exact ab_ireturn O I dX8_diameterByTrying_56 (by decide) (by decide) (by rfl) ⟨_, rfl, h⟩

def wp_X8_edges (V : Mm) (post : Int32 → Mm → Prop) : Prop := (wp_X3_edgeCount V (fun (r2 : Int32) (V1 : Mm) => post r2 V1))
set_option maxHeartbeats 4000000 in
theorem c_X8_edges (d : Nat) (hd : 1 ≤ d) (l : Launch) (hl : l.stackTraces = false) (g : ab_G) (o : Nat → Int64) (D : Nat → UInt64) {V : Mm} {post : Int32 → Mm → Prop} (h : wp_X8_edges V post) : Ct l g tk_strs False d 0 0 yX8_edges cX8_edges 1 (some .int) [.ref 0] (SW V o D) (tk_I g (fun r u => ∃ V : Mm, u = SW V o D ∧ post r V)) (fun _ _ => False) := by
  refine ct_in (by decide +kernel) (show 1 ≤ 1 by decide) (by simp [Value.category]) hl (fun X I O _ => ?_)
  show Ab X g 0 0 _ 0 [some (.ref (0))] [] _
  refine ab_aload_n O 0 dX8_edges_0 rfl rfl ?_
  refine ab_get O fl_X8_10 dX8_edges_1 (at_0 _ _ _) rfl ?_
  refine ab_callvI O I.2.2.2.2.2.2 (fr := False) (st := []) lk_X8_111 rfl (at_1 _ _ _) dX8_edges_4 (c_X3_edgeCount (d - 1) (by omega) _ O.2.2.2.2.2.2.1 _ _ _ h) rfl rfl ⟨by rw [I.2.1]; show d - 1 + 1 ≤ d; omega, by rw [I.2.1]; show 8 + (_ + 11) + 36 * (d - 1) ≤ 36 * d; omega⟩ (show 0 ≤ 8 by decide) ⟨by rw [I.2.1]; show 0 + 0 ≤ 0; decide, by rw [I.2.1]; show 0 + 0 ≤ 0; decide⟩ (fun q => q.elim) (fun E u q => q.elim) (fun r2 u hu => ?_)
  obtain ⟨V1, rfl, h⟩ := hu
  exact ab_ireturn O I dX8_edges_7 (by decide) (by decide) (by rfl) ⟨_, rfl, h⟩

def wp_X8_forestWeight (V : Mm) (post : Int32 → Mm → Prop) : Prop := (wp_X0_weightSum V (fun (r2 : Int32) (V1 : Mm) => post r2 V1))
set_option maxHeartbeats 4000000 in
theorem c_X8_forestWeight (d : Nat) (hd : 1 ≤ d) (l : Launch) (hl : l.stackTraces = false) (g : ab_G) (o : Nat → Int64) (D : Nat → UInt64) {V : Mm} {post : Int32 → Mm → Prop} (h : wp_X8_forestWeight V post) : Ct l g tk_strs False d 0 0 yX8_forestWeight cX8_forestWeight 1 (some .int) [.ref 0] (SW V o D) (tk_I g (fun r u => ∃ V : Mm, u = SW V o D ∧ post r V)) (fun _ _ => False) := by
  refine ct_in (by decide +kernel) (show 1 ≤ 1 by decide) (by simp [Value.category]) hl (fun X I O _ => ?_)
  show Ab X g 0 0 _ 0 [some (.ref (0))] [] _
  refine ab_aload_n O 0 dX8_forestWeight_0 rfl rfl ?_
  refine ab_get O fl_X8_21 dX8_forestWeight_1 (at_0 _ _ _) rfl ?_
  refine ab_callvI O I.2.2.2.2.2.2 (fr := False) (st := []) lk_X8_180 rfl (at_7 _ _ _) dX8_forestWeight_4 (c_X0_weightSum (d - 1) (by omega) _ O.2.2.2.2.2.2.1 _ _ _ h) rfl rfl ⟨by rw [I.2.1]; show d - 1 + 1 ≤ d; omega, by rw [I.2.1]; show 8 + (_ + 11) + 36 * (d - 1) ≤ 36 * d; omega⟩ (show 0 ≤ 8 by decide) ⟨by rw [I.2.1]; show 0 + 0 ≤ 0; decide, by rw [I.2.1]; show 0 + 0 ≤ 0; decide⟩ (fun q => q.elim) (fun E u q => q.elim) (fun r2 u hu => ?_)
  obtain ⟨V1, rfl, h⟩ := hu
  exact ab_ireturn O I dX8_forestWeight_7 (by decide) (by decide) (by rfl) ⟨_, rfl, h⟩

def wp_X8_forestWeightAnew (V : Mm) (post : Int32 → Mm → Prop) : Prop := (wp_X1_build V ((-1)) (fun (V1 : Mm) => (wp_X1_weightSum V1 (fun (r3 : Int32) (V2 : Mm) => post r3 V2))))
set_option maxHeartbeats 4000000 in
theorem c_X8_forestWeightAnew (d : Nat) (hd : 5 ≤ d) (l : Launch) (hl : l.stackTraces = false) (g : ab_G) (o : Nat → Int64) (D : Nat → UInt64) {V : Mm} {post : Int32 → Mm → Prop} (h : wp_X8_forestWeightAnew V post) : Ct l g tk_strs False d 0 0 yX8_forestWeightAnew cX8_forestWeightAnew 1 (some .int) [.ref 0] (SW V o D) (tk_I g (fun r u => ∃ V : Mm, u = SW V o D ∧ post r V)) (fun _ _ => False) := by
  refine ct_in (by decide +kernel) (show 1 ≤ 1 by decide) (by simp [Value.category]) hl (fun X I O _ => ?_)
  show Ab X g 0 0 _ 0 [some (.ref (0))] [] _
  refine ab_aload_n O 0 dX8_forestWeightAnew_0 rfl rfl ?_
  refine ab_get O fl_X8_46 dX8_forestWeightAnew_1 (at_0 _ _ _) rfl ?_
  refine ab_iconst O (-1) dX8_forestWeightAnew_4 rfl ?_
  refine ab_callvV O I.2.2.2.2.2.2 (fr := False) (st := []) lk_X8_183 rfl (at_36 _ _ _) dX8_forestWeightAnew_5 (c_X1_build (d - 1) (by omega) _ O.2.2.2.2.2.2.1 _ _ _ _ h) rfl rfl ⟨by rw [I.2.1]; show d - 1 + 1 ≤ d; omega, by rw [I.2.1]; show 8 + (_ + 11) + 36 * (d - 1) ≤ 36 * d; omega⟩ (show 0 ≤ 8 by decide) ⟨by rw [I.2.1]; show 0 + 0 ≤ 0; decide, by rw [I.2.1]; show 0 + 0 ≤ 0; decide⟩ (fun q => q.elim) (fun E u q => q.elim) (fun u hu => ?_)
  obtain ⟨V1, rfl, h⟩ := hu
  refine ab_aload_n O 0 dX8_forestWeightAnew_8 rfl rfl ?_
  refine ab_get O fl_X8_46 dX8_forestWeightAnew_9 (at_0 _ _ _) rfl ?_
  refine ab_callvI O I.2.2.2.2.2.2 (fr := False) (st := []) lk_X8_186 rfl (at_36 _ _ _) dX8_forestWeightAnew_12 (c_X1_weightSum (d - 1) (by omega) _ O.2.2.2.2.2.2.1 _ _ _ h) rfl rfl ⟨by rw [I.2.1]; show d - 1 + 1 ≤ d; omega, by rw [I.2.1]; show 8 + (_ + 11) + 36 * (d - 1) ≤ 36 * d; omega⟩ (show 0 ≤ 8 by decide) ⟨by rw [I.2.1]; show 0 + 0 ≤ 0; decide, by rw [I.2.1]; show 0 + 0 ≤ 0; decide⟩ (fun q => q.elim) (fun E u q => q.elim) (fun r3 u hu => ?_)
  obtain ⟨V2, rfl, h⟩ := hu
  exact ab_ireturn O I dX8_forestWeightAnew_15 (by decide) (by decide) (by rfl) ⟨_, rfl, h⟩

def wp_X8_head (V : Mm) (a0 a1 : Int32) (post : Int32 → Mm → Prop) (px : String → Mm → Prop) : Prop := (wp_X8_requireVertices V (a0) (a1) (fun (V1 : Mm) => (wp_X8_plantHolding V1 (a0) (a1) (fun (V2 : Mm) => (wp_X5_build V2 (fun (V3 : Mm) => (wp_X5_headOf V3 (a1) (fun (r5 : Int32) (V4 : Mm) => post r5 V4))))) px)) px)
set_option maxHeartbeats 4000000 in
theorem c_X8_head (d : Nat) (hd : 8 ≤ d) (l : Launch) (hl : l.stackTraces = false) (g : ab_G) (o : Nat → Int64) (D : Nat → UInt64) (a0 : Int32) (a1 : Int32) {V : Mm} {px : String → Mm → Prop} {post : Int32 → Mm → Prop} (h : wp_X8_head V a0 a1 post px) : Ct l g tk_strs False d 3 18 yX8_head cX8_head 3 (some .int) [.ref 0, .int a0, .int a1] (SW V o D) (tk_I g (fun r u => ∃ V : Mm, u = SW V o D ∧ post r V)) (fun E u => ∃ V : Mm, u = SW V o D ∧ px E V) := by
  refine ct_in (by decide +kernel) (show 3 ≤ 3 by decide) (by simp [Value.category]) hl (fun X I O _ => ?_)
  show Ab X g 0 0 _ 0 [some (.ref (0)), some (.int (a0)), some (.int (a1))] [] _
  refine ab_aload_n O 0 dX8_head_0 rfl rfl ?_
  refine ab_iload_n O 1 dX8_head_1 rfl rfl ?_
  refine ab_iload_n O 2 dX8_head_2 rfl rfl ?_
  refine ab_callvV O I.2.2.2.2.2.2 (fr := False) (st := []) lk_X8_102 rfl (at_0 _ _ _) dX8_head_3 (c_X8_requireVertices (d - 1) (by omega) _ O.2.2.2.2.2.2.1 _ _ _ _ _ h) rfl rfl ⟨by rw [I.2.1]; show d - 1 + 1 ≤ d; omega, by rw [I.2.1]; show 8 + (_ + 11) + 36 * (d - 1) ≤ 36 * d; omega⟩ (show 0 ≤ 8 by decide) ⟨by rw [I.2.1]; show 0 + 2 ≤ 3; decide, by rw [I.2.1]; show 0 + 12 ≤ 18; decide⟩ (fun q => q.elim) (fun E u q => by obtain ⟨V9, rfl, q⟩ := q; exact abx_out O I (by decide) (by decide) ⟨V9, rfl, q⟩) (fun u hu => ?_)
  obtain ⟨V1, rfl, h⟩ := hu
  refine ab_aload_n O 0 dX8_head_6 rfl rfl ?_
  refine ab_iload_n O 1 dX8_head_7 rfl rfl ?_
  refine ab_iload_n O 2 dX8_head_8 rfl rfl ?_
  refine ab_callvV O I.2.2.2.2.2.2 (fr := False) (st := []) lk_X8_147 rfl (at_0 _ _ _) dX8_head_9 (c_X8_plantHolding (d - 1) (by omega) _ O.2.2.2.2.2.2.1 _ _ _ _ _ h) rfl rfl ⟨by rw [I.2.1]; show d - 1 + 1 ≤ d; omega, by rw [I.2.1]; show 8 + (_ + 11) + 36 * (d - 1) ≤ 36 * d; omega⟩ (show 0 ≤ 8 by decide) ⟨by rw [I.2.1]; show 2 + 1 ≤ 3; decide, by rw [I.2.1]; show 12 + 6 ≤ 18; decide⟩ (fun q => q.elim) (fun E u q => by obtain ⟨V9, rfl, q⟩ := q; exact abx_out O I (by decide) (by decide) ⟨V9, rfl, q⟩) (fun u hu => ?_)
  obtain ⟨V2, rfl, h⟩ := hu
  refine ab_aload_n O 0 dX8_head_12 rfl rfl ?_
  refine ab_get O fl_X8_62 dX8_head_13 (at_0 _ _ _) rfl ?_
  refine ab_callvV O I.2.2.2.2.2.2 (fr := False) (st := []) lk_X8_227 rfl (at_43 _ _ _) dX8_head_16 (c_X5_build (d - 1) (by omega) _ O.2.2.2.2.2.2.1 _ _ _ h) rfl rfl ⟨by rw [I.2.1]; show d - 1 + 1 ≤ d; omega, by rw [I.2.1]; show 8 + (_ + 11) + 36 * (d - 1) ≤ 36 * d; omega⟩ (show 0 ≤ 8 by decide) ⟨by rw [I.2.1]; show 3 + 0 ≤ 3; decide, by rw [I.2.1]; show 18 + 0 ≤ 18; decide⟩ (fun q => q.elim) (fun E u q => q.elim) (fun u hu => ?_)
  obtain ⟨V3, rfl, h⟩ := hu
  refine ab_aload_n O 0 dX8_head_19 rfl rfl ?_
  refine ab_get O fl_X8_62 dX8_head_20 (at_0 _ _ _) rfl ?_
  refine ab_iload_n O 2 dX8_head_23 rfl rfl ?_
  refine ab_callvI O I.2.2.2.2.2.2 (fr := False) (st := []) lk_X8_278 rfl (at_43 _ _ _) dX8_head_24 (c_X5_headOf (d - 1) (by omega) _ O.2.2.2.2.2.2.1 _ _ _ _ h) rfl rfl ⟨by rw [I.2.1]; show d - 1 + 1 ≤ d; omega, by rw [I.2.1]; show 8 + (_ + 11) + 36 * (d - 1) ≤ 36 * d; omega⟩ (show 0 ≤ 8 by decide) ⟨by rw [I.2.1]; show 3 + 0 ≤ 3; decide, by rw [I.2.1]; show 18 + 0 ≤ 18; decide⟩ (fun q => q.elim) (fun E u q => q.elim) (fun r5 u hu => ?_)
  obtain ⟨V4, rfl, h⟩ := hu
  exact ab_ireturn O I dX8_head_27 (by decide) (by decide) (by rfl) ⟨_, rfl, h⟩

def wp_X8_heavyChild (V : Mm) (a0 a1 : Int32) (post : Int32 → Mm → Prop) (px : String → Mm → Prop) : Prop := (wp_X8_requireVertices V (a0) (a1) (fun (V1 : Mm) => (wp_X8_plantHolding V1 (a0) (a1) (fun (V2 : Mm) => (wp_X5_build V2 (fun (V3 : Mm) => (wp_X5_heavyBelow V3 (a1) (fun (r5 : Int32) (V4 : Mm) => ((r5 = (-1) → px "java/lang/UnsupportedOperationException" V4) ∧ (¬ r5 = (-1) → post r5 V4))))))) px)) px)
set_option maxHeartbeats 4000000 in
theorem c_X8_heavyChild (d : Nat) (hd : 8 ≤ d) (l : Launch) (hl : l.stackTraces = false) (g : ab_G) (o : Nat → Int64) (D : Nat → UInt64) (a0 : Int32) (a1 : Int32) {V : Mm} {px : String → Mm → Prop} {post : Int32 → Mm → Prop} (h : wp_X8_heavyChild V a0 a1 post px) : Ct l g tk_strs False d 4 24 yX8_heavyChild cX8_heavyChild 4 (some .int) [.ref 0, .int a0, .int a1] (SW V o D) (tk_I g (fun r u => ∃ V : Mm, u = SW V o D ∧ post r V)) (fun E u => ∃ V : Mm, u = SW V o D ∧ px E V) := by
  refine ct_in (by decide +kernel) (show 3 ≤ 4 by decide) (by simp [Value.category]) hl (fun X I O _ => ?_)
  show Ab X g 0 0 _ 0 [some (.ref (0)), some (.int (a0)), some (.int (a1)), none] [] _
  refine ab_aload_n O 0 dX8_heavyChild_0 rfl rfl ?_
  refine ab_iload_n O 1 dX8_heavyChild_1 rfl rfl ?_
  refine ab_iload_n O 2 dX8_heavyChild_2 rfl rfl ?_
  refine ab_callvV O I.2.2.2.2.2.2 (fr := False) (st := []) lk_X8_102 rfl (at_0 _ _ _) dX8_heavyChild_3 (c_X8_requireVertices (d - 1) (by omega) _ O.2.2.2.2.2.2.1 _ _ _ _ _ h) rfl rfl ⟨by rw [I.2.1]; show d - 1 + 1 ≤ d; omega, by rw [I.2.1]; show 8 + (_ + 11) + 36 * (d - 1) ≤ 36 * d; omega⟩ (show 0 ≤ 8 by decide) ⟨by rw [I.2.1]; show 0 + 2 ≤ 4; decide, by rw [I.2.1]; show 0 + 12 ≤ 24; decide⟩ (fun q => q.elim) (fun E u q => by obtain ⟨V9, rfl, q⟩ := q; exact abx_out O I (by decide) (by decide) ⟨V9, rfl, q⟩) (fun u hu => ?_)
  obtain ⟨V1, rfl, h⟩ := hu
  refine ab_aload_n O 0 dX8_heavyChild_6 rfl rfl ?_
  refine ab_iload_n O 1 dX8_heavyChild_7 rfl rfl ?_
  refine ab_iload_n O 2 dX8_heavyChild_8 rfl rfl ?_
  refine ab_callvV O I.2.2.2.2.2.2 (fr := False) (st := []) lk_X8_147 rfl (at_0 _ _ _) dX8_heavyChild_9 (c_X8_plantHolding (d - 1) (by omega) _ O.2.2.2.2.2.2.1 _ _ _ _ _ h) rfl rfl ⟨by rw [I.2.1]; show d - 1 + 1 ≤ d; omega, by rw [I.2.1]; show 8 + (_ + 11) + 36 * (d - 1) ≤ 36 * d; omega⟩ (show 0 ≤ 8 by decide) ⟨by rw [I.2.1]; show 2 + 1 ≤ 4; decide, by rw [I.2.1]; show 12 + 6 ≤ 24; decide⟩ (fun q => q.elim) (fun E u q => by obtain ⟨V9, rfl, q⟩ := q; exact abx_out O I (by decide) (by decide) ⟨V9, rfl, q⟩) (fun u hu => ?_)
  obtain ⟨V2, rfl, h⟩ := hu
  refine ab_aload_n O 0 dX8_heavyChild_12 rfl rfl ?_
  refine ab_get O fl_X8_62 dX8_heavyChild_13 (at_0 _ _ _) rfl ?_
  refine ab_callvV O I.2.2.2.2.2.2 (fr := False) (st := []) lk_X8_227 rfl (at_43 _ _ _) dX8_heavyChild_16 (c_X5_build (d - 1) (by omega) _ O.2.2.2.2.2.2.1 _ _ _ h) rfl rfl ⟨by rw [I.2.1]; show d - 1 + 1 ≤ d; omega, by rw [I.2.1]; show 8 + (_ + 11) + 36 * (d - 1) ≤ 36 * d; omega⟩ (show 0 ≤ 8 by decide) ⟨by rw [I.2.1]; show 3 + 0 ≤ 4; decide, by rw [I.2.1]; show 18 + 0 ≤ 24; decide⟩ (fun q => q.elim) (fun E u q => q.elim) (fun u hu => ?_)
  obtain ⟨V3, rfl, h⟩ := hu
  refine ab_aload_n O 0 dX8_heavyChild_19 rfl rfl ?_
  refine ab_get O fl_X8_62 dX8_heavyChild_20 (at_0 _ _ _) rfl ?_
  refine ab_iload_n O 2 dX8_heavyChild_23 rfl rfl ?_
  refine ab_callvI O I.2.2.2.2.2.2 (fr := False) (st := []) lk_X8_273 rfl (at_43 _ _ _) dX8_heavyChild_24 (c_X5_heavyBelow (d - 1) (by omega) _ O.2.2.2.2.2.2.1 _ _ _ _ h) rfl rfl ⟨by rw [I.2.1]; show d - 1 + 1 ≤ d; omega, by rw [I.2.1]; show 8 + (_ + 11) + 36 * (d - 1) ≤ 36 * d; omega⟩ (show 0 ≤ 8 by decide) ⟨by rw [I.2.1]; show 3 + 0 ≤ 4; decide, by rw [I.2.1]; show 18 + 0 ≤ 24; decide⟩ (fun q => q.elim) (fun E u q => q.elim) (fun r5 u hu => ?_)
  obtain ⟨V4, rfl, h⟩ := hu
  refine ab_istore_n O 3 dX8_heavyChild_27 rfl (show 3 < 4 by decide) ?_
  refine ab_iload_n O 3 dX8_heavyChild_28 rfl rfl ?_
  refine ab_iconst O (-1) dX8_heavyChild_29 rfl ?_
  refine ab_icmp_ne O 44 dX8_heavyChild_30 rfl (fun q6 => ?_) (fun q6 => ?_)
  · have h := h.2 q6
    refine ab_iload_n O 3 dX8_heavyChild_44 rfl rfl ?_
    exact ab_ireturn O I dX8_heavyChild_45 (by decide) (by decide) (by rfl) ⟨_, rfl, h⟩
  · have h := h.1 q6
    exact ab_throwW O I th_X8_245 (show (RX8, 276, "the vertex has no child") ∈ tk_strs by decide +kernel) dX8_heavyChild_33 dX8_heavyChild_36 dX8_heavyChild_37 dX8_heavyChild_40 dX8_heavyChild_43 (show 5 < d by omega) (show 0 + 82 ≤ 36 * d by omega) (show 3 + 1 ≤ 4 by decide) (show 18 + 6 ≤ 24 by decide) ⟨_, rfl, h⟩

def wp_X8_heavyPaths (V : Mm) (a0 : Int32) (post : Int32 → Mm → Prop) (px : String → Mm → Prop) : Prop := (wp_X8_requireVertex V (a0) (fun (V1 : Mm) => (wp_X7_plant V1 (a0) ((-1)) (fun (V2 : Mm) => (wp_X5_build V2 (fun (V3 : Mm) => (wp_X5_countPaths V3 (fun (r5 : Int32) (V4 : Mm) => post r5 V4))))))) px)
set_option maxHeartbeats 4000000 in
theorem c_X8_heavyPaths (d : Nat) (hd : 7 ≤ d) (l : Launch) (hl : l.stackTraces = false) (g : ab_G) (o : Nat → Int64) (D : Nat → UInt64) (a0 : Int32) {V : Mm} {px : String → Mm → Prop} {post : Int32 → Mm → Prop} (h : wp_X8_heavyPaths V a0 post px) : Ct l g tk_strs False d 1 6 yX8_heavyPaths cX8_heavyPaths 2 (some .int) [.ref 0, .int a0] (SW V o D) (tk_I g (fun r u => ∃ V : Mm, u = SW V o D ∧ post r V)) (fun E u => ∃ V : Mm, u = SW V o D ∧ px E V) := by
  refine ct_in (by decide +kernel) (show 2 ≤ 2 by decide) (by simp [Value.category]) hl (fun X I O _ => ?_)
  show Ab X g 0 0 _ 0 [some (.ref (0)), some (.int (a0))] [] _
  refine ab_aload_n O 0 dX8_heavyPaths_0 rfl rfl ?_
  refine ab_iload_n O 1 dX8_heavyPaths_1 rfl rfl ?_
  refine ab_callvV O I.2.2.2.2.2.2 (fr := False) (st := []) lk_X8_92 rfl (at_0 _ _ _) dX8_heavyPaths_2 (c_X8_requireVertex (d - 1) (by omega) _ O.2.2.2.2.2.2.1 _ _ _ _ h) rfl rfl ⟨by rw [I.2.1]; show d - 1 + 1 ≤ d; omega, by rw [I.2.1]; show 8 + (_ + 11) + 36 * (d - 1) ≤ 36 * d; omega⟩ (show 0 ≤ 8 by decide) ⟨by rw [I.2.1]; show 0 + 1 ≤ 1; decide, by rw [I.2.1]; show 0 + 6 ≤ 6; decide⟩ (fun q => q.elim) (fun E u q => by obtain ⟨V9, rfl, q⟩ := q; exact abx_out O I (by decide) (by decide) ⟨V9, rfl, q⟩) (fun u hu => ?_)
  obtain ⟨V1, rfl, h⟩ := hu
  refine ab_aload_n O 0 dX8_heavyPaths_5 rfl rfl ?_
  refine ab_get O fl_X8_30 dX8_heavyPaths_6 (at_0 _ _ _) rfl ?_
  refine ab_iload_n O 1 dX8_heavyPaths_9 rfl rfl ?_
  refine ab_iconst O (-1) dX8_heavyPaths_10 rfl ?_
  refine ab_callvV O I.2.2.2.2.2.2 (fr := False) (st := []) lk_X8_198 rfl (at_29 _ _ _) dX8_heavyPaths_11 (c_X7_plant (d - 1) (by omega) _ O.2.2.2.2.2.2.1 _ _ _ _ _ h) rfl rfl ⟨by rw [I.2.1]; show d - 1 + 1 ≤ d; omega, by rw [I.2.1]; show 8 + (_ + 11) + 36 * (d - 1) ≤ 36 * d; omega⟩ (show 0 ≤ 8 by decide) ⟨by rw [I.2.1]; show 1 + 0 ≤ 1; decide, by rw [I.2.1]; show 6 + 0 ≤ 6; decide⟩ (fun q => q.elim) (fun E u q => q.elim) (fun u hu => ?_)
  obtain ⟨V2, rfl, h⟩ := hu
  refine ab_aload_n O 0 dX8_heavyPaths_14 rfl rfl ?_
  refine ab_get O fl_X8_62 dX8_heavyPaths_15 (at_0 _ _ _) rfl ?_
  refine ab_callvV O I.2.2.2.2.2.2 (fr := False) (st := []) lk_X8_227 rfl (at_43 _ _ _) dX8_heavyPaths_18 (c_X5_build (d - 1) (by omega) _ O.2.2.2.2.2.2.1 _ _ _ h) rfl rfl ⟨by rw [I.2.1]; show d - 1 + 1 ≤ d; omega, by rw [I.2.1]; show 8 + (_ + 11) + 36 * (d - 1) ≤ 36 * d; omega⟩ (show 0 ≤ 8 by decide) ⟨by rw [I.2.1]; show 1 + 0 ≤ 1; decide, by rw [I.2.1]; show 6 + 0 ≤ 6; decide⟩ (fun q => q.elim) (fun E u q => q.elim) (fun u hu => ?_)
  obtain ⟨V3, rfl, h⟩ := hu
  refine ab_aload_n O 0 dX8_heavyPaths_21 rfl rfl ?_
  refine ab_get O fl_X8_62 dX8_heavyPaths_22 (at_0 _ _ _) rfl ?_
  refine ab_callvI O I.2.2.2.2.2.2 (fr := False) (st := []) lk_X8_281 rfl (at_43 _ _ _) dX8_heavyPaths_25 (c_X5_countPaths (d - 1) (by omega) _ O.2.2.2.2.2.2.1 _ _ _ h) rfl rfl ⟨by rw [I.2.1]; show d - 1 + 1 ≤ d; omega, by rw [I.2.1]; show 8 + (_ + 11) + 36 * (d - 1) ≤ 36 * d; omega⟩ (show 0 ≤ 8 by decide) ⟨by rw [I.2.1]; show 1 + 0 ≤ 1; decide, by rw [I.2.1]; show 6 + 0 ≤ 6; decide⟩ (fun q => q.elim) (fun E u q => q.elim) (fun r5 u hu => ?_)
  obtain ⟨V4, rfl, h⟩ := hu
  exact ab_ireturn O I dX8_heavyPaths_28 (by decide) (by decide) (by rfl) ⟨_, rfl, h⟩

def wp_X8_isConnected (V : Mm) (a0 a1 : Int32) (post : Int32 → Mm → Prop) (px : String → Mm → Prop) : Prop := (wp_X8_requireVertices V (a0) (a1) (fun (V1 : Mm) => (wp_X7_plant V1 (a0) ((-1)) (fun (V2 : Mm) => (wp_X7_holds V2 (a1) (fun (r4 : Int32) (V3 : Mm) => (narrow .boolean (.int r4) = .int r4 ∧ post r4 V3)))))) px)
set_option maxHeartbeats 4000000 in
theorem c_X8_isConnected (d : Nat) (hd : 8 ≤ d) (l : Launch) (hl : l.stackTraces = false) (g : ab_G) (o : Nat → Int64) (D : Nat → UInt64) (a0 : Int32) (a1 : Int32) {V : Mm} {px : String → Mm → Prop} {post : Int32 → Mm → Prop} (h : wp_X8_isConnected V a0 a1 post px) : Ct l g tk_strs False d 2 12 yX8_isConnected cX8_isConnected 3 (some .boolean) [.ref 0, .int a0, .int a1] (SW V o D) (tk_I g (fun r u => ∃ V : Mm, u = SW V o D ∧ post r V)) (fun E u => ∃ V : Mm, u = SW V o D ∧ px E V) := by
  refine ct_in (by decide +kernel) (show 3 ≤ 3 by decide) (by simp [Value.category]) hl (fun X I O _ => ?_)
  show Ab X g 0 0 _ 0 [some (.ref (0)), some (.int (a0)), some (.int (a1))] [] _
  refine ab_aload_n O 0 dX8_isConnected_0 rfl rfl ?_
  refine ab_iload_n O 1 dX8_isConnected_1 rfl rfl ?_
  refine ab_iload_n O 2 dX8_isConnected_2 rfl rfl ?_
  refine ab_callvV O I.2.2.2.2.2.2 (fr := False) (st := []) lk_X8_102 rfl (at_0 _ _ _) dX8_isConnected_3 (c_X8_requireVertices (d - 1) (by omega) _ O.2.2.2.2.2.2.1 _ _ _ _ _ h) rfl rfl ⟨by rw [I.2.1]; show d - 1 + 1 ≤ d; omega, by rw [I.2.1]; show 8 + (_ + 11) + 36 * (d - 1) ≤ 36 * d; omega⟩ (show 0 ≤ 8 by decide) ⟨by rw [I.2.1]; show 0 + 2 ≤ 2; decide, by rw [I.2.1]; show 0 + 12 ≤ 12; decide⟩ (fun q => q.elim) (fun E u q => by obtain ⟨V9, rfl, q⟩ := q; exact abx_out O I (by decide) (by decide) ⟨V9, rfl, q⟩) (fun u hu => ?_)
  obtain ⟨V1, rfl, h⟩ := hu
  refine ab_aload_n O 0 dX8_isConnected_6 rfl rfl ?_
  refine ab_get O fl_X8_30 dX8_isConnected_7 (at_0 _ _ _) rfl ?_
  refine ab_iload_n O 1 dX8_isConnected_10 rfl rfl ?_
  refine ab_iconst O (-1) dX8_isConnected_11 rfl ?_
  refine ab_callvV O I.2.2.2.2.2.2 (fr := False) (st := []) lk_X8_198 rfl (at_29 _ _ _) dX8_isConnected_12 (c_X7_plant (d - 1) (by omega) _ O.2.2.2.2.2.2.1 _ _ _ _ _ h) rfl rfl ⟨by rw [I.2.1]; show d - 1 + 1 ≤ d; omega, by rw [I.2.1]; show 8 + (_ + 11) + 36 * (d - 1) ≤ 36 * d; omega⟩ (show 0 ≤ 8 by decide) ⟨by rw [I.2.1]; show 2 + 0 ≤ 2; decide, by rw [I.2.1]; show 12 + 0 ≤ 12; decide⟩ (fun q => q.elim) (fun E u q => q.elim) (fun u hu => ?_)
  obtain ⟨V2, rfl, h⟩ := hu
  refine ab_aload_n O 0 dX8_isConnected_15 rfl rfl ?_
  refine ab_get O fl_X8_30 dX8_isConnected_16 (at_0 _ _ _) rfl ?_
  refine ab_iload_n O 2 dX8_isConnected_19 rfl rfl ?_
  refine ab_callvI O I.2.2.2.2.2.2 (fr := False) (st := []) lk_X8_201 rfl (at_29 _ _ _) dX8_isConnected_20 (c_X7_holds (d - 1) (by omega) _ O.2.2.2.2.2.2.1 _ _ _ _ h) rfl rfl ⟨by rw [I.2.1]; show d - 1 + 1 ≤ d; omega, by rw [I.2.1]; show 8 + (_ + 11) + 36 * (d - 1) ≤ 36 * d; omega⟩ (show 0 ≤ 8 by decide) ⟨by rw [I.2.1]; show 2 + 0 ≤ 2; decide, by rw [I.2.1]; show 12 + 0 ≤ 12; decide⟩ (fun q => q.elim) (fun E u q => q.elim) (fun r4 u hu => ?_)
  obtain ⟨V3, rfl, h⟩ := hu
  exact ab_ireturn O I dX8_isConnected_23 (by decide) (by decide) h.1 ⟨_, rfl, h.2⟩

def wp_X8_isConnectedByWalk (V : Mm) (a0 a1 : Int32) (post : Int32 → Mm → Prop) (px : String → Mm → Prop) : Prop := (wp_X8_requireVertices V (a0) (a1) (fun (V1 : Mm) => (wp_X4_leadsTo V1 (a0) (a1) (fun (r3 : Int32) (V2 : Mm) => (narrow .boolean (.int r3) = .int r3 ∧ post r3 V2)))) px)
set_option maxHeartbeats 4000000 in
theorem c_X8_isConnectedByWalk (d : Nat) (hd : 8 ≤ d) (l : Launch) (hl : l.stackTraces = false) (g : ab_G) (o : Nat → Int64) (D : Nat → UInt64) (a0 : Int32) (a1 : Int32) {V : Mm} {px : String → Mm → Prop} {post : Int32 → Mm → Prop} (h : wp_X8_isConnectedByWalk V a0 a1 post px) : Ct l g tk_strs False d 2 12 yX8_isConnectedByWalk cX8_isConnectedByWalk 3 (some .boolean) [.ref 0, .int a0, .int a1] (SW V o D) (tk_I g (fun r u => ∃ V : Mm, u = SW V o D ∧ post r V)) (fun E u => ∃ V : Mm, u = SW V o D ∧ px E V) := by
  refine ct_in (by decide +kernel) (show 3 ≤ 3 by decide) (by simp [Value.category]) hl (fun X I O _ => ?_)
  show Ab X g 0 0 _ 0 [some (.ref (0)), some (.int (a0)), some (.int (a1))] [] _
  refine ab_aload_n O 0 dX8_isConnectedByWalk_0 rfl rfl ?_
  refine ab_iload_n O 1 dX8_isConnectedByWalk_1 rfl rfl ?_
  refine ab_iload_n O 2 dX8_isConnectedByWalk_2 rfl rfl ?_
  refine ab_callvV O I.2.2.2.2.2.2 (fr := False) (st := []) lk_X8_102 rfl (at_0 _ _ _) dX8_isConnectedByWalk_3 (c_X8_requireVertices (d - 1) (by omega) _ O.2.2.2.2.2.2.1 _ _ _ _ _ h) rfl rfl ⟨by rw [I.2.1]; show d - 1 + 1 ≤ d; omega, by rw [I.2.1]; show 8 + (_ + 11) + 36 * (d - 1) ≤ 36 * d; omega⟩ (show 0 ≤ 8 by decide) ⟨by rw [I.2.1]; show 0 + 2 ≤ 2; decide, by rw [I.2.1]; show 0 + 12 ≤ 12; decide⟩ (fun q => q.elim) (fun E u q => by obtain ⟨V9, rfl, q⟩ := q; exact abx_out O I (by decide) (by decide) ⟨V9, rfl, q⟩) (fun u hu => ?_)
  obtain ⟨V1, rfl, h⟩ := hu
  refine ab_aload_n O 0 dX8_isConnectedByWalk_6 rfl rfl ?_
  refine ab_get O fl_X8_53 dX8_isConnectedByWalk_7 (at_0 _ _ _) rfl ?_
  refine ab_iload_n O 1 dX8_isConnectedByWalk_10 rfl rfl ?_
  refine ab_iload_n O 2 dX8_isConnectedByWalk_11 rfl rfl ?_
  refine ab_callvI O I.2.2.2.2.2.2 (fr := False) (st := []) lk_X8_202 rfl (at_40 _ _ _) dX8_isConnectedByWalk_12 (c_X4_leadsTo (d - 1) (by omega) _ O.2.2.2.2.2.2.1 _ _ _ _ _ h) rfl rfl ⟨by rw [I.2.1]; show d - 1 + 1 ≤ d; omega, by rw [I.2.1]; show 8 + (_ + 11) + 36 * (d - 1) ≤ 36 * d; omega⟩ (show 0 ≤ 8 by decide) ⟨by rw [I.2.1]; show 2 + 0 ≤ 2; decide, by rw [I.2.1]; show 12 + 0 ≤ 12; decide⟩ (fun q => q.elim) (fun E u q => q.elim) (fun r3 u hu => ?_)
  obtain ⟨V2, rfl, h⟩ := hu
  exact ab_ireturn O I dX8_isConnectedByWalk_15 (by decide) (by decide) h.1 ⟨_, rfl, h.2⟩

def wp_X8_last (V : Mm) (a0 a1 : Int32) (post : Int32 → Mm → Prop) (px : String → Mm → Prop) : Prop := (wp_X8_requireVertices V (a0) (a1) (fun (V1 : Mm) => (wp_X8_plantHolding V1 (a0) (a1) (fun (V2 : Mm) => (wp_X8_requireDifferent V2 (a0) (a1) (fun (V3 : Mm) => (wp_X7_lastFromRoot V3 (a1) (fun (r5 : Int32) (V4 : Mm) => post r5 V4))) px)) px)) px)
set_option maxHeartbeats 4000000 in
theorem c_X8_last (d : Nat) (hd : 8 ≤ d) (l : Launch) (hl : l.stackTraces = false) (g : ab_G) (o : Nat → Int64) (D : Nat → UInt64) (a0 : Int32) (a1 : Int32) {V : Mm} {px : String → Mm → Prop} {post : Int32 → Mm → Prop} (h : wp_X8_last V a0 a1 post px) : Ct l g tk_strs False d 4 24 yX8_last cX8_last 3 (some .int) [.ref 0, .int a0, .int a1] (SW V o D) (tk_I g (fun r u => ∃ V : Mm, u = SW V o D ∧ post r V)) (fun E u => ∃ V : Mm, u = SW V o D ∧ px E V) := by
  refine ct_in (by decide +kernel) (show 3 ≤ 3 by decide) (by simp [Value.category]) hl (fun X I O _ => ?_)
  show Ab X g 0 0 _ 0 [some (.ref (0)), some (.int (a0)), some (.int (a1))] [] _
  refine ab_aload_n O 0 dX8_last_0 rfl rfl ?_
  refine ab_iload_n O 1 dX8_last_1 rfl rfl ?_
  refine ab_iload_n O 2 dX8_last_2 rfl rfl ?_
  refine ab_callvV O I.2.2.2.2.2.2 (fr := False) (st := []) lk_X8_102 rfl (at_0 _ _ _) dX8_last_3 (c_X8_requireVertices (d - 1) (by omega) _ O.2.2.2.2.2.2.1 _ _ _ _ _ h) rfl rfl ⟨by rw [I.2.1]; show d - 1 + 1 ≤ d; omega, by rw [I.2.1]; show 8 + (_ + 11) + 36 * (d - 1) ≤ 36 * d; omega⟩ (show 0 ≤ 8 by decide) ⟨by rw [I.2.1]; show 0 + 2 ≤ 4; decide, by rw [I.2.1]; show 0 + 12 ≤ 24; decide⟩ (fun q => q.elim) (fun E u q => by obtain ⟨V9, rfl, q⟩ := q; exact abx_out O I (by decide) (by decide) ⟨V9, rfl, q⟩) (fun u hu => ?_)
  obtain ⟨V1, rfl, h⟩ := hu
  refine ab_aload_n O 0 dX8_last_6 rfl rfl ?_
  refine ab_iload_n O 1 dX8_last_7 rfl rfl ?_
  refine ab_iload_n O 2 dX8_last_8 rfl rfl ?_
  refine ab_callvV O I.2.2.2.2.2.2 (fr := False) (st := []) lk_X8_147 rfl (at_0 _ _ _) dX8_last_9 (c_X8_plantHolding (d - 1) (by omega) _ O.2.2.2.2.2.2.1 _ _ _ _ _ h) rfl rfl ⟨by rw [I.2.1]; show d - 1 + 1 ≤ d; omega, by rw [I.2.1]; show 8 + (_ + 11) + 36 * (d - 1) ≤ 36 * d; omega⟩ (show 0 ≤ 8 by decide) ⟨by rw [I.2.1]; show 2 + 1 ≤ 4; decide, by rw [I.2.1]; show 12 + 6 ≤ 24; decide⟩ (fun q => q.elim) (fun E u q => by obtain ⟨V9, rfl, q⟩ := q; exact abx_out O I (by decide) (by decide) ⟨V9, rfl, q⟩) (fun u hu => ?_)
  obtain ⟨V2, rfl, h⟩ := hu
  refine ab_iload_n O 1 dX8_last_12 rfl rfl ?_
  refine ab_iload_n O 2 dX8_last_13 rfl rfl ?_
  refine ab_callsV O I.2.2.2.2.2.2 (fr := False) (st := []) lk_X8_108 dX8_last_14 (c_X8_requireDifferent (d - 1) (by omega) _ O.2.2.2.2.2.2.1 _ _ _ _ _ h) rfl rfl ⟨by rw [I.2.1]; show d - 1 + 1 ≤ d; omega, by rw [I.2.1]; show 8 + (_ + 11) + 36 * (d - 1) ≤ 36 * d; omega⟩ (show 0 ≤ 8 by decide) ⟨by rw [I.2.1]; show 3 + 1 ≤ 4; decide, by rw [I.2.1]; show 18 + 6 ≤ 24; decide⟩ (fun q => q.elim) (fun E u q => by obtain ⟨V9, rfl, q⟩ := q; exact abx_out O I (by decide) (by decide) ⟨V9, rfl, q⟩) (fun u hu => ?_)
  obtain ⟨V3, rfl, h⟩ := hu
  refine ab_aload_n O 0 dX8_last_17 rfl rfl ?_
  refine ab_get O fl_X8_30 dX8_last_18 (at_0 _ _ _) rfl ?_
  refine ab_iload_n O 2 dX8_last_21 rfl rfl ?_
  refine ab_callvI O I.2.2.2.2.2.2 (fr := False) (st := []) lk_X8_235 rfl (at_29 _ _ _) dX8_last_22 (c_X7_lastFromRoot (d - 1) (by omega) _ O.2.2.2.2.2.2.1 _ _ _ _ h) rfl rfl ⟨by rw [I.2.1]; show d - 1 + 1 ≤ d; omega, by rw [I.2.1]; show 8 + (_ + 11) + 36 * (d - 1) ≤ 36 * d; omega⟩ (show 0 ≤ 8 by decide) ⟨by rw [I.2.1]; show 4 + 0 ≤ 4; decide, by rw [I.2.1]; show 24 + 0 ≤ 24; decide⟩ (fun q => q.elim) (fun E u q => q.elim) (fun r5 u hu => ?_)
  obtain ⟨V4, rfl, h⟩ := hu
  exact ab_ireturn O I dX8_last_25 (by decide) (by decide) (by rfl) ⟨_, rfl, h⟩

def wp_X8_lastByWalk (V : Mm) (a0 a1 : Int32) (post : Int32 → Mm → Prop) (px : String → Mm → Prop) : Prop := (wp_X8_requireVertices V (a0) (a1) (fun (V1 : Mm) => (wp_X8_plantHolding V1 (a1) (a0) (fun (V2 : Mm) => (wp_X8_requireDifferent V2 (a0) (a1) (fun (V3 : Mm) => (wp_X7_lastByClimbing V3 (a0) (fun (r5 : Int32) (V4 : Mm) => post r5 V4))) px)) px)) px)
set_option maxHeartbeats 4000000 in
theorem c_X8_lastByWalk (d : Nat) (hd : 8 ≤ d) (l : Launch) (hl : l.stackTraces = false) (g : ab_G) (o : Nat → Int64) (D : Nat → UInt64) (a0 : Int32) (a1 : Int32) {V : Mm} {px : String → Mm → Prop} {post : Int32 → Mm → Prop} (h : wp_X8_lastByWalk V a0 a1 post px) : Ct l g tk_strs False d 4 24 yX8_lastByWalk cX8_lastByWalk 3 (some .int) [.ref 0, .int a0, .int a1] (SW V o D) (tk_I g (fun r u => ∃ V : Mm, u = SW V o D ∧ post r V)) (fun E u => ∃ V : Mm, u = SW V o D ∧ px E V) := by
  refine ct_in (by decide +kernel) (show 3 ≤ 3 by decide) (by simp [Value.category]) hl (fun X I O _ => ?_)
  show Ab X g 0 0 _ 0 [some (.ref (0)), some (.int (a0)), some (.int (a1))] [] _
  refine ab_aload_n O 0 dX8_lastByWalk_0 rfl rfl ?_
  refine ab_iload_n O 1 dX8_lastByWalk_1 rfl rfl ?_
  refine ab_iload_n O 2 dX8_lastByWalk_2 rfl rfl ?_
  refine ab_callvV O I.2.2.2.2.2.2 (fr := False) (st := []) lk_X8_102 rfl (at_0 _ _ _) dX8_lastByWalk_3 (c_X8_requireVertices (d - 1) (by omega) _ O.2.2.2.2.2.2.1 _ _ _ _ _ h) rfl rfl ⟨by rw [I.2.1]; show d - 1 + 1 ≤ d; omega, by rw [I.2.1]; show 8 + (_ + 11) + 36 * (d - 1) ≤ 36 * d; omega⟩ (show 0 ≤ 8 by decide) ⟨by rw [I.2.1]; show 0 + 2 ≤ 4; decide, by rw [I.2.1]; show 0 + 12 ≤ 24; decide⟩ (fun q => q.elim) (fun E u q => by obtain ⟨V9, rfl, q⟩ := q; exact abx_out O I (by decide) (by decide) ⟨V9, rfl, q⟩) (fun u hu => ?_)
  obtain ⟨V1, rfl, h⟩ := hu
  refine ab_aload_n O 0 dX8_lastByWalk_6 rfl rfl ?_
  refine ab_iload_n O 2 dX8_lastByWalk_7 rfl rfl ?_
  refine ab_iload_n O 1 dX8_lastByWalk_8 rfl rfl ?_
  refine ab_callvV O I.2.2.2.2.2.2 (fr := False) (st := []) lk_X8_147 rfl (at_0 _ _ _) dX8_lastByWalk_9 (c_X8_plantHolding (d - 1) (by omega) _ O.2.2.2.2.2.2.1 _ _ _ _ _ h) rfl rfl ⟨by rw [I.2.1]; show d - 1 + 1 ≤ d; omega, by rw [I.2.1]; show 8 + (_ + 11) + 36 * (d - 1) ≤ 36 * d; omega⟩ (show 0 ≤ 8 by decide) ⟨by rw [I.2.1]; show 2 + 1 ≤ 4; decide, by rw [I.2.1]; show 12 + 6 ≤ 24; decide⟩ (fun q => q.elim) (fun E u q => by obtain ⟨V9, rfl, q⟩ := q; exact abx_out O I (by decide) (by decide) ⟨V9, rfl, q⟩) (fun u hu => ?_)
  obtain ⟨V2, rfl, h⟩ := hu
  refine ab_iload_n O 1 dX8_lastByWalk_12 rfl rfl ?_
  refine ab_iload_n O 2 dX8_lastByWalk_13 rfl rfl ?_
  refine ab_callsV O I.2.2.2.2.2.2 (fr := False) (st := []) lk_X8_108 dX8_lastByWalk_14 (c_X8_requireDifferent (d - 1) (by omega) _ O.2.2.2.2.2.2.1 _ _ _ _ _ h) rfl rfl ⟨by rw [I.2.1]; show d - 1 + 1 ≤ d; omega, by rw [I.2.1]; show 8 + (_ + 11) + 36 * (d - 1) ≤ 36 * d; omega⟩ (show 0 ≤ 8 by decide) ⟨by rw [I.2.1]; show 3 + 1 ≤ 4; decide, by rw [I.2.1]; show 18 + 6 ≤ 24; decide⟩ (fun q => q.elim) (fun E u q => by obtain ⟨V9, rfl, q⟩ := q; exact abx_out O I (by decide) (by decide) ⟨V9, rfl, q⟩) (fun u hu => ?_)
  obtain ⟨V3, rfl, h⟩ := hu
  refine ab_aload_n O 0 dX8_lastByWalk_17 rfl rfl ?_
  refine ab_get O fl_X8_30 dX8_lastByWalk_18 (at_0 _ _ _) rfl ?_
  refine ab_iload_n O 1 dX8_lastByWalk_21 rfl rfl ?_
  refine ab_callvI O I.2.2.2.2.2.2 (fr := False) (st := []) lk_X8_238 rfl (at_29 _ _ _) dX8_lastByWalk_22 (c_X7_lastByClimbing (d - 1) (by omega) _ O.2.2.2.2.2.2.1 _ _ _ _ h) rfl rfl ⟨by rw [I.2.1]; show d - 1 + 1 ≤ d; omega, by rw [I.2.1]; show 8 + (_ + 11) + 36 * (d - 1) ≤ 36 * d; omega⟩ (show 0 ≤ 8 by decide) ⟨by rw [I.2.1]; show 4 + 0 ≤ 4; decide, by rw [I.2.1]; show 24 + 0 ≤ 24; decide⟩ (fun q => q.elim) (fun E u q => q.elim) (fun r5 u hu => ?_)
  obtain ⟨V4, rfl, h⟩ := hu
  exact ab_ireturn O I dX8_lastByWalk_25 (by decide) (by decide) (by rfl) ⟨_, rfl, h⟩

def wp_X8_lightEdges (V : Mm) (a0 a1 : Int32) (post : Int32 → Mm → Prop) (px : String → Mm → Prop) : Prop := (wp_X8_requireVertices V (a0) (a1) (fun (V1 : Mm) => (wp_X8_plantHolding V1 (a0) (a1) (fun (V2 : Mm) => (wp_X5_build V2 (fun (V3 : Mm) => (wp_X5_lightAbove V3 (a1) (fun (r5 : Int32) (V4 : Mm) => post r5 V4))))) px)) px)
set_option maxHeartbeats 4000000 in
theorem c_X8_lightEdges (d : Nat) (hd : 8 ≤ d) (l : Launch) (hl : l.stackTraces = false) (g : ab_G) (o : Nat → Int64) (D : Nat → UInt64) (a0 : Int32) (a1 : Int32) {V : Mm} {px : String → Mm → Prop} {post : Int32 → Mm → Prop} (h : wp_X8_lightEdges V a0 a1 post px) : Ct l g tk_strs False d 3 18 yX8_lightEdges cX8_lightEdges 3 (some .int) [.ref 0, .int a0, .int a1] (SW V o D) (tk_I g (fun r u => ∃ V : Mm, u = SW V o D ∧ post r V)) (fun E u => ∃ V : Mm, u = SW V o D ∧ px E V) := by
  refine ct_in (by decide +kernel) (show 3 ≤ 3 by decide) (by simp [Value.category]) hl (fun X I O _ => ?_)
  show Ab X g 0 0 _ 0 [some (.ref (0)), some (.int (a0)), some (.int (a1))] [] _
  refine ab_aload_n O 0 dX8_lightEdges_0 rfl rfl ?_
  refine ab_iload_n O 1 dX8_lightEdges_1 rfl rfl ?_
  refine ab_iload_n O 2 dX8_lightEdges_2 rfl rfl ?_
  refine ab_callvV O I.2.2.2.2.2.2 (fr := False) (st := []) lk_X8_102 rfl (at_0 _ _ _) dX8_lightEdges_3 (c_X8_requireVertices (d - 1) (by omega) _ O.2.2.2.2.2.2.1 _ _ _ _ _ h) rfl rfl ⟨by rw [I.2.1]; show d - 1 + 1 ≤ d; omega, by rw [I.2.1]; show 8 + (_ + 11) + 36 * (d - 1) ≤ 36 * d; omega⟩ (show 0 ≤ 8 by decide) ⟨by rw [I.2.1]; show 0 + 2 ≤ 3; decide, by rw [I.2.1]; show 0 + 12 ≤ 18; decide⟩ (fun q => q.elim) (fun E u q => by obtain ⟨V9, rfl, q⟩ := q; exact abx_out O I (by decide) (by decide) ⟨V9, rfl, q⟩) (fun u hu => ?_)
  obtain ⟨V1, rfl, h⟩ := hu
  refine ab_aload_n O 0 dX8_lightEdges_6 rfl rfl ?_
  refine ab_iload_n O 1 dX8_lightEdges_7 rfl rfl ?_
  refine ab_iload_n O 2 dX8_lightEdges_8 rfl rfl ?_
  refine ab_callvV O I.2.2.2.2.2.2 (fr := False) (st := []) lk_X8_147 rfl (at_0 _ _ _) dX8_lightEdges_9 (c_X8_plantHolding (d - 1) (by omega) _ O.2.2.2.2.2.2.1 _ _ _ _ _ h) rfl rfl ⟨by rw [I.2.1]; show d - 1 + 1 ≤ d; omega, by rw [I.2.1]; show 8 + (_ + 11) + 36 * (d - 1) ≤ 36 * d; omega⟩ (show 0 ≤ 8 by decide) ⟨by rw [I.2.1]; show 2 + 1 ≤ 3; decide, by rw [I.2.1]; show 12 + 6 ≤ 18; decide⟩ (fun q => q.elim) (fun E u q => by obtain ⟨V9, rfl, q⟩ := q; exact abx_out O I (by decide) (by decide) ⟨V9, rfl, q⟩) (fun u hu => ?_)
  obtain ⟨V2, rfl, h⟩ := hu
  refine ab_aload_n O 0 dX8_lightEdges_12 rfl rfl ?_
  refine ab_get O fl_X8_62 dX8_lightEdges_13 (at_0 _ _ _) rfl ?_
  refine ab_callvV O I.2.2.2.2.2.2 (fr := False) (st := []) lk_X8_227 rfl (at_43 _ _ _) dX8_lightEdges_16 (c_X5_build (d - 1) (by omega) _ O.2.2.2.2.2.2.1 _ _ _ h) rfl rfl ⟨by rw [I.2.1]; show d - 1 + 1 ≤ d; omega, by rw [I.2.1]; show 8 + (_ + 11) + 36 * (d - 1) ≤ 36 * d; omega⟩ (show 0 ≤ 8 by decide) ⟨by rw [I.2.1]; show 3 + 0 ≤ 3; decide, by rw [I.2.1]; show 18 + 0 ≤ 18; decide⟩ (fun q => q.elim) (fun E u q => q.elim) (fun u hu => ?_)
  obtain ⟨V3, rfl, h⟩ := hu
  refine ab_aload_n O 0 dX8_lightEdges_19 rfl rfl ?_
  refine ab_get O fl_X8_62 dX8_lightEdges_20 (at_0 _ _ _) rfl ?_
  refine ab_iload_n O 2 dX8_lightEdges_23 rfl rfl ?_
  refine ab_callvI O I.2.2.2.2.2.2 (fr := False) (st := []) lk_X8_284 rfl (at_43 _ _ _) dX8_lightEdges_24 (c_X5_lightAbove (d - 1) (by omega) _ O.2.2.2.2.2.2.1 _ _ _ _ h) rfl rfl ⟨by rw [I.2.1]; show d - 1 + 1 ≤ d; omega, by rw [I.2.1]; show 8 + (_ + 11) + 36 * (d - 1) ≤ 36 * d; omega⟩ (show 0 ≤ 8 by decide) ⟨by rw [I.2.1]; show 3 + 0 ≤ 3; decide, by rw [I.2.1]; show 18 + 0 ≤ 18; decide⟩ (fun q => q.elim) (fun E u q => q.elim) (fun r5 u hu => ?_)
  obtain ⟨V4, rfl, h⟩ := hu
  exact ab_ireturn O I dX8_lightEdges_27 (by decide) (by decide) (by rfl) ⟨_, rfl, h⟩

def wp_X8_lightest (V : Mm) (a0 a1 : Int32) (post : Int32 → Mm → Prop) (px : String → Mm → Prop) : Prop := (wp_X8_requireVertices V (a0) (a1) (fun (V1 : Mm) => (wp_X3_firstBetween V1 (a0) (a1) (fun (r3 : Int32) (V2 : Mm) => ((r3 = (-1) → px "java/util/NoSuchElementException" V2) ∧ (¬ r3 = (-1) → post r3 V2))))) px)
set_option maxHeartbeats 4000000 in
theorem c_X8_lightest (d : Nat) (hd : 8 ≤ d) (l : Launch) (hl : l.stackTraces = false) (g : ab_G) (o : Nat → Int64) (D : Nat → UInt64) (a0 : Int32) (a1 : Int32) {V : Mm} {px : String → Mm → Prop} {post : Int32 → Mm → Prop} (h : wp_X8_lightest V a0 a1 post px) : Ct l g tk_strs False d 3 18 yX8_lightest cX8_lightest 4 (some .int) [.ref 0, .int a0, .int a1] (SW V o D) (tk_I g (fun r u => ∃ V : Mm, u = SW V o D ∧ post r V)) (fun E u => ∃ V : Mm, u = SW V o D ∧ px E V) := by
  refine ct_in (by decide +kernel) (show 3 ≤ 4 by decide) (by simp [Value.category]) hl (fun X I O _ => ?_)
  show Ab X g 0 0 _ 0 [some (.ref (0)), some (.int (a0)), some (.int (a1)), none] [] _
  refine ab_aload_n O 0 dX8_lightest_0 rfl rfl ?_
  refine ab_iload_n O 1 dX8_lightest_1 rfl rfl ?_
  refine ab_iload_n O 2 dX8_lightest_2 rfl rfl ?_
  refine ab_callvV O I.2.2.2.2.2.2 (fr := False) (st := []) lk_X8_102 rfl (at_0 _ _ _) dX8_lightest_3 (c_X8_requireVertices (d - 1) (by omega) _ O.2.2.2.2.2.2.1 _ _ _ _ _ h) rfl rfl ⟨by rw [I.2.1]; show d - 1 + 1 ≤ d; omega, by rw [I.2.1]; show 8 + (_ + 11) + 36 * (d - 1) ≤ 36 * d; omega⟩ (show 0 ≤ 8 by decide) ⟨by rw [I.2.1]; show 0 + 2 ≤ 3; decide, by rw [I.2.1]; show 0 + 12 ≤ 18; decide⟩ (fun q => q.elim) (fun E u q => by obtain ⟨V9, rfl, q⟩ := q; exact abx_out O I (by decide) (by decide) ⟨V9, rfl, q⟩) (fun u hu => ?_)
  obtain ⟨V1, rfl, h⟩ := hu
  refine ab_aload_n O 0 dX8_lightest_6 rfl rfl ?_
  refine ab_get O fl_X8_10 dX8_lightest_7 (at_0 _ _ _) rfl ?_
  refine ab_iload_n O 1 dX8_lightest_10 rfl rfl ?_
  refine ab_iload_n O 2 dX8_lightest_11 rfl rfl ?_
  refine ab_callvI O I.2.2.2.2.2.2 (fr := False) (st := []) lk_X8_175 rfl (at_1 _ _ _) dX8_lightest_12 (c_X3_firstBetween (d - 1) (by omega) _ O.2.2.2.2.2.2.1 _ _ _ _ _ h) rfl rfl ⟨by rw [I.2.1]; show d - 1 + 1 ≤ d; omega, by rw [I.2.1]; show 8 + (_ + 11) + 36 * (d - 1) ≤ 36 * d; omega⟩ (show 0 ≤ 8 by decide) ⟨by rw [I.2.1]; show 2 + 0 ≤ 3; decide, by rw [I.2.1]; show 12 + 0 ≤ 18; decide⟩ (fun q => q.elim) (fun E u q => q.elim) (fun r3 u hu => ?_)
  obtain ⟨V2, rfl, h⟩ := hu
  refine ab_istore_n O 3 dX8_lightest_15 rfl (show 3 < 4 by decide) ?_
  refine ab_iload_n O 3 dX8_lightest_16 rfl rfl ?_
  refine ab_iconst O (-1) dX8_lightest_17 rfl ?_
  refine ab_icmp_ne O 31 dX8_lightest_18 rfl (fun q4 => ?_) (fun q4 => ?_)
  · have h := h.2 q4
    refine ab_iload_n O 3 dX8_lightest_31 rfl rfl ?_
    exact ab_ireturn O I dX8_lightest_32 (by decide) (by decide) (by rfl) ⟨_, rfl, h⟩
  · have h := h.1 q4
    exact ab_throwN O I th_X8_167 (show (RX8, 178, "no present edge joins these vertices") ∈ tk_strs by decide +kernel) dX8_lightest_21 dX8_lightest_24 dX8_lightest_25 dX8_lightest_27 dX8_lightest_30 (show 5 < d by omega) (show 0 + 82 ≤ 36 * d by omega) (show 2 + 1 ≤ 3 by decide) (show 12 + 6 ≤ 18 by decide) ⟨_, rfl, h⟩

def wp_X8_quotient (V : Mm) (a0 a1 : Int32) (post : UInt32 → Mm → Prop) : Prop := ((a1 = 0 → post 0 V) ∧ (¬ a1 = 0 → (vf_n32 (FP.fdiv (FP.i2f a0) (FP.i2f a1)) ∧ post (FP.fdiv (FP.i2f a0) (FP.i2f a1)) V)))
set_option maxHeartbeats 4000000 in
theorem c_X8_quotient (d : Nat) (hd : 0 ≤ d) (l : Launch) (hl : l.stackTraces = false) (g : ab_G) (o : Nat → Int64) (D : Nat → UInt64) (a0 : Int32) (a1 : Int32) {V : Mm} {post : UInt32 → Mm → Prop} (h : wp_X8_quotient V a0 a1 post) : Ct l g tk_strs False d 0 0 yX8_quotient cX8_quotient 2 (some .float) [.int a0, .int a1] (SW V o D) (tk_F g (fun r u => ∃ V : Mm, u = SW V o D ∧ post r V)) (fun _ _ => False) := by
  refine ct_in (by decide +kernel) (show 2 ≤ 2 by decide) (by simp [Value.category]) hl (fun X I O _ => ?_)
  show Ab X g 0 0 _ 0 [some (.int (a0)), some (.int (a1))] [] _
  refine ab_iload_n O 1 dX8_quotient_0 rfl rfl ?_
  refine ab_if_ne O 8 dX8_quotient_1 rfl (fun q1 => ?_) (fun q1 => ?_)
  · have h := h.2 q1
    refine ab_iload_n O 0 dX8_quotient_8 rfl rfl ?_
    refine ab_i2f O dX8_quotient_9 ?_
    refine ab_iload_n O 1 dX8_quotient_10 rfl rfl ?_
    refine ab_i2f O dX8_quotient_11 ?_
    refine ab_fdiv O dX8_quotient_12 h.1 ?_
    have h := h.2
    exact ab_freturn O I dX8_quotient_13 (by decide) (by decide) ⟨_, rfl, h⟩
  · have h := h.1 q1
    refine ab_fconst0 O dX8_quotient_4 ?_
    refine ab_goto O 13 dX8_quotient_5 rfl ?_
    exact ab_freturn O I dX8_quotient_13 (by decide) (by decide) ⟨_, rfl, h⟩

def wp_X8_mean (V : Mm) (a0 a1 : Int32) (post : UInt32 → Mm → Prop) (px : String → Mm → Prop) : Prop := (wp_X8_requireVertices V (a0) (a1) (fun (V1 : Mm) => (wp_X8_plantHolding V1 (a0) (a1) (fun (V2 : Mm) => (wp_X7_sumFromRoot V2 (a1) (fun (r4 : Int32) (V3 : Mm) => (wp_X7_depthOf V3 (a1) (fun (r6 : Int32) (V5 : Mm) => (wp_X8_quotient V5 (r4) ((r6 + 1)) (fun (r8 : UInt32) (V7 : Mm) => post r8 V7))))))) px)) px)
set_option maxHeartbeats 4000000 in
theorem c_X8_mean (d : Nat) (hd : 8 ≤ d) (l : Launch) (hl : l.stackTraces = false) (g : ab_G) (o : Nat → Int64) (D : Nat → UInt64) (a0 : Int32) (a1 : Int32) {V : Mm} {px : String → Mm → Prop} {post : UInt32 → Mm → Prop} (h : wp_X8_mean V a0 a1 post px) : Ct l g tk_strs False d 3 18 yX8_mean cX8_mean 3 (some .float) [.ref 0, .int a0, .int a1] (SW V o D) (tk_F g (fun r u => ∃ V : Mm, u = SW V o D ∧ post r V)) (fun E u => ∃ V : Mm, u = SW V o D ∧ px E V) := by
  refine ct_in (by decide +kernel) (show 3 ≤ 3 by decide) (by simp [Value.category]) hl (fun X I O _ => ?_)
  show Ab X g 0 0 _ 0 [some (.ref (0)), some (.int (a0)), some (.int (a1))] [] _
  refine ab_aload_n O 0 dX8_mean_0 rfl rfl ?_
  refine ab_iload_n O 1 dX8_mean_1 rfl rfl ?_
  refine ab_iload_n O 2 dX8_mean_2 rfl rfl ?_
  refine ab_callvV O I.2.2.2.2.2.2 (fr := False) (st := []) lk_X8_102 rfl (at_0 _ _ _) dX8_mean_3 (c_X8_requireVertices (d - 1) (by omega) _ O.2.2.2.2.2.2.1 _ _ _ _ _ h) rfl rfl ⟨by rw [I.2.1]; show d - 1 + 1 ≤ d; omega, by rw [I.2.1]; show 8 + (_ + 11) + 36 * (d - 1) ≤ 36 * d; omega⟩ (show 0 ≤ 8 by decide) ⟨by rw [I.2.1]; show 0 + 2 ≤ 3; decide, by rw [I.2.1]; show 0 + 12 ≤ 18; decide⟩ (fun q => q.elim) (fun E u q => by obtain ⟨V9, rfl, q⟩ := q; exact abx_out O I (by decide) (by decide) ⟨V9, rfl, q⟩) (fun u hu => ?_)
  obtain ⟨V1, rfl, h⟩ := hu
  refine ab_aload_n O 0 dX8_mean_6 rfl rfl ?_
  refine ab_iload_n O 1 dX8_mean_7 rfl rfl ?_
  refine ab_iload_n O 2 dX8_mean_8 rfl rfl ?_
  refine ab_callvV O I.2.2.2.2.2.2 (fr := False) (st := []) lk_X8_147 rfl (at_0 _ _ _) dX8_mean_9 (c_X8_plantHolding (d - 1) (by omega) _ O.2.2.2.2.2.2.1 _ _ _ _ _ h) rfl rfl ⟨by rw [I.2.1]; show d - 1 + 1 ≤ d; omega, by rw [I.2.1]; show 8 + (_ + 11) + 36 * (d - 1) ≤ 36 * d; omega⟩ (show 0 ≤ 8 by decide) ⟨by rw [I.2.1]; show 2 + 1 ≤ 3; decide, by rw [I.2.1]; show 12 + 6 ≤ 18; decide⟩ (fun q => q.elim) (fun E u q => by obtain ⟨V9, rfl, q⟩ := q; exact abx_out O I (by decide) (by decide) ⟨V9, rfl, q⟩) (fun u hu => ?_)
  obtain ⟨V2, rfl, h⟩ := hu
  refine ab_aload_n O 0 dX8_mean_12 rfl rfl ?_
  refine ab_get O fl_X8_30 dX8_mean_13 (at_0 _ _ _) rfl ?_
  refine ab_iload_n O 2 dX8_mean_16 rfl rfl ?_
  refine ab_callvI O I.2.2.2.2.2.2 (fr := False) (st := []) lk_X8_224 rfl (at_29 _ _ _) dX8_mean_17 (c_X7_sumFromRoot (d - 1) (by omega) _ O.2.2.2.2.2.2.1 _ _ _ _ h) rfl rfl ⟨by rw [I.2.1]; show d - 1 + 1 ≤ d; omega, by rw [I.2.1]; show 8 + (_ + 11) + 36 * (d - 1) ≤ 36 * d; omega⟩ (show 0 ≤ 8 by decide) ⟨by rw [I.2.1]; show 3 + 0 ≤ 3; decide, by rw [I.2.1]; show 18 + 0 ≤ 18; decide⟩ (fun q => q.elim) (fun E u q => q.elim) (fun r4 u hu => ?_)
  obtain ⟨V3, rfl, h⟩ := hu
  refine ab_aload_n O 0 dX8_mean_20 rfl rfl ?_
  refine ab_get O fl_X8_30 dX8_mean_21 (at_0 _ _ _) rfl ?_
  refine ab_iload_n O 2 dX8_mean_24 rfl rfl ?_
  refine ab_callvI O I.2.2.2.2.2.2 (fr := False) (st := [.int (r4)]) lk_X8_153 rfl (at_29 _ _ _) dX8_mean_25 (c_X7_depthOf (d - 1) (by omega) _ O.2.2.2.2.2.2.1 _ _ _ _ h) rfl rfl ⟨by rw [I.2.1]; show d - 1 + 1 ≤ d; omega, by rw [I.2.1]; show 8 + (_ + 11) + 36 * (d - 1) ≤ 36 * d; omega⟩ (show 1 ≤ 8 by decide) ⟨by rw [I.2.1]; show 3 + 0 ≤ 3; decide, by rw [I.2.1]; show 18 + 0 ≤ 18; decide⟩ (fun q => q.elim) (fun E u q => q.elim) (fun r6 u hu => ?_)
  obtain ⟨V5, rfl, h⟩ := hu
  refine ab_iconst O 1 dX8_mean_28 rfl ?_
  refine ab_iadd O dX8_mean_29 ?_
  refine ab_callsF O I.2.2.2.2.2.2 (fr := False) (st := []) lk_X8_241 dX8_mean_30 (c_X8_quotient (d - 1) (by omega) _ O.2.2.2.2.2.2.1 _ _ _ _ _ h) rfl rfl ⟨by rw [I.2.1]; show d - 1 + 1 ≤ d; omega, by rw [I.2.1]; show 8 + (_ + 11) + 36 * (d - 1) ≤ 36 * d; omega⟩ (show 0 ≤ 8 by decide) ⟨by rw [I.2.1]; show 3 + 0 ≤ 3; decide, by rw [I.2.1]; show 18 + 0 ≤ 18; decide⟩ (fun q => q.elim) (fun E u q => q.elim) (fun r8 u hu => ?_)
  obtain ⟨V7, rfl, h⟩ := hu
  exact ab_freturn O I dX8_mean_33 (by decide) (by decide) ⟨_, rfl, h⟩

def wp_X8_neighbour (V : Mm) (a0 a1 : Int32) (post : Int32 → Mm → Prop) (px : String → Mm → Prop) : Prop := (wp_X8_requireVertex V (a0) (fun (V1 : Mm) => (wp_X0_neighbourAt V1 (a0) (a1) (fun (r3 : Int32) (V2 : Mm) => ((r3 = (-1) → px "java/util/NoSuchElementException" V2) ∧ (¬ r3 = (-1) → post r3 V2))))) px)
set_option maxHeartbeats 4000000 in
theorem c_X8_neighbour (d : Nat) (hd : 7 ≤ d) (l : Launch) (hl : l.stackTraces = false) (g : ab_G) (o : Nat → Int64) (D : Nat → UInt64) (a0 : Int32) (a1 : Int32) {V : Mm} {px : String → Mm → Prop} {post : Int32 → Mm → Prop} (h : wp_X8_neighbour V a0 a1 post px) : Ct l g tk_strs False d 2 12 yX8_neighbour cX8_neighbour 4 (some .int) [.ref 0, .int a0, .int a1] (SW V o D) (tk_I g (fun r u => ∃ V : Mm, u = SW V o D ∧ post r V)) (fun E u => ∃ V : Mm, u = SW V o D ∧ px E V) := by
  refine ct_in (by decide +kernel) (show 3 ≤ 4 by decide) (by simp [Value.category]) hl (fun X I O _ => ?_)
  show Ab X g 0 0 _ 0 [some (.ref (0)), some (.int (a0)), some (.int (a1)), none] [] _
  refine ab_aload_n O 0 dX8_neighbour_0 rfl rfl ?_
  refine ab_iload_n O 1 dX8_neighbour_1 rfl rfl ?_
  refine ab_callvV O I.2.2.2.2.2.2 (fr := False) (st := []) lk_X8_92 rfl (at_0 _ _ _) dX8_neighbour_2 (c_X8_requireVertex (d - 1) (by omega) _ O.2.2.2.2.2.2.1 _ _ _ _ h) rfl rfl ⟨by rw [I.2.1]; show d - 1 + 1 ≤ d; omega, by rw [I.2.1]; show 8 + (_ + 11) + 36 * (d - 1) ≤ 36 * d; omega⟩ (show 0 ≤ 8 by decide) ⟨by rw [I.2.1]; show 0 + 1 ≤ 2; decide, by rw [I.2.1]; show 0 + 6 ≤ 12; decide⟩ (fun q => q.elim) (fun E u q => by obtain ⟨V9, rfl, q⟩ := q; exact abx_out O I (by decide) (by decide) ⟨V9, rfl, q⟩) (fun u hu => ?_)
  obtain ⟨V1, rfl, h⟩ := hu
  refine ab_aload_n O 0 dX8_neighbour_5 rfl rfl ?_
  refine ab_get O fl_X8_21 dX8_neighbour_6 (at_0 _ _ _) rfl ?_
  refine ab_iload_n O 1 dX8_neighbour_9 rfl rfl ?_
  refine ab_iload_n O 2 dX8_neighbour_10 rfl rfl ?_
  refine ab_callvI O I.2.2.2.2.2.2 (fr := False) (st := []) lk_X8_193 rfl (at_7 _ _ _) dX8_neighbour_11 (c_X0_neighbourAt (d - 1) (by omega) _ O.2.2.2.2.2.2.1 _ _ _ _ _ h) rfl rfl ⟨by rw [I.2.1]; show d - 1 + 1 ≤ d; omega, by rw [I.2.1]; show 8 + (_ + 11) + 36 * (d - 1) ≤ 36 * d; omega⟩ (show 0 ≤ 8 by decide) ⟨by rw [I.2.1]; show 1 + 0 ≤ 2; decide, by rw [I.2.1]; show 6 + 0 ≤ 12; decide⟩ (fun q => q.elim) (fun E u q => q.elim) (fun r3 u hu => ?_)
  obtain ⟨V2, rfl, h⟩ := hu
  refine ab_istore_n O 3 dX8_neighbour_14 rfl (show 3 < 4 by decide) ?_
  refine ab_iload_n O 3 dX8_neighbour_15 rfl rfl ?_
  refine ab_iconst O (-1) dX8_neighbour_16 rfl ?_
  refine ab_icmp_ne O 30 dX8_neighbour_17 rfl (fun q4 => ?_) (fun q4 => ?_)
  · have h := h.2 q4
    refine ab_iload_n O 3 dX8_neighbour_30 rfl rfl ?_
    exact ab_ireturn O I dX8_neighbour_31 (by decide) (by decide) (by rfl) ⟨_, rfl, h⟩
  · have h := h.1 q4
    exact ab_throwN O I th_X8_167 (show (RX8, 196, "the vertex has no such neighbour") ∈ tk_strs by decide +kernel) dX8_neighbour_20 dX8_neighbour_23 dX8_neighbour_24 dX8_neighbour_26 dX8_neighbour_29 (show 5 < d by omega) (show 0 + 82 ≤ 36 * d by omega) (show 1 + 1 ≤ 2 by decide) (show 6 + 6 ≤ 12 by decide) ⟨_, rfl, h⟩

def wp_X8_requireEdge (V : Mm) (a0 : Int32) (post : Mm → Prop) (px : String → Mm → Prop) : Prop := (wp_X3_hasEdge V (a0) (fun (r2 : Int32) (V1 : Mm) => ((r2 = 0 → px "java/lang/IndexOutOfBoundsException" V1) ∧ (¬ r2 = 0 → post V1))))
set_option maxHeartbeats 4000000 in
theorem c_X8_requireEdge (d : Nat) (hd : 6 ≤ d) (l : Launch) (hl : l.stackTraces = false) (g : ab_G) (o : Nat → Int64) (D : Nat → UInt64) (a0 : Int32) {V : Mm} {px : String → Mm → Prop} {post : Mm → Prop} (h : wp_X8_requireEdge V a0 post px) : Ct l g tk_strs False d 1 6 yX8_requireEdge cX8_requireEdge 2 none [.ref 0, .int a0] (SW V o D) (tk_V g (fun u => ∃ V : Mm, u = SW V o D ∧ post V)) (fun E u => ∃ V : Mm, u = SW V o D ∧ px E V) := by
  refine ct_in (by decide +kernel) (show 2 ≤ 2 by decide) (by simp [Value.category]) hl (fun X I O _ => ?_)
  show Ab X g 0 0 _ 0 [some (.ref (0)), some (.int (a0))] [] _
  refine ab_aload_n O 0 dX8_requireEdge_0 rfl rfl ?_
  refine ab_get O fl_X8_10 dX8_requireEdge_1 (at_0 _ _ _) rfl ?_
  refine ab_iload_n O 1 dX8_requireEdge_4 rfl rfl ?_
  refine ab_callvI O I.2.2.2.2.2.2 (fr := False) (st := []) lk_X8_312 rfl (at_1 _ _ _) dX8_requireEdge_5 (c_X3_hasEdge (d - 1) (by omega) _ O.2.2.2.2.2.2.1 _ _ _ _ h) rfl rfl ⟨by rw [I.2.1]; show d - 1 + 1 ≤ d; omega, by rw [I.2.1]; show 8 + (_ + 11) + 36 * (d - 1) ≤ 36 * d; omega⟩ (show 0 ≤ 8 by decide) ⟨by rw [I.2.1]; show 0 + 0 ≤ 1; decide, by rw [I.2.1]; show 0 + 0 ≤ 6; decide⟩ (fun q => q.elim) (fun E u q => q.elim) (fun r2 u hu => ?_)
  obtain ⟨V1, rfl, h⟩ := hu
  refine ab_if_ne O 22 dX8_requireEdge_8 rfl (fun q3 => ?_) (fun q3 => ?_)
  · have h := h.2 q3
    exact ab_return O I dX8_requireEdge_22 (by decide) (by decide) ⟨_, rfl, h⟩
  · have h := h.1 q3
    exact ab_throwW O I th_X8_307 (show (RX8, 315, "there is no such edge") ∈ tk_strs by decide +kernel) dX8_requireEdge_11 dX8_requireEdge_14 dX8_requireEdge_15 dX8_requireEdge_18 dX8_requireEdge_21 (show 5 < d by omega) (show 0 + 82 ≤ 36 * d by omega) (show 0 + 1 ≤ 1 by decide) (show 0 + 6 ≤ 6 by decide) ⟨_, rfl, h⟩

def wp_X8_otherEnd (V : Mm) (a0 a1 : Int32) (post : Int32 → Mm → Prop) (px : String → Mm → Prop) : Prop := (wp_X8_requireEdge V (a0) (fun (V1 : Mm) => (wp_X8_requireVertex V1 (a1) (fun (V2 : Mm) => (wp_X3_acrossFrom V2 (a0) (a1) (fun (r4 : Int32) (V3 : Mm) => ((r4 = (-1) → px "java/util/NoSuchElementException" V3) ∧ (¬ r4 = (-1) → post r4 V3))))) px)) px)
set_option maxHeartbeats 4000000 in
theorem c_X8_otherEnd (d : Nat) (hd : 7 ≤ d) (l : Launch) (hl : l.stackTraces = false) (g : ab_G) (o : Nat → Int64) (D : Nat → UInt64) (a0 : Int32) (a1 : Int32) {V : Mm} {px : String → Mm → Prop} {post : Int32 → Mm → Prop} (h : wp_X8_otherEnd V a0 a1 post px) : Ct l g tk_strs False d 3 18 yX8_otherEnd cX8_otherEnd 4 (some .int) [.ref 0, .int a0, .int a1] (SW V o D) (tk_I g (fun r u => ∃ V : Mm, u = SW V o D ∧ post r V)) (fun E u => ∃ V : Mm, u = SW V o D ∧ px E V) := by
  refine ct_in (by decide +kernel) (show 3 ≤ 4 by decide) (by simp [Value.category]) hl (fun X I O _ => ?_)
  show Ab X g 0 0 _ 0 [some (.ref (0)), some (.int (a0)), some (.int (a1)), none] [] _
  refine ab_aload_n O 0 dX8_otherEnd_0 rfl rfl ?_
  refine ab_iload_n O 1 dX8_otherEnd_1 rfl rfl ?_
  refine ab_callvV O I.2.2.2.2.2.2 (fr := False) (st := []) lk_X8_123 rfl (at_0 _ _ _) dX8_otherEnd_2 (c_X8_requireEdge (d - 1) (by omega) _ O.2.2.2.2.2.2.1 _ _ _ _ h) rfl rfl ⟨by rw [I.2.1]; show d - 1 + 1 ≤ d; omega, by rw [I.2.1]; show 8 + (_ + 11) + 36 * (d - 1) ≤ 36 * d; omega⟩ (show 0 ≤ 8 by decide) ⟨by rw [I.2.1]; show 0 + 1 ≤ 3; decide, by rw [I.2.1]; show 0 + 6 ≤ 18; decide⟩ (fun q => q.elim) (fun E u q => by obtain ⟨V9, rfl, q⟩ := q; exact abx_out O I (by decide) (by decide) ⟨V9, rfl, q⟩) (fun u hu => ?_)
  obtain ⟨V1, rfl, h⟩ := hu
  refine ab_aload_n O 0 dX8_otherEnd_5 rfl rfl ?_
  refine ab_iload_n O 2 dX8_otherEnd_6 rfl rfl ?_
  refine ab_callvV O I.2.2.2.2.2.2 (fr := False) (st := []) lk_X8_92 rfl (at_0 _ _ _) dX8_otherEnd_7 (c_X8_requireVertex (d - 1) (by omega) _ O.2.2.2.2.2.2.1 _ _ _ _ h) rfl rfl ⟨by rw [I.2.1]; show d - 1 + 1 ≤ d; omega, by rw [I.2.1]; show 8 + (_ + 11) + 36 * (d - 1) ≤ 36 * d; omega⟩ (show 0 ≤ 8 by decide) ⟨by rw [I.2.1]; show 1 + 1 ≤ 3; decide, by rw [I.2.1]; show 6 + 6 ≤ 18; decide⟩ (fun q => q.elim) (fun E u q => by obtain ⟨V9, rfl, q⟩ := q; exact abx_out O I (by decide) (by decide) ⟨V9, rfl, q⟩) (fun u hu => ?_)
  obtain ⟨V2, rfl, h⟩ := hu
  refine ab_aload_n O 0 dX8_otherEnd_10 rfl rfl ?_
  refine ab_get O fl_X8_10 dX8_otherEnd_11 (at_0 _ _ _) rfl ?_
  refine ab_iload_n O 1 dX8_otherEnd_14 rfl rfl ?_
  refine ab_iload_n O 2 dX8_otherEnd_15 rfl rfl ?_
  refine ab_callvI O I.2.2.2.2.2.2 (fr := False) (st := []) lk_X8_163 rfl (at_1 _ _ _) dX8_otherEnd_16 (c_X3_acrossFrom (d - 1) (by omega) _ O.2.2.2.2.2.2.1 _ _ _ _ _ h) rfl rfl ⟨by rw [I.2.1]; show d - 1 + 1 ≤ d; omega, by rw [I.2.1]; show 8 + (_ + 11) + 36 * (d - 1) ≤ 36 * d; omega⟩ (show 0 ≤ 8 by decide) ⟨by rw [I.2.1]; show 2 + 0 ≤ 3; decide, by rw [I.2.1]; show 12 + 0 ≤ 18; decide⟩ (fun q => q.elim) (fun E u q => q.elim) (fun r4 u hu => ?_)
  obtain ⟨V3, rfl, h⟩ := hu
  refine ab_istore_n O 3 dX8_otherEnd_19 rfl (show 3 < 4 by decide) ?_
  refine ab_iload_n O 3 dX8_otherEnd_20 rfl rfl ?_
  refine ab_iconst O (-1) dX8_otherEnd_21 rfl ?_
  refine ab_icmp_ne O 35 dX8_otherEnd_22 rfl (fun q5 => ?_) (fun q5 => ?_)
  · have h := h.2 q5
    refine ab_iload_n O 3 dX8_otherEnd_35 rfl rfl ?_
    exact ab_ireturn O I dX8_otherEnd_36 (by decide) (by decide) (by rfl) ⟨_, rfl, h⟩
  · have h := h.1 q5
    exact ab_throwN O I th_X8_167 (show (RX8, 169, "the edge does not join this vertex") ∈ tk_strs by decide +kernel) dX8_otherEnd_25 dX8_otherEnd_28 dX8_otherEnd_29 dX8_otherEnd_31 dX8_otherEnd_34 (show 5 < d by omega) (show 0 + 82 ≤ 36 * d by omega) (show 2 + 1 ≤ 3 by decide) (show 12 + 6 ≤ 18 by decide) ⟨_, rfl, h⟩

def wp_X8_parallel (V : Mm) (a0 a1 : Int32) (post : Int32 → Mm → Prop) (px : String → Mm → Prop) : Prop := (wp_X8_requireVertices V (a0) (a1) (fun (V1 : Mm) => (wp_X3_countBetween V1 (a0) (a1) (fun (r3 : Int32) (V2 : Mm) => post r3 V2))) px)
set_option maxHeartbeats 4000000 in
theorem c_X8_parallel (d : Nat) (hd : 8 ≤ d) (l : Launch) (hl : l.stackTraces = false) (g : ab_G) (o : Nat → Int64) (D : Nat → UInt64) (a0 : Int32) (a1 : Int32) {V : Mm} {px : String → Mm → Prop} {post : Int32 → Mm → Prop} (h : wp_X8_parallel V a0 a1 post px) : Ct l g tk_strs False d 2 12 yX8_parallel cX8_parallel 3 (some .int) [.ref 0, .int a0, .int a1] (SW V o D) (tk_I g (fun r u => ∃ V : Mm, u = SW V o D ∧ post r V)) (fun E u => ∃ V : Mm, u = SW V o D ∧ px E V) := by
  refine ct_in (by decide +kernel) (show 3 ≤ 3 by decide) (by simp [Value.category]) hl (fun X I O _ => ?_)
  show Ab X g 0 0 _ 0 [some (.ref (0)), some (.int (a0)), some (.int (a1))] [] _
  refine ab_aload_n O 0 dX8_parallel_0 rfl rfl ?_
  refine ab_iload_n O 1 dX8_parallel_1 rfl rfl ?_
  refine ab_iload_n O 2 dX8_parallel_2 rfl rfl ?_
  refine ab_callvV O I.2.2.2.2.2.2 (fr := False) (st := []) lk_X8_102 rfl (at_0 _ _ _) dX8_parallel_3 (c_X8_requireVertices (d - 1) (by omega) _ O.2.2.2.2.2.2.1 _ _ _ _ _ h) rfl rfl ⟨by rw [I.2.1]; show d - 1 + 1 ≤ d; omega, by rw [I.2.1]; show 8 + (_ + 11) + 36 * (d - 1) ≤ 36 * d; omega⟩ (show 0 ≤ 8 by decide) ⟨by rw [I.2.1]; show 0 + 2 ≤ 2; decide, by rw [I.2.1]; show 0 + 12 ≤ 12; decide⟩ (fun q => q.elim) (fun E u q => by obtain ⟨V9, rfl, q⟩ := q; exact abx_out O I (by decide) (by decide) ⟨V9, rfl, q⟩) (fun u hu => ?_)
  obtain ⟨V1, rfl, h⟩ := hu
  refine ab_aload_n O 0 dX8_parallel_6 rfl rfl ?_
  refine ab_get O fl_X8_10 dX8_parallel_7 (at_0 _ _ _) rfl ?_
  refine ab_iload_n O 1 dX8_parallel_10 rfl rfl ?_
  refine ab_iload_n O 2 dX8_parallel_11 rfl rfl ?_
  refine ab_callvI O I.2.2.2.2.2.2 (fr := False) (st := []) lk_X8_172 rfl (at_1 _ _ _) dX8_parallel_12 (c_X3_countBetween (d - 1) (by omega) _ O.2.2.2.2.2.2.1 _ _ _ _ _ h) rfl rfl ⟨by rw [I.2.1]; show d - 1 + 1 ≤ d; omega, by rw [I.2.1]; show 8 + (_ + 11) + 36 * (d - 1) ≤ 36 * d; omega⟩ (show 0 ≤ 8 by decide) ⟨by rw [I.2.1]; show 2 + 0 ≤ 2; decide, by rw [I.2.1]; show 12 + 0 ≤ 12; decide⟩ (fun q => q.elim) (fun E u q => q.elim) (fun r3 u hu => ?_)
  obtain ⟨V2, rfl, h⟩ := hu
  exact ab_ireturn O I dX8_parallel_15 (by decide) (by decide) (by rfl) ⟨_, rfl, h⟩

def wp_X8_parent (V : Mm) (a0 a1 : Int32) (post : Int32 → Mm → Prop) (px : String → Mm → Prop) : Prop := (wp_X8_requireVertices V (a0) (a1) (fun (V1 : Mm) => (wp_X8_plantHolding V1 (a0) (a1) (fun (V2 : Mm) => ((a0 = a1 → px "java/lang/UnsupportedOperationException" V2) ∧ (¬ a0 = a1 → (wp_X7_above V2 (a1) (fun (r5 : Int32) (V4 : Mm) => post r5 V4))))) px)) px)
set_option maxHeartbeats 4000000 in
theorem c_X8_parent (d : Nat) (hd : 8 ≤ d) (l : Launch) (hl : l.stackTraces = false) (g : ab_G) (o : Nat → Int64) (D : Nat → UInt64) (a0 : Int32) (a1 : Int32) {V : Mm} {px : String → Mm → Prop} {post : Int32 → Mm → Prop} (h : wp_X8_parent V a0 a1 post px) : Ct l g tk_strs False d 4 24 yX8_parent cX8_parent 3 (some .int) [.ref 0, .int a0, .int a1] (SW V o D) (tk_I g (fun r u => ∃ V : Mm, u = SW V o D ∧ post r V)) (fun E u => ∃ V : Mm, u = SW V o D ∧ px E V) := by
  refine ct_in (by decide +kernel) (show 3 ≤ 3 by decide) (by simp [Value.category]) hl (fun X I O _ => ?_)
  show Ab X g 0 0 _ 0 [some (.ref (0)), some (.int (a0)), some (.int (a1))] [] _
  refine ab_aload_n O 0 dX8_parent_0 rfl rfl ?_
  refine ab_iload_n O 1 dX8_parent_1 rfl rfl ?_
  refine ab_iload_n O 2 dX8_parent_2 rfl rfl ?_
  refine ab_callvV O I.2.2.2.2.2.2 (fr := False) (st := []) lk_X8_102 rfl (at_0 _ _ _) dX8_parent_3 (c_X8_requireVertices (d - 1) (by omega) _ O.2.2.2.2.2.2.1 _ _ _ _ _ h) rfl rfl ⟨by rw [I.2.1]; show d - 1 + 1 ≤ d; omega, by rw [I.2.1]; show 8 + (_ + 11) + 36 * (d - 1) ≤ 36 * d; omega⟩ (show 0 ≤ 8 by decide) ⟨by rw [I.2.1]; show 0 + 2 ≤ 4; decide, by rw [I.2.1]; show 0 + 12 ≤ 24; decide⟩ (fun q => q.elim) (fun E u q => by obtain ⟨V9, rfl, q⟩ := q; exact abx_out O I (by decide) (by decide) ⟨V9, rfl, q⟩) (fun u hu => ?_)
  obtain ⟨V1, rfl, h⟩ := hu
  refine ab_aload_n O 0 dX8_parent_6 rfl rfl ?_
  refine ab_iload_n O 1 dX8_parent_7 rfl rfl ?_
  refine ab_iload_n O 2 dX8_parent_8 rfl rfl ?_
  refine ab_callvV O I.2.2.2.2.2.2 (fr := False) (st := []) lk_X8_147 rfl (at_0 _ _ _) dX8_parent_9 (c_X8_plantHolding (d - 1) (by omega) _ O.2.2.2.2.2.2.1 _ _ _ _ _ h) rfl rfl ⟨by rw [I.2.1]; show d - 1 + 1 ≤ d; omega, by rw [I.2.1]; show 8 + (_ + 11) + 36 * (d - 1) ≤ 36 * d; omega⟩ (show 0 ≤ 8 by decide) ⟨by rw [I.2.1]; show 2 + 1 ≤ 4; decide, by rw [I.2.1]; show 12 + 6 ≤ 24; decide⟩ (fun q => q.elim) (fun E u q => by obtain ⟨V9, rfl, q⟩ := q; exact abx_out O I (by decide) (by decide) ⟨V9, rfl, q⟩) (fun u hu => ?_)
  obtain ⟨V2, rfl, h⟩ := hu
  refine ab_iload_n O 1 dX8_parent_12 rfl rfl ?_
  refine ab_iload_n O 2 dX8_parent_13 rfl rfl ?_
  refine ab_icmp_ne O 27 dX8_parent_14 rfl (fun q3 => ?_) (fun q3 => ?_)
  · have h := h.2 q3
    refine ab_aload_n O 0 dX8_parent_27 rfl rfl ?_
    refine ab_get O fl_X8_30 dX8_parent_28 (at_0 _ _ _) rfl ?_
    refine ab_iload_n O 2 dX8_parent_31 rfl rfl ?_
    refine ab_callvI O I.2.2.2.2.2.2 (fr := False) (st := []) lk_X8_250 rfl (at_29 _ _ _) dX8_parent_32 (c_X7_above (d - 1) (by omega) _ O.2.2.2.2.2.2.1 _ _ _ _ h) rfl rfl ⟨by rw [I.2.1]; show d - 1 + 1 ≤ d; omega, by rw [I.2.1]; show 8 + (_ + 11) + 36 * (d - 1) ≤ 36 * d; omega⟩ (show 0 ≤ 8 by decide) ⟨by rw [I.2.1]; show 3 + 0 ≤ 4; decide, by rw [I.2.1]; show 18 + 0 ≤ 24; decide⟩ (fun q => q.elim) (fun E u q => q.elim) (fun r5 u hu => ?_)
    obtain ⟨V4, rfl, h⟩ := hu
    exact ab_ireturn O I dX8_parent_35 (by decide) (by decide) (by rfl) ⟨_, rfl, h⟩
  · have h := h.1 q3
    exact ab_throw O I th_X8_245 (show (RX8, 247, "the vertex is the root") ∈ tk_strs by decide +kernel) dX8_parent_17 dX8_parent_20 dX8_parent_21 dX8_parent_23 dX8_parent_26 (show 5 < d by omega) (show 0 + 82 ≤ 36 * d by omega) (show 3 + 1 ≤ 4 by decide) (show 18 + 6 ≤ 24 by decide) ⟨_, rfl, h⟩

def wp_X8_pathSum (V : Mm) (a0 a1 : Int32) (post : Int32 → Mm → Prop) (px : String → Mm → Prop) : Prop := (wp_X8_requireVertices V (a0) (a1) (fun (V1 : Mm) => (wp_X8_plantHolding V1 (a0) (a1) (fun (V2 : Mm) => (wp_X7_sumFromRoot V2 (a1) (fun (r4 : Int32) (V3 : Mm) => post r4 V3))) px)) px)
set_option maxHeartbeats 4000000 in
theorem c_X8_pathSum (d : Nat) (hd : 8 ≤ d) (l : Launch) (hl : l.stackTraces = false) (g : ab_G) (o : Nat → Int64) (D : Nat → UInt64) (a0 : Int32) (a1 : Int32) {V : Mm} {px : String → Mm → Prop} {post : Int32 → Mm → Prop} (h : wp_X8_pathSum V a0 a1 post px) : Ct l g tk_strs False d 3 18 yX8_pathSum cX8_pathSum 3 (some .int) [.ref 0, .int a0, .int a1] (SW V o D) (tk_I g (fun r u => ∃ V : Mm, u = SW V o D ∧ post r V)) (fun E u => ∃ V : Mm, u = SW V o D ∧ px E V) := by
  refine ct_in (by decide +kernel) (show 3 ≤ 3 by decide) (by simp [Value.category]) hl (fun X I O _ => ?_)
  show Ab X g 0 0 _ 0 [some (.ref (0)), some (.int (a0)), some (.int (a1))] [] _
  refine ab_aload_n O 0 dX8_pathSum_0 rfl rfl ?_
  refine ab_iload_n O 1 dX8_pathSum_1 rfl rfl ?_
  refine ab_iload_n O 2 dX8_pathSum_2 rfl rfl ?_
  refine ab_callvV O I.2.2.2.2.2.2 (fr := False) (st := []) lk_X8_102 rfl (at_0 _ _ _) dX8_pathSum_3 (c_X8_requireVertices (d - 1) (by omega) _ O.2.2.2.2.2.2.1 _ _ _ _ _ h) rfl rfl ⟨by rw [I.2.1]; show d - 1 + 1 ≤ d; omega, by rw [I.2.1]; show 8 + (_ + 11) + 36 * (d - 1) ≤ 36 * d; omega⟩ (show 0 ≤ 8 by decide) ⟨by rw [I.2.1]; show 0 + 2 ≤ 3; decide, by rw [I.2.1]; show 0 + 12 ≤ 18; decide⟩ (fun q => q.elim) (fun E u q => by obtain ⟨V9, rfl, q⟩ := q; exact abx_out O I (by decide) (by decide) ⟨V9, rfl, q⟩) (fun u hu => ?_)
  obtain ⟨V1, rfl, h⟩ := hu
  refine ab_aload_n O 0 dX8_pathSum_6 rfl rfl ?_
  refine ab_iload_n O 1 dX8_pathSum_7 rfl rfl ?_
  refine ab_iload_n O 2 dX8_pathSum_8 rfl rfl ?_
  refine ab_callvV O I.2.2.2.2.2.2 (fr := False) (st := []) lk_X8_147 rfl (at_0 _ _ _) dX8_pathSum_9 (c_X8_plantHolding (d - 1) (by omega) _ O.2.2.2.2.2.2.1 _ _ _ _ _ h) rfl rfl ⟨by rw [I.2.1]; show d - 1 + 1 ≤ d; omega, by rw [I.2.1]; show 8 + (_ + 11) + 36 * (d - 1) ≤ 36 * d; omega⟩ (show 0 ≤ 8 by decide) ⟨by rw [I.2.1]; show 2 + 1 ≤ 3; decide, by rw [I.2.1]; show 12 + 6 ≤ 18; decide⟩ (fun q => q.elim) (fun E u q => by obtain ⟨V9, rfl, q⟩ := q; exact abx_out O I (by decide) (by decide) ⟨V9, rfl, q⟩) (fun u hu => ?_)
  obtain ⟨V2, rfl, h⟩ := hu
  refine ab_aload_n O 0 dX8_pathSum_12 rfl rfl ?_
  refine ab_get O fl_X8_30 dX8_pathSum_13 (at_0 _ _ _) rfl ?_
  refine ab_iload_n O 2 dX8_pathSum_16 rfl rfl ?_
  refine ab_callvI O I.2.2.2.2.2.2 (fr := False) (st := []) lk_X8_224 rfl (at_29 _ _ _) dX8_pathSum_17 (c_X7_sumFromRoot (d - 1) (by omega) _ O.2.2.2.2.2.2.1 _ _ _ _ h) rfl rfl ⟨by rw [I.2.1]; show d - 1 + 1 ≤ d; omega, by rw [I.2.1]; show 8 + (_ + 11) + 36 * (d - 1) ≤ 36 * d; omega⟩ (show 0 ≤ 8 by decide) ⟨by rw [I.2.1]; show 3 + 0 ≤ 3; decide, by rw [I.2.1]; show 18 + 0 ≤ 18; decide⟩ (fun q => q.elim) (fun E u q => q.elim) (fun r4 u hu => ?_)
  obtain ⟨V3, rfl, h⟩ := hu
  exact ab_ireturn O I dX8_pathSum_20 (by decide) (by decide) (by rfl) ⟨_, rfl, h⟩

def wp_X8_pathSumByHeavyPaths (V : Mm) (a0 a1 : Int32) (post : Int32 → Mm → Prop) (px : String → Mm → Prop) : Prop := (wp_X8_requireVertices V (a0) (a1) (fun (V1 : Mm) => (wp_X8_plantHolding V1 (a0) (a1) (fun (V2 : Mm) => (wp_X5_build V2 (fun (V3 : Mm) => (wp_X5_sumToRoot V3 (a1) (fun (r5 : Int32) (V4 : Mm) => post r5 V4))))) px)) px)
set_option maxHeartbeats 4000000 in
theorem c_X8_pathSumByHeavyPaths (d : Nat) (hd : 8 ≤ d) (l : Launch) (hl : l.stackTraces = false) (g : ab_G) (o : Nat → Int64) (D : Nat → UInt64) (a0 : Int32) (a1 : Int32) {V : Mm} {px : String → Mm → Prop} {post : Int32 → Mm → Prop} (h : wp_X8_pathSumByHeavyPaths V a0 a1 post px) : Ct l g tk_strs False d 3 18 yX8_pathSumByHeavyPaths cX8_pathSumByHeavyPaths 3 (some .int) [.ref 0, .int a0, .int a1] (SW V o D) (tk_I g (fun r u => ∃ V : Mm, u = SW V o D ∧ post r V)) (fun E u => ∃ V : Mm, u = SW V o D ∧ px E V) := by
  refine ct_in (by decide +kernel) (show 3 ≤ 3 by decide) (by simp [Value.category]) hl (fun X I O _ => ?_)
  show Ab X g 0 0 _ 0 [some (.ref (0)), some (.int (a0)), some (.int (a1))] [] _
  refine ab_aload_n O 0 dX8_pathSumByHeavyPaths_0 rfl rfl ?_
  refine ab_iload_n O 1 dX8_pathSumByHeavyPaths_1 rfl rfl ?_
  refine ab_iload_n O 2 dX8_pathSumByHeavyPaths_2 rfl rfl ?_
  refine ab_callvV O I.2.2.2.2.2.2 (fr := False) (st := []) lk_X8_102 rfl (at_0 _ _ _) dX8_pathSumByHeavyPaths_3 (c_X8_requireVertices (d - 1) (by omega) _ O.2.2.2.2.2.2.1 _ _ _ _ _ h) rfl rfl ⟨by rw [I.2.1]; show d - 1 + 1 ≤ d; omega, by rw [I.2.1]; show 8 + (_ + 11) + 36 * (d - 1) ≤ 36 * d; omega⟩ (show 0 ≤ 8 by decide) ⟨by rw [I.2.1]; show 0 + 2 ≤ 3; decide, by rw [I.2.1]; show 0 + 12 ≤ 18; decide⟩ (fun q => q.elim) (fun E u q => by obtain ⟨V9, rfl, q⟩ := q; exact abx_out O I (by decide) (by decide) ⟨V9, rfl, q⟩) (fun u hu => ?_)
  obtain ⟨V1, rfl, h⟩ := hu
  refine ab_aload_n O 0 dX8_pathSumByHeavyPaths_6 rfl rfl ?_
  refine ab_iload_n O 1 dX8_pathSumByHeavyPaths_7 rfl rfl ?_
  refine ab_iload_n O 2 dX8_pathSumByHeavyPaths_8 rfl rfl ?_
  refine ab_callvV O I.2.2.2.2.2.2 (fr := False) (st := []) lk_X8_147 rfl (at_0 _ _ _) dX8_pathSumByHeavyPaths_9 (c_X8_plantHolding (d - 1) (by omega) _ O.2.2.2.2.2.2.1 _ _ _ _ _ h) rfl rfl ⟨by rw [I.2.1]; show d - 1 + 1 ≤ d; omega, by rw [I.2.1]; show 8 + (_ + 11) + 36 * (d - 1) ≤ 36 * d; omega⟩ (show 0 ≤ 8 by decide) ⟨by rw [I.2.1]; show 2 + 1 ≤ 3; decide, by rw [I.2.1]; show 12 + 6 ≤ 18; decide⟩ (fun q => q.elim) (fun E u q => by obtain ⟨V9, rfl, q⟩ := q; exact abx_out O I (by decide) (by decide) ⟨V9, rfl, q⟩) (fun u hu => ?_)
  obtain ⟨V2, rfl, h⟩ := hu
  refine ab_aload_n O 0 dX8_pathSumByHeavyPaths_12 rfl rfl ?_
  refine ab_get O fl_X8_62 dX8_pathSumByHeavyPaths_13 (at_0 _ _ _) rfl ?_
  refine ab_callvV O I.2.2.2.2.2.2 (fr := False) (st := []) lk_X8_227 rfl (at_43 _ _ _) dX8_pathSumByHeavyPaths_16 (c_X5_build (d - 1) (by omega) _ O.2.2.2.2.2.2.1 _ _ _ h) rfl rfl ⟨by rw [I.2.1]; show d - 1 + 1 ≤ d; omega, by rw [I.2.1]; show 8 + (_ + 11) + 36 * (d - 1) ≤ 36 * d; omega⟩ (show 0 ≤ 8 by decide) ⟨by rw [I.2.1]; show 3 + 0 ≤ 3; decide, by rw [I.2.1]; show 18 + 0 ≤ 18; decide⟩ (fun q => q.elim) (fun E u q => q.elim) (fun u hu => ?_)
  obtain ⟨V3, rfl, h⟩ := hu
  refine ab_aload_n O 0 dX8_pathSumByHeavyPaths_19 rfl rfl ?_
  refine ab_get O fl_X8_62 dX8_pathSumByHeavyPaths_20 (at_0 _ _ _) rfl ?_
  refine ab_iload_n O 2 dX8_pathSumByHeavyPaths_23 rfl rfl ?_
  refine ab_callvI O I.2.2.2.2.2.2 (fr := False) (st := []) lk_X8_229 rfl (at_43 _ _ _) dX8_pathSumByHeavyPaths_24 (c_X5_sumToRoot (d - 1) (by omega) _ O.2.2.2.2.2.2.1 _ _ _ _ h) rfl rfl ⟨by rw [I.2.1]; show d - 1 + 1 ≤ d; omega, by rw [I.2.1]; show 8 + (_ + 11) + 36 * (d - 1) ≤ 36 * d; omega⟩ (show 0 ≤ 8 by decide) ⟨by rw [I.2.1]; show 3 + 0 ≤ 3; decide, by rw [I.2.1]; show 18 + 0 ≤ 18; decide⟩ (fun q => q.elim) (fun E u q => q.elim) (fun r5 u hu => ?_)
  obtain ⟨V4, rfl, h⟩ := hu
  exact ab_ireturn O I dX8_pathSumByHeavyPaths_27 (by decide) (by decide) (by rfl) ⟨_, rfl, h⟩

def wp_X8_pathSumByWalk (V : Mm) (a0 a1 : Int32) (post : Int32 → Mm → Prop) (px : String → Mm → Prop) : Prop := (wp_X8_requireVertices V (a0) (a1) (fun (V1 : Mm) => (wp_X8_plantHolding V1 (a1) (a0) (fun (V2 : Mm) => (wp_X7_sumByClimbing V2 (a0) (fun (r4 : Int32) (V3 : Mm) => post r4 V3))) px)) px)
set_option maxHeartbeats 4000000 in
theorem c_X8_pathSumByWalk (d : Nat) (hd : 8 ≤ d) (l : Launch) (hl : l.stackTraces = false) (g : ab_G) (o : Nat → Int64) (D : Nat → UInt64) (a0 : Int32) (a1 : Int32) {V : Mm} {px : String → Mm → Prop} {post : Int32 → Mm → Prop} (h : wp_X8_pathSumByWalk V a0 a1 post px) : Ct l g tk_strs False d 3 18 yX8_pathSumByWalk cX8_pathSumByWalk 3 (some .int) [.ref 0, .int a0, .int a1] (SW V o D) (tk_I g (fun r u => ∃ V : Mm, u = SW V o D ∧ post r V)) (fun E u => ∃ V : Mm, u = SW V o D ∧ px E V) := by
  refine ct_in (by decide +kernel) (show 3 ≤ 3 by decide) (by simp [Value.category]) hl (fun X I O _ => ?_)
  show Ab X g 0 0 _ 0 [some (.ref (0)), some (.int (a0)), some (.int (a1))] [] _
  refine ab_aload_n O 0 dX8_pathSumByWalk_0 rfl rfl ?_
  refine ab_iload_n O 1 dX8_pathSumByWalk_1 rfl rfl ?_
  refine ab_iload_n O 2 dX8_pathSumByWalk_2 rfl rfl ?_
  refine ab_callvV O I.2.2.2.2.2.2 (fr := False) (st := []) lk_X8_102 rfl (at_0 _ _ _) dX8_pathSumByWalk_3 (c_X8_requireVertices (d - 1) (by omega) _ O.2.2.2.2.2.2.1 _ _ _ _ _ h) rfl rfl ⟨by rw [I.2.1]; show d - 1 + 1 ≤ d; omega, by rw [I.2.1]; show 8 + (_ + 11) + 36 * (d - 1) ≤ 36 * d; omega⟩ (show 0 ≤ 8 by decide) ⟨by rw [I.2.1]; show 0 + 2 ≤ 3; decide, by rw [I.2.1]; show 0 + 12 ≤ 18; decide⟩ (fun q => q.elim) (fun E u q => by obtain ⟨V9, rfl, q⟩ := q; exact abx_out O I (by decide) (by decide) ⟨V9, rfl, q⟩) (fun u hu => ?_)
  obtain ⟨V1, rfl, h⟩ := hu
  refine ab_aload_n O 0 dX8_pathSumByWalk_6 rfl rfl ?_
  refine ab_iload_n O 2 dX8_pathSumByWalk_7 rfl rfl ?_
  refine ab_iload_n O 1 dX8_pathSumByWalk_8 rfl rfl ?_
  refine ab_callvV O I.2.2.2.2.2.2 (fr := False) (st := []) lk_X8_147 rfl (at_0 _ _ _) dX8_pathSumByWalk_9 (c_X8_plantHolding (d - 1) (by omega) _ O.2.2.2.2.2.2.1 _ _ _ _ _ h) rfl rfl ⟨by rw [I.2.1]; show d - 1 + 1 ≤ d; omega, by rw [I.2.1]; show 8 + (_ + 11) + 36 * (d - 1) ≤ 36 * d; omega⟩ (show 0 ≤ 8 by decide) ⟨by rw [I.2.1]; show 2 + 1 ≤ 3; decide, by rw [I.2.1]; show 12 + 6 ≤ 18; decide⟩ (fun q => q.elim) (fun E u q => by obtain ⟨V9, rfl, q⟩ := q; exact abx_out O I (by decide) (by decide) ⟨V9, rfl, q⟩) (fun u hu => ?_)
  obtain ⟨V2, rfl, h⟩ := hu
  refine ab_aload_n O 0 dX8_pathSumByWalk_12 rfl rfl ?_
  refine ab_get O fl_X8_30 dX8_pathSumByWalk_13 (at_0 _ _ _) rfl ?_
  refine ab_iload_n O 1 dX8_pathSumByWalk_16 rfl rfl ?_
  refine ab_callvI O I.2.2.2.2.2.2 (fr := False) (st := []) lk_X8_232 rfl (at_29 _ _ _) dX8_pathSumByWalk_17 (c_X7_sumByClimbing (d - 1) (by omega) _ O.2.2.2.2.2.2.1 _ _ _ _ h) rfl rfl ⟨by rw [I.2.1]; show d - 1 + 1 ≤ d; omega, by rw [I.2.1]; show 8 + (_ + 11) + 36 * (d - 1) ≤ 36 * d; omega⟩ (show 0 ≤ 8 by decide) ⟨by rw [I.2.1]; show 3 + 0 ≤ 3; decide, by rw [I.2.1]; show 18 + 0 ≤ 18; decide⟩ (fun q => q.elim) (fun E u q => q.elim) (fun r4 u hu => ?_)
  obtain ⟨V3, rfl, h⟩ := hu
  exact ab_ireturn O I dX8_pathSumByWalk_20 (by decide) (by decide) (by rfl) ⟨_, rfl, h⟩

def wp_X8_pathVertex (V : Mm) (a0 a1 a2 : Int32) (post : Int32 → Mm → Prop) (px : String → Mm → Prop) : Prop := (wp_X8_requireVertices V (a0) (a1) (fun (V1 : Mm) => (wp_X8_plantHolding V1 (a1) (a0) (fun (V2 : Mm) => (wp_X7_depthOf V2 (a0) (fun (r4 : Int32) (V3 : Mm) => (wp_X8_isBetween V3 (a2) (0) (r4) (fun (r6 : Int32) (V5 : Mm) => ((r6 = 0 → px "java/lang/IllegalArgumentException" V5) ∧ (¬ r6 = 0 → (wp_X7_climb V5 (a0) (a2) (fun (r9 : Int32) (V8 : Mm) => post r9 V8))))))))) px)) px)
set_option maxHeartbeats 4000000 in
theorem c_X8_pathVertex (d : Nat) (hd : 8 ≤ d) (l : Launch) (hl : l.stackTraces = false) (g : ab_G) (o : Nat → Int64) (D : Nat → UInt64) (a0 : Int32) (a1 : Int32) (a2 : Int32) {V : Mm} {px : String → Mm → Prop} {post : Int32 → Mm → Prop} (h : wp_X8_pathVertex V a0 a1 a2 post px) : Ct l g tk_strs False d 4 24 yX8_pathVertex cX8_pathVertex 4 (some .int) [.ref 0, .int a0, .int a1, .int a2] (SW V o D) (tk_I g (fun r u => ∃ V : Mm, u = SW V o D ∧ post r V)) (fun E u => ∃ V : Mm, u = SW V o D ∧ px E V) := by
  refine ct_in (by decide +kernel) (show 4 ≤ 4 by decide) (by simp [Value.category]) hl (fun X I O _ => ?_)
  show Ab X g 0 0 _ 0 [some (.ref (0)), some (.int (a0)), some (.int (a1)), some (.int (a2))] [] _
  refine ab_aload_n O 0 dX8_pathVertex_0 rfl rfl ?_
  refine ab_iload_n O 1 dX8_pathVertex_1 rfl rfl ?_
  refine ab_iload_n O 2 dX8_pathVertex_2 rfl rfl ?_
  refine ab_callvV O I.2.2.2.2.2.2 (fr := False) (st := []) lk_X8_102 rfl (at_0 _ _ _) dX8_pathVertex_3 (c_X8_requireVertices (d - 1) (by omega) _ O.2.2.2.2.2.2.1 _ _ _ _ _ h) rfl rfl ⟨by rw [I.2.1]; show d - 1 + 1 ≤ d; omega, by rw [I.2.1]; show 8 + (_ + 11) + 36 * (d - 1) ≤ 36 * d; omega⟩ (show 0 ≤ 8 by decide) ⟨by rw [I.2.1]; show 0 + 2 ≤ 4; decide, by rw [I.2.1]; show 0 + 12 ≤ 24; decide⟩ (fun q => q.elim) (fun E u q => by obtain ⟨V9, rfl, q⟩ := q; exact abx_out O I (by decide) (by decide) ⟨V9, rfl, q⟩) (fun u hu => ?_)
  obtain ⟨V1, rfl, h⟩ := hu
  refine ab_aload_n O 0 dX8_pathVertex_6 rfl rfl ?_
  refine ab_iload_n O 2 dX8_pathVertex_7 rfl rfl ?_
  refine ab_iload_n O 1 dX8_pathVertex_8 rfl rfl ?_
  refine ab_callvV O I.2.2.2.2.2.2 (fr := False) (st := []) lk_X8_147 rfl (at_0 _ _ _) dX8_pathVertex_9 (c_X8_plantHolding (d - 1) (by omega) _ O.2.2.2.2.2.2.1 _ _ _ _ _ h) rfl rfl ⟨by rw [I.2.1]; show d - 1 + 1 ≤ d; omega, by rw [I.2.1]; show 8 + (_ + 11) + 36 * (d - 1) ≤ 36 * d; omega⟩ (show 0 ≤ 8 by decide) ⟨by rw [I.2.1]; show 2 + 1 ≤ 4; decide, by rw [I.2.1]; show 12 + 6 ≤ 24; decide⟩ (fun q => q.elim) (fun E u q => by obtain ⟨V9, rfl, q⟩ := q; exact abx_out O I (by decide) (by decide) ⟨V9, rfl, q⟩) (fun u hu => ?_)
  obtain ⟨V2, rfl, h⟩ := hu
  refine ab_iload_n O 3 dX8_pathVertex_12 rfl rfl ?_
  refine ab_iconst O 0 dX8_pathVertex_13 rfl ?_
  refine ab_aload_n O 0 dX8_pathVertex_14 rfl rfl ?_
  refine ab_get O fl_X8_30 dX8_pathVertex_15 (at_0 _ _ _) rfl ?_
  refine ab_iload_n O 1 dX8_pathVertex_18 rfl rfl ?_
  refine ab_callvI O I.2.2.2.2.2.2 (fr := False) (st := [.int (0), .int (a2)]) lk_X8_153 rfl (at_29 _ _ _) dX8_pathVertex_19 (c_X7_depthOf (d - 1) (by omega) _ O.2.2.2.2.2.2.1 _ _ _ _ h) rfl rfl ⟨by rw [I.2.1]; show d - 1 + 1 ≤ d; omega, by rw [I.2.1]; show 8 + (_ + 11) + 36 * (d - 1) ≤ 36 * d; omega⟩ (show 2 ≤ 8 by decide) ⟨by rw [I.2.1]; show 3 + 0 ≤ 4; decide, by rw [I.2.1]; show 18 + 0 ≤ 24; decide⟩ (fun q => q.elim) (fun E u q => q.elim) (fun r4 u hu => ?_)
  obtain ⟨V3, rfl, h⟩ := hu
  refine ab_callsI O I.2.2.2.2.2.2 (fr := False) (st := []) lk_X8_138 dX8_pathVertex_22 (c_X8_isBetween (d - 1) (by omega) _ O.2.2.2.2.2.2.1 _ _ _ _ _ _ h) rfl rfl ⟨by rw [I.2.1]; show d - 1 + 1 ≤ d; omega, by rw [I.2.1]; show 8 + (_ + 11) + 36 * (d - 1) ≤ 36 * d; omega⟩ (show 0 ≤ 8 by decide) ⟨by rw [I.2.1]; show 3 + 0 ≤ 4; decide, by rw [I.2.1]; show 18 + 0 ≤ 24; decide⟩ (fun q => q.elim) (fun E u q => q.elim) (fun r6 u hu => ?_)
  obtain ⟨V5, rfl, h⟩ := hu
  refine ab_if_ne O 38 dX8_pathVertex_25 rfl (fun q7 => ?_) (fun q7 => ?_)
  · have h := h.2 q7
    refine ab_aload_n O 0 dX8_pathVertex_38 rfl rfl ?_
    refine ab_get O fl_X8_30 dX8_pathVertex_39 (at_0 _ _ _) rfl ?_
    refine ab_iload_n O 1 dX8_pathVertex_42 rfl rfl ?_
    refine ab_iload_n O 3 dX8_pathVertex_43 rfl rfl ?_
    refine ab_callvI O I.2.2.2.2.2.2 (fr := False) (st := []) lk_X8_221 rfl (at_29 _ _ _) dX8_pathVertex_44 (c_X7_climb (d - 1) (by omega) _ O.2.2.2.2.2.2.1 _ _ _ _ _ h) rfl rfl ⟨by rw [I.2.1]; show d - 1 + 1 ≤ d; omega, by rw [I.2.1]; show 8 + (_ + 11) + 36 * (d - 1) ≤ 36 * d; omega⟩ (show 0 ≤ 8 by decide) ⟨by rw [I.2.1]; show 3 + 0 ≤ 4; decide, by rw [I.2.1]; show 18 + 0 ≤ 24; decide⟩ (fun q => q.elim) (fun E u q => q.elim) (fun r9 u hu => ?_)
    obtain ⟨V8, rfl, h⟩ := hu
    exact ab_ireturn O I dX8_pathVertex_47 (by decide) (by decide) (by rfl) ⟨_, rfl, h⟩
  · have h := h.1 q7
    exact ab_throw O I th_X8_142 (show (RX8, 219, "there is no such vertex on the path") ∈ tk_strs by decide +kernel) dX8_pathVertex_28 dX8_pathVertex_31 dX8_pathVertex_32 dX8_pathVertex_34 dX8_pathVertex_37 (show 5 < d by omega) (show 0 + 82 ≤ 36 * d by omega) (show 3 + 1 ≤ 4 by decide) (show 18 + 6 ≤ 24 by decide) ⟨_, rfl, h⟩

def wp_X8_pathVertices (V : Mm) (a0 a1 : Int32) (post : Int32 → Mm → Prop) (px : String → Mm → Prop) : Prop := (wp_X8_requireVertices V (a0) (a1) (fun (V1 : Mm) => (wp_X8_plantHolding V1 (a0) (a1) (fun (V2 : Mm) => (wp_X7_depthOf V2 (a1) (fun (r4 : Int32) (V3 : Mm) => post (r4 + 1) V3))) px)) px)
set_option maxHeartbeats 4000000 in
theorem c_X8_pathVertices (d : Nat) (hd : 8 ≤ d) (l : Launch) (hl : l.stackTraces = false) (g : ab_G) (o : Nat → Int64) (D : Nat → UInt64) (a0 : Int32) (a1 : Int32) {V : Mm} {px : String → Mm → Prop} {post : Int32 → Mm → Prop} (h : wp_X8_pathVertices V a0 a1 post px) : Ct l g tk_strs False d 3 18 yX8_pathVertices cX8_pathVertices 3 (some .int) [.ref 0, .int a0, .int a1] (SW V o D) (tk_I g (fun r u => ∃ V : Mm, u = SW V o D ∧ post r V)) (fun E u => ∃ V : Mm, u = SW V o D ∧ px E V) := by
  refine ct_in (by decide +kernel) (show 3 ≤ 3 by decide) (by simp [Value.category]) hl (fun X I O _ => ?_)
  show Ab X g 0 0 _ 0 [some (.ref (0)), some (.int (a0)), some (.int (a1))] [] _
  refine ab_aload_n O 0 dX8_pathVertices_0 rfl rfl ?_
  refine ab_iload_n O 1 dX8_pathVertices_1 rfl rfl ?_
  refine ab_iload_n O 2 dX8_pathVertices_2 rfl rfl ?_
  refine ab_callvV O I.2.2.2.2.2.2 (fr := False) (st := []) lk_X8_102 rfl (at_0 _ _ _) dX8_pathVertices_3 (c_X8_requireVertices (d - 1) (by omega) _ O.2.2.2.2.2.2.1 _ _ _ _ _ h) rfl rfl ⟨by rw [I.2.1]; show d - 1 + 1 ≤ d; omega, by rw [I.2.1]; show 8 + (_ + 11) + 36 * (d - 1) ≤ 36 * d; omega⟩ (show 0 ≤ 8 by decide) ⟨by rw [I.2.1]; show 0 + 2 ≤ 3; decide, by rw [I.2.1]; show 0 + 12 ≤ 18; decide⟩ (fun q => q.elim) (fun E u q => by obtain ⟨V9, rfl, q⟩ := q; exact abx_out O I (by decide) (by decide) ⟨V9, rfl, q⟩) (fun u hu => ?_)
  obtain ⟨V1, rfl, h⟩ := hu
  refine ab_aload_n O 0 dX8_pathVertices_6 rfl rfl ?_
  refine ab_iload_n O 1 dX8_pathVertices_7 rfl rfl ?_
  refine ab_iload_n O 2 dX8_pathVertices_8 rfl rfl ?_
  refine ab_callvV O I.2.2.2.2.2.2 (fr := False) (st := []) lk_X8_147 rfl (at_0 _ _ _) dX8_pathVertices_9 (c_X8_plantHolding (d - 1) (by omega) _ O.2.2.2.2.2.2.1 _ _ _ _ _ h) rfl rfl ⟨by rw [I.2.1]; show d - 1 + 1 ≤ d; omega, by rw [I.2.1]; show 8 + (_ + 11) + 36 * (d - 1) ≤ 36 * d; omega⟩ (show 0 ≤ 8 by decide) ⟨by rw [I.2.1]; show 2 + 1 ≤ 3; decide, by rw [I.2.1]; show 12 + 6 ≤ 18; decide⟩ (fun q => q.elim) (fun E u q => by obtain ⟨V9, rfl, q⟩ := q; exact abx_out O I (by decide) (by decide) ⟨V9, rfl, q⟩) (fun u hu => ?_)
  obtain ⟨V2, rfl, h⟩ := hu
  refine ab_aload_n O 0 dX8_pathVertices_12 rfl rfl ?_
  refine ab_get O fl_X8_30 dX8_pathVertices_13 (at_0 _ _ _) rfl ?_
  refine ab_iload_n O 2 dX8_pathVertices_16 rfl rfl ?_
  refine ab_callvI O I.2.2.2.2.2.2 (fr := False) (st := []) lk_X8_153 rfl (at_29 _ _ _) dX8_pathVertices_17 (c_X7_depthOf (d - 1) (by omega) _ O.2.2.2.2.2.2.1 _ _ _ _ h) rfl rfl ⟨by rw [I.2.1]; show d - 1 + 1 ≤ d; omega, by rw [I.2.1]; show 8 + (_ + 11) + 36 * (d - 1) ≤ 36 * d; omega⟩ (show 0 ≤ 8 by decide) ⟨by rw [I.2.1]; show 3 + 0 ≤ 3; decide, by rw [I.2.1]; show 18 + 0 ≤ 18; decide⟩ (fun q => q.elim) (fun E u q => q.elim) (fun r4 u hu => ?_)
  obtain ⟨V3, rfl, h⟩ := hu
  refine ab_iconst O 1 dX8_pathVertices_20 rfl ?_
  refine ab_iadd O dX8_pathVertices_21 ?_
  exact ab_ireturn O I dX8_pathVertices_22 (by decide) (by decide) (by rfl) ⟨_, rfl, h⟩

def wp_X8_requirePresent (V : Mm) (a0 : Int32) (post : Mm → Prop) (px : String → Mm → Prop) : Prop := (wp_X3_isPresent V (a0) (fun (r2 : Int32) (V1 : Mm) => ((r2 = 0 → px "java/lang/IllegalStateException" V1) ∧ (¬ r2 = 0 → post V1))))
set_option maxHeartbeats 4000000 in
theorem c_X8_requirePresent (d : Nat) (hd : 6 ≤ d) (l : Launch) (hl : l.stackTraces = false) (g : ab_G) (o : Nat → Int64) (D : Nat → UInt64) (a0 : Int32) {V : Mm} {px : String → Mm → Prop} {post : Mm → Prop} (h : wp_X8_requirePresent V a0 post px) : Ct l g tk_strs False d 1 6 yX8_requirePresent cX8_requirePresent 2 none [.ref 0, .int a0] (SW V o D) (tk_V g (fun u => ∃ V : Mm, u = SW V o D ∧ post V)) (fun E u => ∃ V : Mm, u = SW V o D ∧ px E V) := by
  refine ct_in (by decide +kernel) (show 2 ≤ 2 by decide) (by simp [Value.category]) hl (fun X I O _ => ?_)
  show Ab X g 0 0 _ 0 [some (.ref (0)), some (.int (a0))] [] _
  refine ab_aload_n O 0 dX8_requirePresent_0 rfl rfl ?_
  refine ab_get O fl_X8_10 dX8_requirePresent_1 (at_0 _ _ _) rfl ?_
  refine ab_iload_n O 1 dX8_requirePresent_4 rfl rfl ?_
  refine ab_callvI O I.2.2.2.2.2.2 (fr := False) (st := []) lk_X8_156 rfl (at_1 _ _ _) dX8_requirePresent_5 (c_X3_isPresent (d - 1) (by omega) _ O.2.2.2.2.2.2.1 _ _ _ _ h) rfl rfl ⟨by rw [I.2.1]; show d - 1 + 1 ≤ d; omega, by rw [I.2.1]; show 8 + (_ + 11) + 36 * (d - 1) ≤ 36 * d; omega⟩ (show 0 ≤ 8 by decide) ⟨by rw [I.2.1]; show 0 + 0 ≤ 1; decide, by rw [I.2.1]; show 0 + 0 ≤ 6; decide⟩ (fun q => q.elim) (fun E u q => q.elim) (fun r2 u hu => ?_)
  obtain ⟨V1, rfl, h⟩ := hu
  refine ab_if_ne O 22 dX8_requirePresent_8 rfl (fun q3 => ?_) (fun q3 => ?_)
  · have h := h.2 q3
    exact ab_return O I dX8_requirePresent_22 (by decide) (by decide) ⟨_, rfl, h⟩
  · have h := h.1 q3
    exact ab_throwW O I th_X8_81 (show (RX8, 317, "the edge was removed") ∈ tk_strs by decide +kernel) dX8_requirePresent_11 dX8_requirePresent_14 dX8_requirePresent_15 dX8_requirePresent_18 dX8_requirePresent_21 (show 5 < d by omega) (show 0 + 82 ≤ 36 * d by omega) (show 0 + 1 ≤ 1 by decide) (show 0 + 6 ≤ 6 by decide) ⟨_, rfl, h⟩

def wp_X8_removeEdge (V : Mm) (a0 : Int32) (post : Int32 → Mm → Prop) (px : String → Mm → Prop) : Prop := (wp_X8_requireEdge V (a0) (fun (V1 : Mm) => (wp_X8_requirePresent V1 (a0) (fun (V2 : Mm) => (wp_X2_release V2 (a0) (fun (r4 : Int32) (V3 : Mm) => post r4 V3))) px)) px)
set_option maxHeartbeats 4000000 in
theorem c_X8_removeEdge (d : Nat) (hd : 7 ≤ d) (l : Launch) (hl : l.stackTraces = false) (g : ab_G) (o : Nat → Int64) (D : Nat → UInt64) (a0 : Int32) {V : Mm} {px : String → Mm → Prop} {post : Int32 → Mm → Prop} (h : wp_X8_removeEdge V a0 post px) : Ct l g tk_strs False d 2 12 yX8_removeEdge cX8_removeEdge 2 (some .int) [.ref 0, .int a0] (SW V o D) (tk_I g (fun r u => ∃ V : Mm, u = SW V o D ∧ post r V)) (fun E u => ∃ V : Mm, u = SW V o D ∧ px E V) := by
  refine ct_in (by decide +kernel) (show 2 ≤ 2 by decide) (by simp [Value.category]) hl (fun X I O _ => ?_)
  show Ab X g 0 0 _ 0 [some (.ref (0)), some (.int (a0))] [] _
  refine ab_aload_n O 0 dX8_removeEdge_0 rfl rfl ?_
  refine ab_iload_n O 1 dX8_removeEdge_1 rfl rfl ?_
  refine ab_callvV O I.2.2.2.2.2.2 (fr := False) (st := []) lk_X8_123 rfl (at_0 _ _ _) dX8_removeEdge_2 (c_X8_requireEdge (d - 1) (by omega) _ O.2.2.2.2.2.2.1 _ _ _ _ h) rfl rfl ⟨by rw [I.2.1]; show d - 1 + 1 ≤ d; omega, by rw [I.2.1]; show 8 + (_ + 11) + 36 * (d - 1) ≤ 36 * d; omega⟩ (show 0 ≤ 8 by decide) ⟨by rw [I.2.1]; show 0 + 1 ≤ 2; decide, by rw [I.2.1]; show 0 + 6 ≤ 12; decide⟩ (fun q => q.elim) (fun E u q => by obtain ⟨V9, rfl, q⟩ := q; exact abx_out O I (by decide) (by decide) ⟨V9, rfl, q⟩) (fun u hu => ?_)
  obtain ⟨V1, rfl, h⟩ := hu
  refine ab_aload_n O 0 dX8_removeEdge_5 rfl rfl ?_
  refine ab_iload_n O 1 dX8_removeEdge_6 rfl rfl ?_
  refine ab_callvV O I.2.2.2.2.2.2 (fr := False) (st := []) lk_X8_126 rfl (at_0 _ _ _) dX8_removeEdge_7 (c_X8_requirePresent (d - 1) (by omega) _ O.2.2.2.2.2.2.1 _ _ _ _ h) rfl rfl ⟨by rw [I.2.1]; show d - 1 + 1 ≤ d; omega, by rw [I.2.1]; show 8 + (_ + 11) + 36 * (d - 1) ≤ 36 * d; omega⟩ (show 0 ≤ 8 by decide) ⟨by rw [I.2.1]; show 1 + 1 ≤ 2; decide, by rw [I.2.1]; show 6 + 6 ≤ 12; decide⟩ (fun q => q.elim) (fun E u q => by obtain ⟨V9, rfl, q⟩ := q; exact abx_out O I (by decide) (by decide) ⟨V9, rfl, q⟩) (fun u hu => ?_)
  obtain ⟨V2, rfl, h⟩ := hu
  refine ab_aload_n O 0 dX8_removeEdge_10 rfl rfl ?_
  refine ab_get O fl_X8_39 dX8_removeEdge_11 (at_0 _ _ _) rfl ?_
  refine ab_iload_n O 1 dX8_removeEdge_14 rfl rfl ?_
  refine ab_callvI O I.2.2.2.2.2.2 (fr := False) (st := []) lk_X8_129 rfl (at_35 _ _ _) dX8_removeEdge_15 (c_X2_release (d - 1) (by omega) _ O.2.2.2.2.2.2.1 _ _ _ _ h) rfl rfl ⟨by rw [I.2.1]; show d - 1 + 1 ≤ d; omega, by rw [I.2.1]; show 8 + (_ + 11) + 36 * (d - 1) ≤ 36 * d; omega⟩ (show 0 ≤ 8 by decide) ⟨by rw [I.2.1]; show 2 + 0 ≤ 2; decide, by rw [I.2.1]; show 12 + 0 ≤ 12; decide⟩ (fun q => q.elim) (fun E u q => q.elim) (fun r4 u hu => ?_)
  obtain ⟨V3, rfl, h⟩ := hu
  exact ab_ireturn O I dX8_removeEdge_18 (by decide) (by decide) (by rfl) ⟨_, rfl, h⟩

def wp_X8_requireInForest (V : Mm) (a0 : Int32) (post : Mm → Prop) (px : String → Mm → Prop) : Prop := (wp_X0_holds V (a0) (fun (r2 : Int32) (V1 : Mm) => ((r2 = 0 → px "java/lang/IllegalStateException" V1) ∧ (¬ r2 = 0 → post V1))))
set_option maxHeartbeats 4000000 in
theorem c_X8_requireInForest (d : Nat) (hd : 6 ≤ d) (l : Launch) (hl : l.stackTraces = false) (g : ab_G) (o : Nat → Int64) (D : Nat → UInt64) (a0 : Int32) {V : Mm} {px : String → Mm → Prop} {post : Mm → Prop} (h : wp_X8_requireInForest V a0 post px) : Ct l g tk_strs False d 1 6 yX8_requireInForest cX8_requireInForest 2 none [.ref 0, .int a0] (SW V o D) (tk_V g (fun u => ∃ V : Mm, u = SW V o D ∧ post V)) (fun E u => ∃ V : Mm, u = SW V o D ∧ px E V) := by
  refine ct_in (by decide +kernel) (show 2 ≤ 2 by decide) (by simp [Value.category]) hl (fun X I O _ => ?_)
  show Ab X g 0 0 _ 0 [some (.ref (0)), some (.int (a0))] [] _
  refine ab_aload_n O 0 dX8_requireInForest_0 rfl rfl ?_
  refine ab_get O fl_X8_21 dX8_requireInForest_1 (at_0 _ _ _) rfl ?_
  refine ab_iload_n O 1 dX8_requireInForest_4 rfl rfl ?_
  refine ab_callvI O I.2.2.2.2.2.2 (fr := False) (st := []) lk_X8_160 rfl (at_7 _ _ _) dX8_requireInForest_5 (c_X0_holds (d - 1) (by omega) _ O.2.2.2.2.2.2.1 _ _ _ _ h) rfl rfl ⟨by rw [I.2.1]; show d - 1 + 1 ≤ d; omega, by rw [I.2.1]; show 8 + (_ + 11) + 36 * (d - 1) ≤ 36 * d; omega⟩ (show 0 ≤ 8 by decide) ⟨by rw [I.2.1]; show 0 + 0 ≤ 1; decide, by rw [I.2.1]; show 0 + 0 ≤ 6; decide⟩ (fun q => q.elim) (fun E u q => q.elim) (fun r2 u hu => ?_)
  obtain ⟨V1, rfl, h⟩ := hu
  refine ab_if_ne O 22 dX8_requireInForest_8 rfl (fun q3 => ?_) (fun q3 => ?_)
  · have h := h.2 q3
    exact ab_return O I dX8_requireInForest_22 (by decide) (by decide) ⟨_, rfl, h⟩
  · have h := h.1 q3
    exact ab_throwW O I th_X8_81 (show (RX8, 319, "the edge does not belong to the forest") ∈ tk_strs by decide +kernel) dX8_requireInForest_11 dX8_requireInForest_14 dX8_requireInForest_15 dX8_requireInForest_18 dX8_requireInForest_21 (show 5 < d by omega) (show 0 + 82 ≤ 36 * d by omega) (show 0 + 1 ≤ 1 by decide) (show 0 + 6 ≤ 6 by decide) ⟨_, rfl, h⟩

def wp_X8_requireReplacement (V : Mm) (a0 : Int32) (post : Int32 → Mm → Prop) (px : String → Mm → Prop) : Prop := ((a0 = (-1) → px "java/util/NoSuchElementException" V) ∧ (¬ a0 = (-1) → post a0 V))
set_option maxHeartbeats 4000000 in
theorem c_X8_requireReplacement (d : Nat) (hd : 6 ≤ d) (l : Launch) (hl : l.stackTraces = false) (g : ab_G) (o : Nat → Int64) (D : Nat → UInt64) (a0 : Int32) {V : Mm} {px : String → Mm → Prop} {post : Int32 → Mm → Prop} (h : wp_X8_requireReplacement V a0 post px) : Ct l g tk_strs False d 1 6 yX8_requireReplacement cX8_requireReplacement 1 (some .int) [.int a0] (SW V o D) (tk_I g (fun r u => ∃ V : Mm, u = SW V o D ∧ post r V)) (fun E u => ∃ V : Mm, u = SW V o D ∧ px E V) := by
  refine ct_in (by decide +kernel) (show 1 ≤ 1 by decide) (by simp [Value.category]) hl (fun X I O _ => ?_)
  show Ab X g 0 0 _ 0 [some (.int (a0))] [] _
  refine ab_iload_n O 0 dX8_requireReplacement_0 rfl rfl ?_
  refine ab_iconst O (-1) dX8_requireReplacement_1 rfl ?_
  refine ab_icmp_ne O 16 dX8_requireReplacement_2 rfl (fun q1 => ?_) (fun q1 => ?_)
  · have h := h.2 q1
    refine ab_iload_n O 0 dX8_requireReplacement_16 rfl rfl ?_
    exact ab_ireturn O I dX8_requireReplacement_17 (by decide) (by decide) (by rfl) ⟨_, rfl, h⟩
  · have h := h.1 q1
    exact ab_throwWN O I th_X8_167 (show (RX8, 321, "no edge would replace this one") ∈ tk_strs by decide +kernel) dX8_requireReplacement_5 dX8_requireReplacement_8 dX8_requireReplacement_9 dX8_requireReplacement_12 dX8_requireReplacement_15 (show 5 < d by omega) (show 0 + 82 ≤ 36 * d by omega) (show 0 + 1 ≤ 1 by decide) (show 0 + 6 ≤ 6 by decide) ⟨_, rfl, h⟩

def wp_X8_replacement (V : Mm) (a0 : Int32) (post : Int32 → Mm → Prop) (px : String → Mm → Prop) : Prop := (wp_X8_requireEdge V (a0) (fun (V1 : Mm) => (wp_X8_requireInForest V1 (a0) (fun (V2 : Mm) => (wp_X2_findReplacement V2 (a0) (fun (r4 : Int32) (V3 : Mm) => (wp_X8_requireReplacement V3 (r4) (fun (r6 : Int32) (V5 : Mm) => post r6 V5) px)))) px)) px)
set_option maxHeartbeats 4000000 in
theorem c_X8_replacement (d : Nat) (hd : 7 ≤ d) (l : Launch) (hl : l.stackTraces = false) (g : ab_G) (o : Nat → Int64) (D : Nat → UInt64) (a0 : Int32) {V : Mm} {px : String → Mm → Prop} {post : Int32 → Mm → Prop} (h : wp_X8_replacement V a0 post px) : Ct l g tk_strs False d 3 18 yX8_replacement cX8_replacement 2 (some .int) [.ref 0, .int a0] (SW V o D) (tk_I g (fun r u => ∃ V : Mm, u = SW V o D ∧ post r V)) (fun E u => ∃ V : Mm, u = SW V o D ∧ px E V) := by
  refine ct_in (by decide +kernel) (show 2 ≤ 2 by decide) (by simp [Value.category]) hl (fun X I O _ => ?_)
  show Ab X g 0 0 _ 0 [some (.ref (0)), some (.int (a0))] [] _
  refine ab_aload_n O 0 dX8_replacement_0 rfl rfl ?_
  refine ab_iload_n O 1 dX8_replacement_1 rfl rfl ?_
  refine ab_callvV O I.2.2.2.2.2.2 (fr := False) (st := []) lk_X8_123 rfl (at_0 _ _ _) dX8_replacement_2 (c_X8_requireEdge (d - 1) (by omega) _ O.2.2.2.2.2.2.1 _ _ _ _ h) rfl rfl ⟨by rw [I.2.1]; show d - 1 + 1 ≤ d; omega, by rw [I.2.1]; show 8 + (_ + 11) + 36 * (d - 1) ≤ 36 * d; omega⟩ (show 0 ≤ 8 by decide) ⟨by rw [I.2.1]; show 0 + 1 ≤ 3; decide, by rw [I.2.1]; show 0 + 6 ≤ 18; decide⟩ (fun q => q.elim) (fun E u q => by obtain ⟨V9, rfl, q⟩ := q; exact abx_out O I (by decide) (by decide) ⟨V9, rfl, q⟩) (fun u hu => ?_)
  obtain ⟨V1, rfl, h⟩ := hu
  refine ab_aload_n O 0 dX8_replacement_5 rfl rfl ?_
  refine ab_iload_n O 1 dX8_replacement_6 rfl rfl ?_
  refine ab_callvV O I.2.2.2.2.2.2 (fr := False) (st := []) lk_X8_206 rfl (at_0 _ _ _) dX8_replacement_7 (c_X8_requireInForest (d - 1) (by omega) _ O.2.2.2.2.2.2.1 _ _ _ _ h) rfl rfl ⟨by rw [I.2.1]; show d - 1 + 1 ≤ d; omega, by rw [I.2.1]; show 8 + (_ + 11) + 36 * (d - 1) ≤ 36 * d; omega⟩ (show 0 ≤ 8 by decide) ⟨by rw [I.2.1]; show 1 + 1 ≤ 3; decide, by rw [I.2.1]; show 6 + 6 ≤ 18; decide⟩ (fun q => q.elim) (fun E u q => by obtain ⟨V9, rfl, q⟩ := q; exact abx_out O I (by decide) (by decide) ⟨V9, rfl, q⟩) (fun u hu => ?_)
  obtain ⟨V2, rfl, h⟩ := hu
  refine ab_aload_n O 0 dX8_replacement_10 rfl rfl ?_
  refine ab_get O fl_X8_39 dX8_replacement_11 (at_0 _ _ _) rfl ?_
  refine ab_iload_n O 1 dX8_replacement_14 rfl rfl ?_
  refine ab_callvI O I.2.2.2.2.2.2 (fr := False) (st := []) lk_X8_209 rfl (at_35 _ _ _) dX8_replacement_15 (c_X2_findReplacement (d - 1) (by omega) _ O.2.2.2.2.2.2.1 _ _ _ _ h) rfl rfl ⟨by rw [I.2.1]; show d - 1 + 1 ≤ d; omega, by rw [I.2.1]; show 8 + (_ + 11) + 36 * (d - 1) ≤ 36 * d; omega⟩ (show 0 ≤ 8 by decide) ⟨by rw [I.2.1]; show 2 + 0 ≤ 3; decide, by rw [I.2.1]; show 12 + 0 ≤ 18; decide⟩ (fun q => q.elim) (fun E u q => q.elim) (fun r4 u hu => ?_)
  obtain ⟨V3, rfl, h⟩ := hu
  refine ab_callsI O I.2.2.2.2.2.2 (fr := False) (st := []) lk_X8_212 dX8_replacement_18 (c_X8_requireReplacement (d - 1) (by omega) _ O.2.2.2.2.2.2.1 _ _ _ _ h) rfl rfl ⟨by rw [I.2.1]; show d - 1 + 1 ≤ d; omega, by rw [I.2.1]; show 8 + (_ + 11) + 36 * (d - 1) ≤ 36 * d; omega⟩ (show 0 ≤ 8 by decide) ⟨by rw [I.2.1]; show 2 + 1 ≤ 3; decide, by rw [I.2.1]; show 12 + 6 ≤ 18; decide⟩ (fun q => q.elim) (fun E u q => by obtain ⟨V9, rfl, q⟩ := q; exact abx_out O I (by decide) (by decide) ⟨V9, rfl, q⟩) (fun r6 u hu => ?_)
  obtain ⟨V5, rfl, h⟩ := hu
  exact ab_ireturn O I dX8_replacement_21 (by decide) (by decide) (by rfl) ⟨_, rfl, h⟩

def wp_X8_replacementAnew (V : Mm) (a0 : Int32) (post : Int32 → Mm → Prop) (px : String → Mm → Prop) : Prop := (wp_X8_requireEdge V (a0) (fun (V1 : Mm) => (wp_X8_requireInForest V1 (a0) (fun (V2 : Mm) => (wp_X1_build V2 (a0) (fun (V3 : Mm) => (wp_X1_firstChosenOutside_7 V3 (fun (r5 : Int32) (V4 : Mm) => (wp_X8_requireReplacement V4 (r5) (fun (r7 : Int32) (V6 : Mm) => post r7 V6) px)))))) px)) px)
set_option maxHeartbeats 4000000 in
theorem c_X8_replacementAnew (d : Nat) (hd : 7 ≤ d) (l : Launch) (hl : l.stackTraces = false) (g : ab_G) (o : Nat → Int64) (D : Nat → UInt64) (a0 : Int32) {V : Mm} {px : String → Mm → Prop} {post : Int32 → Mm → Prop} (h : wp_X8_replacementAnew V a0 post px) : Ct l g tk_strs False d 3 18 yX8_replacementAnew cX8_replacementAnew 2 (some .int) [.ref 0, .int a0] (SW V o D) (tk_I g (fun r u => ∃ V : Mm, u = SW V o D ∧ post r V)) (fun E u => ∃ V : Mm, u = SW V o D ∧ px E V) := by
  refine ct_in (by decide +kernel) (show 2 ≤ 2 by decide) (by simp [Value.category]) hl (fun X I O _ => ?_)
  show Ab X g 0 0 _ 0 [some (.ref (0)), some (.int (a0))] [] _
  refine ab_aload_n O 0 dX8_replacementAnew_0 rfl rfl ?_
  refine ab_iload_n O 1 dX8_replacementAnew_1 rfl rfl ?_
  refine ab_callvV O I.2.2.2.2.2.2 (fr := False) (st := []) lk_X8_123 rfl (at_0 _ _ _) dX8_replacementAnew_2 (c_X8_requireEdge (d - 1) (by omega) _ O.2.2.2.2.2.2.1 _ _ _ _ h) rfl rfl ⟨by rw [I.2.1]; show d - 1 + 1 ≤ d; omega, by rw [I.2.1]; show 8 + (_ + 11) + 36 * (d - 1) ≤ 36 * d; omega⟩ (show 0 ≤ 8 by decide) ⟨by rw [I.2.1]; show 0 + 1 ≤ 3; decide, by rw [I.2.1]; show 0 + 6 ≤ 18; decide⟩ (fun q => q.elim) (fun E u q => by obtain ⟨V9, rfl, q⟩ := q; exact abx_out O I (by decide) (by decide) ⟨V9, rfl, q⟩) (fun u hu => ?_)
  obtain ⟨V1, rfl, h⟩ := hu
  refine ab_aload_n O 0 dX8_replacementAnew_5 rfl rfl ?_
  refine ab_iload_n O 1 dX8_replacementAnew_6 rfl rfl ?_
  refine ab_callvV O I.2.2.2.2.2.2 (fr := False) (st := []) lk_X8_206 rfl (at_0 _ _ _) dX8_replacementAnew_7 (c_X8_requireInForest (d - 1) (by omega) _ O.2.2.2.2.2.2.1 _ _ _ _ h) rfl rfl ⟨by rw [I.2.1]; show d - 1 + 1 ≤ d; omega, by rw [I.2.1]; show 8 + (_ + 11) + 36 * (d - 1) ≤ 36 * d; omega⟩ (show 0 ≤ 8 by decide) ⟨by rw [I.2.1]; show 1 + 1 ≤ 3; decide, by rw [I.2.1]; show 6 + 6 ≤ 18; decide⟩ (fun q => q.elim) (fun E u q => by obtain ⟨V9, rfl, q⟩ := q; exact abx_out O I (by decide) (by decide) ⟨V9, rfl, q⟩) (fun u hu => ?_)
  obtain ⟨V2, rfl, h⟩ := hu
  refine ab_aload_n O 0 dX8_replacementAnew_10 rfl rfl ?_
  refine ab_get O fl_X8_46 dX8_replacementAnew_11 (at_0 _ _ _) rfl ?_
  refine ab_iload_n O 1 dX8_replacementAnew_14 rfl rfl ?_
  refine ab_callvV O I.2.2.2.2.2.2 (fr := False) (st := []) lk_X8_183 rfl (at_36 _ _ _) dX8_replacementAnew_15 (c_X1_build (d - 1) (by omega) _ O.2.2.2.2.2.2.1 _ _ _ _ h) rfl rfl ⟨by rw [I.2.1]; show d - 1 + 1 ≤ d; omega, by rw [I.2.1]; show 8 + (_ + 11) + 36 * (d - 1) ≤ 36 * d; omega⟩ (show 0 ≤ 8 by decide) ⟨by rw [I.2.1]; show 2 + 0 ≤ 3; decide, by rw [I.2.1]; show 12 + 0 ≤ 18; decide⟩ (fun q => q.elim) (fun E u q => q.elim) (fun u hu => ?_)
  obtain ⟨V3, rfl, h⟩ := hu
  refine ab_aload_n O 0 dX8_replacementAnew_18 rfl rfl ?_
  refine ab_get O fl_X8_46 dX8_replacementAnew_19 (at_0 _ _ _) rfl ?_
  refine ab_aload_n O 0 dX8_replacementAnew_22 rfl rfl ?_
  refine ab_get O fl_X8_21 dX8_replacementAnew_23 (at_0 _ _ _) rfl ?_
  refine ab_callvI O I.2.2.2.2.2.2 (fr := False) (st := []) lk_X8_215 rfl (at_36 _ _ _) dX8_replacementAnew_26 (c_X1_firstChosenOutside_7 (d - 1) (by omega) _ O.2.2.2.2.2.2.1 _ _ _ h) rfl rfl ⟨by rw [I.2.1]; show d - 1 + 1 ≤ d; omega, by rw [I.2.1]; show 8 + (_ + 11) + 36 * (d - 1) ≤ 36 * d; omega⟩ (show 0 ≤ 8 by decide) ⟨by rw [I.2.1]; show 2 + 0 ≤ 3; decide, by rw [I.2.1]; show 12 + 0 ≤ 18; decide⟩ (fun q => q.elim) (fun E u q => q.elim) (fun r5 u hu => ?_)
  obtain ⟨V4, rfl, h⟩ := hu
  refine ab_callsI O I.2.2.2.2.2.2 (fr := False) (st := []) lk_X8_212 dX8_replacementAnew_29 (c_X8_requireReplacement (d - 1) (by omega) _ O.2.2.2.2.2.2.1 _ _ _ _ h) rfl rfl ⟨by rw [I.2.1]; show d - 1 + 1 ≤ d; omega, by rw [I.2.1]; show 8 + (_ + 11) + 36 * (d - 1) ≤ 36 * d; omega⟩ (show 0 ≤ 8 by decide) ⟨by rw [I.2.1]; show 2 + 1 ≤ 3; decide, by rw [I.2.1]; show 12 + 6 ≤ 18; decide⟩ (fun q => q.elim) (fun E u q => by obtain ⟨V9, rfl, q⟩ := q; exact abx_out O I (by decide) (by decide) ⟨V9, rfl, q⟩) (fun r7 u hu => ?_)
  obtain ⟨V6, rfl, h⟩ := hu
  exact ab_ireturn O I dX8_replacementAnew_32 (by decide) (by decide) (by rfl) ⟨_, rfl, h⟩

def wp_X8_setValue (V : Mm) (a0 a1 : Int32) (post : Int32 → Mm → Prop) (px : String → Mm → Prop) : Prop := (wp_X8_requireVertex V (a0) (fun (V1 : Mm) => (wp_X8_requireValue V1 (a1) (fun (V2 : Mm) => (wp_X3_valueOf V2 (a0) (fun (r4 : Int32) (V3 : Mm) => (wp_X3_putValue V3 (a0) (a1) (fun (V5 : Mm) => post r4 V5))))) px)) px)
set_option maxHeartbeats 4000000 in
theorem c_X8_setValue (d : Nat) (hd : 7 ≤ d) (l : Launch) (hl : l.stackTraces = false) (g : ab_G) (o : Nat → Int64) (D : Nat → UInt64) (a0 : Int32) (a1 : Int32) {V : Mm} {px : String → Mm → Prop} {post : Int32 → Mm → Prop} (h : wp_X8_setValue V a0 a1 post px) : Ct l g tk_strs False d 2 12 yX8_setValue cX8_setValue 4 (some .int) [.ref 0, .int a0, .int a1] (SW V o D) (tk_I g (fun r u => ∃ V : Mm, u = SW V o D ∧ post r V)) (fun E u => ∃ V : Mm, u = SW V o D ∧ px E V) := by
  refine ct_in (by decide +kernel) (show 3 ≤ 4 by decide) (by simp [Value.category]) hl (fun X I O _ => ?_)
  show Ab X g 0 0 _ 0 [some (.ref (0)), some (.int (a0)), some (.int (a1)), none] [] _
  refine ab_aload_n O 0 dX8_setValue_0 rfl rfl ?_
  refine ab_iload_n O 1 dX8_setValue_1 rfl rfl ?_
  refine ab_callvV O I.2.2.2.2.2.2 (fr := False) (st := []) lk_X8_92 rfl (at_0 _ _ _) dX8_setValue_2 (c_X8_requireVertex (d - 1) (by omega) _ O.2.2.2.2.2.2.1 _ _ _ _ h) rfl rfl ⟨by rw [I.2.1]; show d - 1 + 1 ≤ d; omega, by rw [I.2.1]; show 8 + (_ + 11) + 36 * (d - 1) ≤ 36 * d; omega⟩ (show 0 ≤ 8 by decide) ⟨by rw [I.2.1]; show 0 + 1 ≤ 2; decide, by rw [I.2.1]; show 0 + 6 ≤ 12; decide⟩ (fun q => q.elim) (fun E u q => by obtain ⟨V9, rfl, q⟩ := q; exact abx_out O I (by decide) (by decide) ⟨V9, rfl, q⟩) (fun u hu => ?_)
  obtain ⟨V1, rfl, h⟩ := hu
  refine ab_iload_n O 2 dX8_setValue_5 rfl rfl ?_
  refine ab_callsV O I.2.2.2.2.2.2 (fr := False) (st := []) lk_X8_73 dX8_setValue_6 (c_X8_requireValue (d - 1) (by omega) _ O.2.2.2.2.2.2.1 _ _ _ _ h) rfl rfl ⟨by rw [I.2.1]; show d - 1 + 1 ≤ d; omega, by rw [I.2.1]; show 8 + (_ + 11) + 36 * (d - 1) ≤ 36 * d; omega⟩ (show 0 ≤ 8 by decide) ⟨by rw [I.2.1]; show 1 + 1 ≤ 2; decide, by rw [I.2.1]; show 6 + 6 ≤ 12; decide⟩ (fun q => q.elim) (fun E u q => by obtain ⟨V9, rfl, q⟩ := q; exact abx_out O I (by decide) (by decide) ⟨V9, rfl, q⟩) (fun u hu => ?_)
  obtain ⟨V2, rfl, h⟩ := hu
  refine ab_aload_n O 0 dX8_setValue_9 rfl rfl ?_
  refine ab_get O fl_X8_10 dX8_setValue_10 (at_0 _ _ _) rfl ?_
  refine ab_iload_n O 1 dX8_setValue_13 rfl rfl ?_
  refine ab_callvI O I.2.2.2.2.2.2 (fr := False) (st := []) lk_X8_95 rfl (at_1 _ _ _) dX8_setValue_14 (c_X3_valueOf (d - 1) (by omega) _ O.2.2.2.2.2.2.1 _ _ _ _ h) rfl rfl ⟨by rw [I.2.1]; show d - 1 + 1 ≤ d; omega, by rw [I.2.1]; show 8 + (_ + 11) + 36 * (d - 1) ≤ 36 * d; omega⟩ (show 0 ≤ 8 by decide) ⟨by rw [I.2.1]; show 2 + 0 ≤ 2; decide, by rw [I.2.1]; show 12 + 0 ≤ 12; decide⟩ (fun q => q.elim) (fun E u q => q.elim) (fun r4 u hu => ?_)
  obtain ⟨V3, rfl, h⟩ := hu
  refine ab_istore_n O 3 dX8_setValue_17 rfl (show 3 < 4 by decide) ?_
  refine ab_aload_n O 0 dX8_setValue_18 rfl rfl ?_
  refine ab_get O fl_X8_10 dX8_setValue_19 (at_0 _ _ _) rfl ?_
  refine ab_iload_n O 1 dX8_setValue_22 rfl rfl ?_
  refine ab_iload_n O 2 dX8_setValue_23 rfl rfl ?_
  refine ab_callvV O I.2.2.2.2.2.2 (fr := False) (st := []) lk_X8_98 rfl (at_1 _ _ _) dX8_setValue_24 (c_X3_putValue (d - 1) (by omega) _ O.2.2.2.2.2.2.1 _ _ _ _ _ h) rfl rfl ⟨by rw [I.2.1]; show d - 1 + 1 ≤ d; omega, by rw [I.2.1]; show 8 + (_ + 11) + 36 * (d - 1) ≤ 36 * d; omega⟩ (show 0 ≤ 8 by decide) ⟨by rw [I.2.1]; show 2 + 0 ≤ 2; decide, by rw [I.2.1]; show 12 + 0 ≤ 12; decide⟩ (fun q => q.elim) (fun E u q => q.elim) (fun u hu => ?_)
  obtain ⟨V5, rfl, h⟩ := hu
  refine ab_iload_n O 3 dX8_setValue_27 rfl rfl ?_
  exact ab_ireturn O I dX8_setValue_28 (by decide) (by decide) (by rfl) ⟨_, rfl, h⟩

def wp_X8_setWeight (V : Mm) (a0 a1 : Int32) (post : Int32 → Mm → Prop) (px : String → Mm → Prop) : Prop := (wp_X8_requireEdge V (a0) (fun (V1 : Mm) => (wp_X8_requireWeight V1 (a1) (fun (V2 : Mm) => (wp_X8_requirePresent V2 (a0) (fun (V3 : Mm) => (wp_X3_weightOf V3 (a0) (fun (r5 : Int32) (V4 : Mm) => (wp_X2_reweigh V4 (a0) (a1) (fun (V6 : Mm) => post r5 V6))))) px)) px)) px)
set_option maxHeartbeats 4000000 in
theorem c_X8_setWeight (d : Nat) (hd : 7 ≤ d) (l : Launch) (hl : l.stackTraces = false) (g : ab_G) (o : Nat → Int64) (D : Nat → UInt64) (a0 : Int32) (a1 : Int32) {V : Mm} {px : String → Mm → Prop} {post : Int32 → Mm → Prop} (h : wp_X8_setWeight V a0 a1 post px) : Ct l g tk_strs False d 3 18 yX8_setWeight cX8_setWeight 4 (some .int) [.ref 0, .int a0, .int a1] (SW V o D) (tk_I g (fun r u => ∃ V : Mm, u = SW V o D ∧ post r V)) (fun E u => ∃ V : Mm, u = SW V o D ∧ px E V) := by
  refine ct_in (by decide +kernel) (show 3 ≤ 4 by decide) (by simp [Value.category]) hl (fun X I O _ => ?_)
  show Ab X g 0 0 _ 0 [some (.ref (0)), some (.int (a0)), some (.int (a1)), none] [] _
  refine ab_aload_n O 0 dX8_setWeight_0 rfl rfl ?_
  refine ab_iload_n O 1 dX8_setWeight_1 rfl rfl ?_
  refine ab_callvV O I.2.2.2.2.2.2 (fr := False) (st := []) lk_X8_123 rfl (at_0 _ _ _) dX8_setWeight_2 (c_X8_requireEdge (d - 1) (by omega) _ O.2.2.2.2.2.2.1 _ _ _ _ h) rfl rfl ⟨by rw [I.2.1]; show d - 1 + 1 ≤ d; omega, by rw [I.2.1]; show 8 + (_ + 11) + 36 * (d - 1) ≤ 36 * d; omega⟩ (show 0 ≤ 8 by decide) ⟨by rw [I.2.1]; show 0 + 1 ≤ 3; decide, by rw [I.2.1]; show 0 + 6 ≤ 18; decide⟩ (fun q => q.elim) (fun E u q => by obtain ⟨V9, rfl, q⟩ := q; exact abx_out O I (by decide) (by decide) ⟨V9, rfl, q⟩) (fun u hu => ?_)
  obtain ⟨V1, rfl, h⟩ := hu
  refine ab_iload_n O 2 dX8_setWeight_5 rfl rfl ?_
  refine ab_callsV O I.2.2.2.2.2.2 (fr := False) (st := []) lk_X8_105 dX8_setWeight_6 (c_X8_requireWeight (d - 1) (by omega) _ O.2.2.2.2.2.2.1 _ _ _ _ h) rfl rfl ⟨by rw [I.2.1]; show d - 1 + 1 ≤ d; omega, by rw [I.2.1]; show 8 + (_ + 11) + 36 * (d - 1) ≤ 36 * d; omega⟩ (show 0 ≤ 8 by decide) ⟨by rw [I.2.1]; show 1 + 1 ≤ 3; decide, by rw [I.2.1]; show 6 + 6 ≤ 18; decide⟩ (fun q => q.elim) (fun E u q => by obtain ⟨V9, rfl, q⟩ := q; exact abx_out O I (by decide) (by decide) ⟨V9, rfl, q⟩) (fun u hu => ?_)
  obtain ⟨V2, rfl, h⟩ := hu
  refine ab_aload_n O 0 dX8_setWeight_9 rfl rfl ?_
  refine ab_iload_n O 1 dX8_setWeight_10 rfl rfl ?_
  refine ab_callvV O I.2.2.2.2.2.2 (fr := False) (st := []) lk_X8_126 rfl (at_0 _ _ _) dX8_setWeight_11 (c_X8_requirePresent (d - 1) (by omega) _ O.2.2.2.2.2.2.1 _ _ _ _ h) rfl rfl ⟨by rw [I.2.1]; show d - 1 + 1 ≤ d; omega, by rw [I.2.1]; show 8 + (_ + 11) + 36 * (d - 1) ≤ 36 * d; omega⟩ (show 0 ≤ 8 by decide) ⟨by rw [I.2.1]; show 2 + 1 ≤ 3; decide, by rw [I.2.1]; show 12 + 6 ≤ 18; decide⟩ (fun q => q.elim) (fun E u q => by obtain ⟨V9, rfl, q⟩ := q; exact abx_out O I (by decide) (by decide) ⟨V9, rfl, q⟩) (fun u hu => ?_)
  obtain ⟨V3, rfl, h⟩ := hu
  refine ab_aload_n O 0 dX8_setWeight_14 rfl rfl ?_
  refine ab_get O fl_X8_10 dX8_setWeight_15 (at_0 _ _ _) rfl ?_
  refine ab_iload_n O 1 dX8_setWeight_18 rfl rfl ?_
  refine ab_callvI O I.2.2.2.2.2.2 (fr := False) (st := []) lk_X8_132 rfl (at_1 _ _ _) dX8_setWeight_19 (c_X3_weightOf (d - 1) (by omega) _ O.2.2.2.2.2.2.1 _ _ _ _ h) rfl rfl ⟨by rw [I.2.1]; show d - 1 + 1 ≤ d; omega, by rw [I.2.1]; show 8 + (_ + 11) + 36 * (d - 1) ≤ 36 * d; omega⟩ (show 0 ≤ 8 by decide) ⟨by rw [I.2.1]; show 3 + 0 ≤ 3; decide, by rw [I.2.1]; show 18 + 0 ≤ 18; decide⟩ (fun q => q.elim) (fun E u q => q.elim) (fun r5 u hu => ?_)
  obtain ⟨V4, rfl, h⟩ := hu
  refine ab_istore_n O 3 dX8_setWeight_22 rfl (show 3 < 4 by decide) ?_
  refine ab_aload_n O 0 dX8_setWeight_23 rfl rfl ?_
  refine ab_get O fl_X8_39 dX8_setWeight_24 (at_0 _ _ _) rfl ?_
  refine ab_iload_n O 1 dX8_setWeight_27 rfl rfl ?_
  refine ab_iload_n O 2 dX8_setWeight_28 rfl rfl ?_
  refine ab_callvV O I.2.2.2.2.2.2 (fr := False) (st := []) lk_X8_135 rfl (at_35 _ _ _) dX8_setWeight_29 (c_X2_reweigh (d - 1) (by omega) _ O.2.2.2.2.2.2.1 _ _ _ _ _ h) rfl rfl ⟨by rw [I.2.1]; show d - 1 + 1 ≤ d; omega, by rw [I.2.1]; show 8 + (_ + 11) + 36 * (d - 1) ≤ 36 * d; omega⟩ (show 0 ≤ 8 by decide) ⟨by rw [I.2.1]; show 3 + 0 ≤ 3; decide, by rw [I.2.1]; show 18 + 0 ≤ 18; decide⟩ (fun q => q.elim) (fun E u q => q.elim) (fun u hu => ?_)
  obtain ⟨V6, rfl, h⟩ := hu
  refine ab_iload_n O 3 dX8_setWeight_32 rfl rfl ?_
  exact ab_ireturn O I dX8_setWeight_33 (by decide) (by decide) (by rfl) ⟨_, rfl, h⟩

def wp_X8_state (V : Mm) (a0 : Int32) (post : Int32 → Mm → Prop) (px : String → Mm → Prop) : Prop := (wp_X8_requireEdge V (a0) (fun (V1 : Mm) => (wp_X3_isPresent V1 (a0) (fun (r3 : Int32) (V2 : Mm) => ((r3 = 0 → post 114 V2) ∧ (¬ r3 = 0 → (wp_X0_holds V2 (a0) (fun (r6 : Int32) (V5 : Mm) => ((r6 = 0 → post 111 V5) ∧ (¬ r6 = 0 → post 102 V5))))))))) px)
set_option maxHeartbeats 4000000 in
theorem c_X8_state (d : Nat) (hd : 7 ≤ d) (l : Launch) (hl : l.stackTraces = false) (g : ab_G) (o : Nat → Int64) (D : Nat → UInt64) (a0 : Int32) {V : Mm} {px : String → Mm → Prop} {post : Int32 → Mm → Prop} (h : wp_X8_state V a0 post px) : Ct l g tk_strs False d 1 6 yX8_state cX8_state 2 (some .char) [.ref 0, .int a0] (SW V o D) (tk_I g (fun r u => ∃ V : Mm, u = SW V o D ∧ post r V)) (fun E u => ∃ V : Mm, u = SW V o D ∧ px E V) := by
  refine ct_in (by decide +kernel) (show 2 ≤ 2 by decide) (by simp [Value.category]) hl (fun X I O _ => ?_)
  show Ab X g 0 0 _ 0 [some (.ref (0)), some (.int (a0))] [] _
  refine ab_aload_n O 0 dX8_state_0 rfl rfl ?_
  refine ab_iload_n O 1 dX8_state_1 rfl rfl ?_
  refine ab_callvV O I.2.2.2.2.2.2 (fr := False) (st := []) lk_X8_123 rfl (at_0 _ _ _) dX8_state_2 (c_X8_requireEdge (d - 1) (by omega) _ O.2.2.2.2.2.2.1 _ _ _ _ h) rfl rfl ⟨by rw [I.2.1]; show d - 1 + 1 ≤ d; omega, by rw [I.2.1]; show 8 + (_ + 11) + 36 * (d - 1) ≤ 36 * d; omega⟩ (show 0 ≤ 8 by decide) ⟨by rw [I.2.1]; show 0 + 1 ≤ 1; decide, by rw [I.2.1]; show 0 + 6 ≤ 6; decide⟩ (fun q => q.elim) (fun E u q => by obtain ⟨V9, rfl, q⟩ := q; exact abx_out O I (by decide) (by decide) ⟨V9, rfl, q⟩) (fun u hu => ?_)
  obtain ⟨V1, rfl, h⟩ := hu
  refine ab_aload_n O 0 dX8_state_5 rfl rfl ?_
  refine ab_get O fl_X8_10 dX8_state_6 (at_0 _ _ _) rfl ?_
  refine ab_iload_n O 1 dX8_state_9 rfl rfl ?_
  refine ab_callvI O I.2.2.2.2.2.2 (fr := False) (st := []) lk_X8_156 rfl (at_1 _ _ _) dX8_state_10 (c_X3_isPresent (d - 1) (by omega) _ O.2.2.2.2.2.2.1 _ _ _ _ h) rfl rfl ⟨by rw [I.2.1]; show d - 1 + 1 ≤ d; omega, by rw [I.2.1]; show 8 + (_ + 11) + 36 * (d - 1) ≤ 36 * d; omega⟩ (show 0 ≤ 8 by decide) ⟨by rw [I.2.1]; show 1 + 0 ≤ 1; decide, by rw [I.2.1]; show 6 + 0 ≤ 6; decide⟩ (fun q => q.elim) (fun E u q => q.elim) (fun r3 u hu => ?_)
  obtain ⟨V2, rfl, h⟩ := hu
  refine ab_if_ne O 19 dX8_state_13 rfl (fun q4 => ?_) (fun q4 => ?_)
  · have h := h.2 q4
    refine ab_aload_n O 0 dX8_state_19 rfl rfl ?_
    refine ab_get O fl_X8_21 dX8_state_20 (at_0 _ _ _) rfl ?_
    refine ab_iload_n O 1 dX8_state_23 rfl rfl ?_
    refine ab_callvI O I.2.2.2.2.2.2 (fr := False) (st := []) lk_X8_160 rfl (at_7 _ _ _) dX8_state_24 (c_X0_holds (d - 1) (by omega) _ O.2.2.2.2.2.2.1 _ _ _ _ h) rfl rfl ⟨by rw [I.2.1]; show d - 1 + 1 ≤ d; omega, by rw [I.2.1]; show 8 + (_ + 11) + 36 * (d - 1) ≤ 36 * d; omega⟩ (show 0 ≤ 8 by decide) ⟨by rw [I.2.1]; show 1 + 0 ≤ 1; decide, by rw [I.2.1]; show 6 + 0 ≤ 6; decide⟩ (fun q => q.elim) (fun E u q => q.elim) (fun r6 u hu => ?_)
    obtain ⟨V5, rfl, h⟩ := hu
    refine ab_if_eq O 35 dX8_state_27 rfl (fun q7 => ?_) (fun q7 => ?_)
    · have h := h.1 q7
      refine ab_bipush O 111 dX8_state_35 rfl ?_
      exact ab_ireturn O I dX8_state_37 (by decide) (by decide) (by rfl) ⟨_, rfl, h⟩
    · have h := h.2 q7
      refine ab_bipush O 102 dX8_state_30 rfl ?_
      refine ab_goto O 37 dX8_state_32 rfl ?_
      exact ab_ireturn O I dX8_state_37 (by decide) (by decide) (by rfl) ⟨_, rfl, h⟩
  · have h := h.1 q4
    refine ab_bipush O 114 dX8_state_16 rfl ?_
    exact ab_ireturn O I dX8_state_18 (by decide) (by decide) (by rfl) ⟨_, rfl, h⟩

def wp_X8_subtreeSize (V : Mm) (a0 a1 : Int32) (post : Int32 → Mm → Prop) (px : String → Mm → Prop) : Prop := (wp_X8_requireVertices V (a0) (a1) (fun (V1 : Mm) => (wp_X8_plantHolding V1 (a0) (a1) (fun (V2 : Mm) => (wp_X5_build V2 (fun (V3 : Mm) => (wp_X5_sizeBelow V3 (a1) (fun (r5 : Int32) (V4 : Mm) => post r5 V4))))) px)) px)
set_option maxHeartbeats 4000000 in
theorem c_X8_subtreeSize (d : Nat) (hd : 8 ≤ d) (l : Launch) (hl : l.stackTraces = false) (g : ab_G) (o : Nat → Int64) (D : Nat → UInt64) (a0 : Int32) (a1 : Int32) {V : Mm} {px : String → Mm → Prop} {post : Int32 → Mm → Prop} (h : wp_X8_subtreeSize V a0 a1 post px) : Ct l g tk_strs False d 3 18 yX8_subtreeSize cX8_subtreeSize 3 (some .int) [.ref 0, .int a0, .int a1] (SW V o D) (tk_I g (fun r u => ∃ V : Mm, u = SW V o D ∧ post r V)) (fun E u => ∃ V : Mm, u = SW V o D ∧ px E V) := by
  refine ct_in (by decide +kernel) (show 3 ≤ 3 by decide) (by simp [Value.category]) hl (fun X I O _ => ?_)
  show Ab X g 0 0 _ 0 [some (.ref (0)), some (.int (a0)), some (.int (a1))] [] _
  refine ab_aload_n O 0 dX8_subtreeSize_0 rfl rfl ?_
  refine ab_iload_n O 1 dX8_subtreeSize_1 rfl rfl ?_
  refine ab_iload_n O 2 dX8_subtreeSize_2 rfl rfl ?_
  refine ab_callvV O I.2.2.2.2.2.2 (fr := False) (st := []) lk_X8_102 rfl (at_0 _ _ _) dX8_subtreeSize_3 (c_X8_requireVertices (d - 1) (by omega) _ O.2.2.2.2.2.2.1 _ _ _ _ _ h) rfl rfl ⟨by rw [I.2.1]; show d - 1 + 1 ≤ d; omega, by rw [I.2.1]; show 8 + (_ + 11) + 36 * (d - 1) ≤ 36 * d; omega⟩ (show 0 ≤ 8 by decide) ⟨by rw [I.2.1]; show 0 + 2 ≤ 3; decide, by rw [I.2.1]; show 0 + 12 ≤ 18; decide⟩ (fun q => q.elim) (fun E u q => by obtain ⟨V9, rfl, q⟩ := q; exact abx_out O I (by decide) (by decide) ⟨V9, rfl, q⟩) (fun u hu => ?_)
  obtain ⟨V1, rfl, h⟩ := hu
  refine ab_aload_n O 0 dX8_subtreeSize_6 rfl rfl ?_
  refine ab_iload_n O 1 dX8_subtreeSize_7 rfl rfl ?_
  refine ab_iload_n O 2 dX8_subtreeSize_8 rfl rfl ?_
  refine ab_callvV O I.2.2.2.2.2.2 (fr := False) (st := []) lk_X8_147 rfl (at_0 _ _ _) dX8_subtreeSize_9 (c_X8_plantHolding (d - 1) (by omega) _ O.2.2.2.2.2.2.1 _ _ _ _ _ h) rfl rfl ⟨by rw [I.2.1]; show d - 1 + 1 ≤ d; omega, by rw [I.2.1]; show 8 + (_ + 11) + 36 * (d - 1) ≤ 36 * d; omega⟩ (show 0 ≤ 8 by decide) ⟨by rw [I.2.1]; show 2 + 1 ≤ 3; decide, by rw [I.2.1]; show 12 + 6 ≤ 18; decide⟩ (fun q => q.elim) (fun E u q => by obtain ⟨V9, rfl, q⟩ := q; exact abx_out O I (by decide) (by decide) ⟨V9, rfl, q⟩) (fun u hu => ?_)
  obtain ⟨V2, rfl, h⟩ := hu
  refine ab_aload_n O 0 dX8_subtreeSize_12 rfl rfl ?_
  refine ab_get O fl_X8_62 dX8_subtreeSize_13 (at_0 _ _ _) rfl ?_
  refine ab_callvV O I.2.2.2.2.2.2 (fr := False) (st := []) lk_X8_227 rfl (at_43 _ _ _) dX8_subtreeSize_16 (c_X5_build (d - 1) (by omega) _ O.2.2.2.2.2.2.1 _ _ _ h) rfl rfl ⟨by rw [I.2.1]; show d - 1 + 1 ≤ d; omega, by rw [I.2.1]; show 8 + (_ + 11) + 36 * (d - 1) ≤ 36 * d; omega⟩ (show 0 ≤ 8 by decide) ⟨by rw [I.2.1]; show 3 + 0 ≤ 3; decide, by rw [I.2.1]; show 18 + 0 ≤ 18; decide⟩ (fun q => q.elim) (fun E u q => q.elim) (fun u hu => ?_)
  obtain ⟨V3, rfl, h⟩ := hu
  refine ab_aload_n O 0 dX8_subtreeSize_19 rfl rfl ?_
  refine ab_get O fl_X8_62 dX8_subtreeSize_20 (at_0 _ _ _) rfl ?_
  refine ab_iload_n O 2 dX8_subtreeSize_23 rfl rfl ?_
  refine ab_callvI O I.2.2.2.2.2.2 (fr := False) (st := []) lk_X8_267 rfl (at_43 _ _ _) dX8_subtreeSize_24 (c_X5_sizeBelow (d - 1) (by omega) _ O.2.2.2.2.2.2.1 _ _ _ _ h) rfl rfl ⟨by rw [I.2.1]; show d - 1 + 1 ≤ d; omega, by rw [I.2.1]; show 8 + (_ + 11) + 36 * (d - 1) ≤ 36 * d; omega⟩ (show 0 ≤ 8 by decide) ⟨by rw [I.2.1]; show 3 + 0 ≤ 3; decide, by rw [I.2.1]; show 18 + 0 ≤ 18; decide⟩ (fun q => q.elim) (fun E u q => q.elim) (fun r5 u hu => ?_)
  obtain ⟨V4, rfl, h⟩ := hu
  exact ab_ireturn O I dX8_subtreeSize_27 (by decide) (by decide) (by rfl) ⟨_, rfl, h⟩

def wp_X8_subtreeSum (V : Mm) (a0 a1 : Int32) (post : Int32 → Mm → Prop) (px : String → Mm → Prop) : Prop := (wp_X8_requireVertices V (a0) (a1) (fun (V1 : Mm) => (wp_X8_plantHolding V1 (a0) (a1) (fun (V2 : Mm) => (wp_X5_build V2 (fun (V3 : Mm) => (wp_X5_sumBelow V3 (a1) (fun (r5 : Int32) (V4 : Mm) => post r5 V4))))) px)) px)
set_option maxHeartbeats 4000000 in
theorem c_X8_subtreeSum (d : Nat) (hd : 8 ≤ d) (l : Launch) (hl : l.stackTraces = false) (g : ab_G) (o : Nat → Int64) (D : Nat → UInt64) (a0 : Int32) (a1 : Int32) {V : Mm} {px : String → Mm → Prop} {post : Int32 → Mm → Prop} (h : wp_X8_subtreeSum V a0 a1 post px) : Ct l g tk_strs False d 3 18 yX8_subtreeSum cX8_subtreeSum 3 (some .int) [.ref 0, .int a0, .int a1] (SW V o D) (tk_I g (fun r u => ∃ V : Mm, u = SW V o D ∧ post r V)) (fun E u => ∃ V : Mm, u = SW V o D ∧ px E V) := by
  refine ct_in (by decide +kernel) (show 3 ≤ 3 by decide) (by simp [Value.category]) hl (fun X I O _ => ?_)
  show Ab X g 0 0 _ 0 [some (.ref (0)), some (.int (a0)), some (.int (a1))] [] _
  refine ab_aload_n O 0 dX8_subtreeSum_0 rfl rfl ?_
  refine ab_iload_n O 1 dX8_subtreeSum_1 rfl rfl ?_
  refine ab_iload_n O 2 dX8_subtreeSum_2 rfl rfl ?_
  refine ab_callvV O I.2.2.2.2.2.2 (fr := False) (st := []) lk_X8_102 rfl (at_0 _ _ _) dX8_subtreeSum_3 (c_X8_requireVertices (d - 1) (by omega) _ O.2.2.2.2.2.2.1 _ _ _ _ _ h) rfl rfl ⟨by rw [I.2.1]; show d - 1 + 1 ≤ d; omega, by rw [I.2.1]; show 8 + (_ + 11) + 36 * (d - 1) ≤ 36 * d; omega⟩ (show 0 ≤ 8 by decide) ⟨by rw [I.2.1]; show 0 + 2 ≤ 3; decide, by rw [I.2.1]; show 0 + 12 ≤ 18; decide⟩ (fun q => q.elim) (fun E u q => by obtain ⟨V9, rfl, q⟩ := q; exact abx_out O I (by decide) (by decide) ⟨V9, rfl, q⟩) (fun u hu => ?_)
  obtain ⟨V1, rfl, h⟩ := hu
  refine ab_aload_n O 0 dX8_subtreeSum_6 rfl rfl ?_
  refine ab_iload_n O 1 dX8_subtreeSum_7 rfl rfl ?_
  refine ab_iload_n O 2 dX8_subtreeSum_8 rfl rfl ?_
  refine ab_callvV O I.2.2.2.2.2.2 (fr := False) (st := []) lk_X8_147 rfl (at_0 _ _ _) dX8_subtreeSum_9 (c_X8_plantHolding (d - 1) (by omega) _ O.2.2.2.2.2.2.1 _ _ _ _ _ h) rfl rfl ⟨by rw [I.2.1]; show d - 1 + 1 ≤ d; omega, by rw [I.2.1]; show 8 + (_ + 11) + 36 * (d - 1) ≤ 36 * d; omega⟩ (show 0 ≤ 8 by decide) ⟨by rw [I.2.1]; show 2 + 1 ≤ 3; decide, by rw [I.2.1]; show 12 + 6 ≤ 18; decide⟩ (fun q => q.elim) (fun E u q => by obtain ⟨V9, rfl, q⟩ := q; exact abx_out O I (by decide) (by decide) ⟨V9, rfl, q⟩) (fun u hu => ?_)
  obtain ⟨V2, rfl, h⟩ := hu
  refine ab_aload_n O 0 dX8_subtreeSum_12 rfl rfl ?_
  refine ab_get O fl_X8_62 dX8_subtreeSum_13 (at_0 _ _ _) rfl ?_
  refine ab_callvV O I.2.2.2.2.2.2 (fr := False) (st := []) lk_X8_227 rfl (at_43 _ _ _) dX8_subtreeSum_16 (c_X5_build (d - 1) (by omega) _ O.2.2.2.2.2.2.1 _ _ _ h) rfl rfl ⟨by rw [I.2.1]; show d - 1 + 1 ≤ d; omega, by rw [I.2.1]; show 8 + (_ + 11) + 36 * (d - 1) ≤ 36 * d; omega⟩ (show 0 ≤ 8 by decide) ⟨by rw [I.2.1]; show 3 + 0 ≤ 3; decide, by rw [I.2.1]; show 18 + 0 ≤ 18; decide⟩ (fun q => q.elim) (fun E u q => q.elim) (fun u hu => ?_)
  obtain ⟨V3, rfl, h⟩ := hu
  refine ab_aload_n O 0 dX8_subtreeSum_19 rfl rfl ?_
  refine ab_get O fl_X8_62 dX8_subtreeSum_20 (at_0 _ _ _) rfl ?_
  refine ab_iload_n O 2 dX8_subtreeSum_23 rfl rfl ?_
  refine ab_callvI O I.2.2.2.2.2.2 (fr := False) (st := []) lk_X8_270 rfl (at_43 _ _ _) dX8_subtreeSum_24 (c_X5_sumBelow (d - 1) (by omega) _ O.2.2.2.2.2.2.1 _ _ _ _ h) rfl rfl ⟨by rw [I.2.1]; show d - 1 + 1 ≤ d; omega, by rw [I.2.1]; show 8 + (_ + 11) + 36 * (d - 1) ≤ 36 * d; omega⟩ (show 0 ≤ 8 by decide) ⟨by rw [I.2.1]; show 3 + 0 ≤ 3; decide, by rw [I.2.1]; show 18 + 0 ≤ 18; decide⟩ (fun q => q.elim) (fun E u q => q.elim) (fun r5 u hu => ?_)
  obtain ⟨V4, rfl, h⟩ := hu
  exact ab_ireturn O I dX8_subtreeSum_27 (by decide) (by decide) (by rfl) ⟨_, rfl, h⟩

def wp_X8_trees (V : Mm) (post : Int32 → Mm → Prop) : Prop := (wp_X3_vertexCount V (fun (r2 : Int32) (V1 : Mm) => (wp_X0_edgeSum V1 (fun (r4 : Int32) (V3 : Mm) => post (r2 - r4) V3))))
set_option maxHeartbeats 4000000 in
theorem c_X8_trees (d : Nat) (hd : 1 ≤ d) (l : Launch) (hl : l.stackTraces = false) (g : ab_G) (o : Nat → Int64) (D : Nat → UInt64) {V : Mm} {post : Int32 → Mm → Prop} (h : wp_X8_trees V post) : Ct l g tk_strs False d 0 0 yX8_trees cX8_trees 1 (some .int) [.ref 0] (SW V o D) (tk_I g (fun r u => ∃ V : Mm, u = SW V o D ∧ post r V)) (fun _ _ => False) := by
  refine ct_in (by decide +kernel) (show 1 ≤ 1 by decide) (by simp [Value.category]) hl (fun X I O _ => ?_)
  show Ab X g 0 0 _ 0 [some (.ref (0))] [] _
  refine ab_aload_n O 0 dX8_trees_0 rfl rfl ?_
  refine ab_get O fl_X8_10 dX8_trees_1 (at_0 _ _ _) rfl ?_
  refine ab_callvI O I.2.2.2.2.2.2 (fr := False) (st := []) lk_X8_77 rfl (at_1 _ _ _) dX8_trees_4 (c_X3_vertexCount (d - 1) (by omega) _ O.2.2.2.2.2.2.1 _ _ _ h) rfl rfl ⟨by rw [I.2.1]; show d - 1 + 1 ≤ d; omega, by rw [I.2.1]; show 8 + (_ + 11) + 36 * (d - 1) ≤ 36 * d; omega⟩ (show 0 ≤ 8 by decide) ⟨by rw [I.2.1]; show 0 + 0 ≤ 0; decide, by rw [I.2.1]; show 0 + 0 ≤ 0; decide⟩ (fun q => q.elim) (fun E u q => q.elim) (fun r2 u hu => ?_)
  obtain ⟨V1, rfl, h⟩ := hu
  refine ab_aload_n O 0 dX8_trees_7 rfl rfl ?_
  refine ab_get O fl_X8_21 dX8_trees_8 (at_0 _ _ _) rfl ?_
  refine ab_callvI O I.2.2.2.2.2.2 (fr := False) (st := [.int (r2)]) lk_X8_187 rfl (at_7 _ _ _) dX8_trees_11 (c_X0_edgeSum (d - 1) (by omega) _ O.2.2.2.2.2.2.1 _ _ _ h) rfl rfl ⟨by rw [I.2.1]; show d - 1 + 1 ≤ d; omega, by rw [I.2.1]; show 8 + (_ + 11) + 36 * (d - 1) ≤ 36 * d; omega⟩ (show 1 ≤ 8 by decide) ⟨by rw [I.2.1]; show 0 + 0 ≤ 0; decide, by rw [I.2.1]; show 0 + 0 ≤ 0; decide⟩ (fun q => q.elim) (fun E u q => q.elim) (fun r4 u hu => ?_)
  obtain ⟨V3, rfl, h⟩ := hu
  refine ab_isub O dX8_trees_14 ?_
  exact ab_ireturn O I dX8_trees_15 (by decide) (by decide) (by rfl) ⟨_, rfl, h⟩

def wp_X8_value (V : Mm) (a0 : Int32) (post : Int32 → Mm → Prop) (px : String → Mm → Prop) : Prop := (wp_X8_requireVertex V (a0) (fun (V1 : Mm) => (wp_X3_valueOf V1 (a0) (fun (r3 : Int32) (V2 : Mm) => post r3 V2))) px)
set_option maxHeartbeats 4000000 in
theorem c_X8_value (d : Nat) (hd : 7 ≤ d) (l : Launch) (hl : l.stackTraces = false) (g : ab_G) (o : Nat → Int64) (D : Nat → UInt64) (a0 : Int32) {V : Mm} {px : String → Mm → Prop} {post : Int32 → Mm → Prop} (h : wp_X8_value V a0 post px) : Ct l g tk_strs False d 1 6 yX8_value cX8_value 2 (some .int) [.ref 0, .int a0] (SW V o D) (tk_I g (fun r u => ∃ V : Mm, u = SW V o D ∧ post r V)) (fun E u => ∃ V : Mm, u = SW V o D ∧ px E V) := by
  refine ct_in (by decide +kernel) (show 2 ≤ 2 by decide) (by simp [Value.category]) hl (fun X I O _ => ?_)
  show Ab X g 0 0 _ 0 [some (.ref (0)), some (.int (a0))] [] _
  refine ab_aload_n O 0 dX8_value_0 rfl rfl ?_
  refine ab_iload_n O 1 dX8_value_1 rfl rfl ?_
  refine ab_callvV O I.2.2.2.2.2.2 (fr := False) (st := []) lk_X8_92 rfl (at_0 _ _ _) dX8_value_2 (c_X8_requireVertex (d - 1) (by omega) _ O.2.2.2.2.2.2.1 _ _ _ _ h) rfl rfl ⟨by rw [I.2.1]; show d - 1 + 1 ≤ d; omega, by rw [I.2.1]; show 8 + (_ + 11) + 36 * (d - 1) ≤ 36 * d; omega⟩ (show 0 ≤ 8 by decide) ⟨by rw [I.2.1]; show 0 + 1 ≤ 1; decide, by rw [I.2.1]; show 0 + 6 ≤ 6; decide⟩ (fun q => q.elim) (fun E u q => by obtain ⟨V9, rfl, q⟩ := q; exact abx_out O I (by decide) (by decide) ⟨V9, rfl, q⟩) (fun u hu => ?_)
  obtain ⟨V1, rfl, h⟩ := hu
  refine ab_aload_n O 0 dX8_value_5 rfl rfl ?_
  refine ab_get O fl_X8_10 dX8_value_6 (at_0 _ _ _) rfl ?_
  refine ab_iload_n O 1 dX8_value_9 rfl rfl ?_
  refine ab_callvI O I.2.2.2.2.2.2 (fr := False) (st := []) lk_X8_95 rfl (at_1 _ _ _) dX8_value_10 (c_X3_valueOf (d - 1) (by omega) _ O.2.2.2.2.2.2.1 _ _ _ _ h) rfl rfl ⟨by rw [I.2.1]; show d - 1 + 1 ≤ d; omega, by rw [I.2.1]; show 8 + (_ + 11) + 36 * (d - 1) ≤ 36 * d; omega⟩ (show 0 ≤ 8 by decide) ⟨by rw [I.2.1]; show 1 + 0 ≤ 1; decide, by rw [I.2.1]; show 6 + 0 ≤ 6; decide⟩ (fun q => q.elim) (fun E u q => q.elim) (fun r3 u hu => ?_)
  obtain ⟨V2, rfl, h⟩ := hu
  exact ab_ireturn O I dX8_value_13 (by decide) (by decide) (by rfl) ⟨_, rfl, h⟩

def wp_X8_vertices (V : Mm) (post : Int32 → Mm → Prop) : Prop := (wp_X3_vertexCount V (fun (r2 : Int32) (V1 : Mm) => post r2 V1))
set_option maxHeartbeats 4000000 in
theorem c_X8_vertices (d : Nat) (hd : 1 ≤ d) (l : Launch) (hl : l.stackTraces = false) (g : ab_G) (o : Nat → Int64) (D : Nat → UInt64) {V : Mm} {post : Int32 → Mm → Prop} (h : wp_X8_vertices V post) : Ct l g tk_strs False d 0 0 yX8_vertices cX8_vertices 1 (some .int) [.ref 0] (SW V o D) (tk_I g (fun r u => ∃ V : Mm, u = SW V o D ∧ post r V)) (fun _ _ => False) := by
  refine ct_in (by decide +kernel) (show 1 ≤ 1 by decide) (by simp [Value.category]) hl (fun X I O _ => ?_)
  show Ab X g 0 0 _ 0 [some (.ref (0))] [] _
  refine ab_aload_n O 0 dX8_vertices_0 rfl rfl ?_
  refine ab_get O fl_X8_10 dX8_vertices_1 (at_0 _ _ _) rfl ?_
  refine ab_callvI O I.2.2.2.2.2.2 (fr := False) (st := []) lk_X8_77 rfl (at_1 _ _ _) dX8_vertices_4 (c_X3_vertexCount (d - 1) (by omega) _ O.2.2.2.2.2.2.1 _ _ _ h) rfl rfl ⟨by rw [I.2.1]; show d - 1 + 1 ≤ d; omega, by rw [I.2.1]; show 8 + (_ + 11) + 36 * (d - 1) ≤ 36 * d; omega⟩ (show 0 ≤ 8 by decide) ⟨by rw [I.2.1]; show 0 + 0 ≤ 0; decide, by rw [I.2.1]; show 0 + 0 ≤ 0; decide⟩ (fun q => q.elim) (fun E u q => q.elim) (fun r2 u hu => ?_)
  obtain ⟨V1, rfl, h⟩ := hu
  exact ab_ireturn O I dX8_vertices_7 (by decide) (by decide) (by rfl) ⟨_, rfl, h⟩

def wp_X8_weight (V : Mm) (a0 : Int32) (post : Int32 → Mm → Prop) (px : String → Mm → Prop) : Prop := (wp_X8_requireEdge V (a0) (fun (V1 : Mm) => (wp_X3_weightOf V1 (a0) (fun (r3 : Int32) (V2 : Mm) => post r3 V2))) px)
set_option maxHeartbeats 4000000 in
theorem c_X8_weight (d : Nat) (hd : 7 ≤ d) (l : Launch) (hl : l.stackTraces = false) (g : ab_G) (o : Nat → Int64) (D : Nat → UInt64) (a0 : Int32) {V : Mm} {px : String → Mm → Prop} {post : Int32 → Mm → Prop} (h : wp_X8_weight V a0 post px) : Ct l g tk_strs False d 1 6 yX8_weight cX8_weight 2 (some .int) [.ref 0, .int a0] (SW V o D) (tk_I g (fun r u => ∃ V : Mm, u = SW V o D ∧ post r V)) (fun E u => ∃ V : Mm, u = SW V o D ∧ px E V) := by
  refine ct_in (by decide +kernel) (show 2 ≤ 2 by decide) (by simp [Value.category]) hl (fun X I O _ => ?_)
  show Ab X g 0 0 _ 0 [some (.ref (0)), some (.int (a0))] [] _
  refine ab_aload_n O 0 dX8_weight_0 rfl rfl ?_
  refine ab_iload_n O 1 dX8_weight_1 rfl rfl ?_
  refine ab_callvV O I.2.2.2.2.2.2 (fr := False) (st := []) lk_X8_123 rfl (at_0 _ _ _) dX8_weight_2 (c_X8_requireEdge (d - 1) (by omega) _ O.2.2.2.2.2.2.1 _ _ _ _ h) rfl rfl ⟨by rw [I.2.1]; show d - 1 + 1 ≤ d; omega, by rw [I.2.1]; show 8 + (_ + 11) + 36 * (d - 1) ≤ 36 * d; omega⟩ (show 0 ≤ 8 by decide) ⟨by rw [I.2.1]; show 0 + 1 ≤ 1; decide, by rw [I.2.1]; show 0 + 6 ≤ 6; decide⟩ (fun q => q.elim) (fun E u q => by obtain ⟨V9, rfl, q⟩ := q; exact abx_out O I (by decide) (by decide) ⟨V9, rfl, q⟩) (fun u hu => ?_)
  obtain ⟨V1, rfl, h⟩ := hu
  refine ab_aload_n O 0 dX8_weight_5 rfl rfl ?_
  refine ab_get O fl_X8_10 dX8_weight_6 (at_0 _ _ _) rfl ?_
  refine ab_iload_n O 1 dX8_weight_9 rfl rfl ?_
  refine ab_callvI O I.2.2.2.2.2.2 (fr := False) (st := []) lk_X8_132 rfl (at_1 _ _ _) dX8_weight_10 (c_X3_weightOf (d - 1) (by omega) _ O.2.2.2.2.2.2.1 _ _ _ _ h) rfl rfl ⟨by rw [I.2.1]; show d - 1 + 1 ≤ d; omega, by rw [I.2.1]; show 8 + (_ + 11) + 36 * (d - 1) ≤ 36 * d; omega⟩ (show 0 ≤ 8 by decide) ⟨by rw [I.2.1]; show 1 + 0 ≤ 1; decide, by rw [I.2.1]; show 6 + 0 ≤ 6; decide⟩ (fun q => q.elim) (fun E u q => q.elim) (fun r3 u hu => ?_)
  obtain ⟨V2, rfl, h⟩ := hu
  exact ab_ireturn O I dX8_weight_13 (by decide) (by decide) (by rfl) ⟨_, rfl, h⟩
