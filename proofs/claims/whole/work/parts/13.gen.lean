def wp_X3_hasVertex (V : Mm) (a0 : Int32) (post : Int32 → Mm → Prop) : Prop := ((a0 < 0 → post 0 V) ∧ (¬ a0 < 0 → (((V 1 5) ≤ a0 → post 0 V) ∧ (¬ (V 1 5) ≤ a0 → post 1 V))))
set_option maxHeartbeats 4000000 in
theorem c_X3_hasVertex (d : Nat) (hd : 0 ≤ d) (l : Launch) (hl : l.stackTraces = false) (g : ab_G) (o : Nat → Int64) (D : Nat → UInt64) (a0 : Int32) {V : Mm} {post : Int32 → Mm → Prop} (h : wp_X3_hasVertex V a0 post) : Ct l g tk_strs False d 0 0 yX3_hasVertex cX3_hasVertex 2 (some .boolean) [.ref 1, .int a0] (SW V o D) (tk_I g (fun r u => ∃ V : Mm, u = SW V o D ∧ post r V)) (fun _ _ => False) := by
  refine ct_in (by decide +kernel) (show 2 ≤ 2 by decide) (by simp [Value.category]) hl (fun X I O _ => ?_)
  show Ab X g 0 0 _ 0 [some (.ref (1)), some (.int (a0))] [] _
  refine ab_iload_n O 1 dX3_hasVertex_0 rfl rfl ?_
  refine ab_if_lt O 16 dX3_hasVertex_1 rfl (fun q1 => ?_) (fun q1 => ?_)
  · have h := h.1 q1
    refine ab_iconst O 0 dX3_hasVertex_16 rfl ?_
    exact ab_ireturn O I dX3_hasVertex_17 (by decide) (by decide) (by rfl) ⟨_, rfl, h⟩
  · have h := h.2 q1
    refine ab_iload_n O 1 dX3_hasVertex_4 rfl rfl ?_
    refine ab_aload_n O 0 dX3_hasVertex_5 rfl rfl ?_
    refine ab_get O fl_X3_28 dX3_hasVertex_6 (at_1 _ _ _) rfl ?_
    refine ab_icmp_ge O 16 dX3_hasVertex_9 rfl (fun q2 => ?_) (fun q2 => ?_)
    · have h := h.1 q2
      refine ab_iconst O 0 dX3_hasVertex_16 rfl ?_
      exact ab_ireturn O I dX3_hasVertex_17 (by decide) (by decide) (by rfl) ⟨_, rfl, h⟩
    · have h := h.2 q2
      refine ab_iconst O 1 dX3_hasVertex_12 rfl ?_
      refine ab_goto O 17 dX3_hasVertex_13 rfl ?_
      exact ab_ireturn O I dX3_hasVertex_17 (by decide) (by decide) (by rfl) ⟨_, rfl, h⟩

def wp_X3_hasEdge (V : Mm) (a0 : Int32) (post : Int32 → Mm → Prop) : Prop := ((a0 < 0 → post 0 V) ∧ (¬ a0 < 0 → (((V 1 6) ≤ a0 → post 0 V) ∧ (¬ (V 1 6) ≤ a0 → post 1 V))))
set_option maxHeartbeats 4000000 in
theorem c_X3_hasEdge (d : Nat) (hd : 0 ≤ d) (l : Launch) (hl : l.stackTraces = false) (g : ab_G) (o : Nat → Int64) (D : Nat → UInt64) (a0 : Int32) {V : Mm} {post : Int32 → Mm → Prop} (h : wp_X3_hasEdge V a0 post) : Ct l g tk_strs False d 0 0 yX3_hasEdge cX3_hasEdge 2 (some .boolean) [.ref 1, .int a0] (SW V o D) (tk_I g (fun r u => ∃ V : Mm, u = SW V o D ∧ post r V)) (fun _ _ => False) := by
  refine ct_in (by decide +kernel) (show 2 ≤ 2 by decide) (by simp [Value.category]) hl (fun X I O _ => ?_)
  show Ab X g 0 0 _ 0 [some (.ref (1)), some (.int (a0))] [] _
  refine ab_iload_n O 1 dX3_hasEdge_0 rfl rfl ?_
  refine ab_if_lt O 16 dX3_hasEdge_1 rfl (fun q1 => ?_) (fun q1 => ?_)
  · have h := h.1 q1
    refine ab_iconst O 0 dX3_hasEdge_16 rfl ?_
    exact ab_ireturn O I dX3_hasEdge_17 (by decide) (by decide) (by rfl) ⟨_, rfl, h⟩
  · have h := h.2 q1
    refine ab_iload_n O 1 dX3_hasEdge_4 rfl rfl ?_
    refine ab_aload_n O 0 dX3_hasEdge_5 rfl rfl ?_
    refine ab_get O fl_X3_32 dX3_hasEdge_6 (at_1 _ _ _) rfl ?_
    refine ab_icmp_ge O 16 dX3_hasEdge_9 rfl (fun q2 => ?_) (fun q2 => ?_)
    · have h := h.1 q2
      refine ab_iconst O 0 dX3_hasEdge_16 rfl ?_
      exact ab_ireturn O I dX3_hasEdge_17 (by decide) (by decide) (by rfl) ⟨_, rfl, h⟩
    · have h := h.2 q2
      refine ab_iconst O 1 dX3_hasEdge_12 rfl ?_
      refine ab_goto O 17 dX3_hasEdge_13 rfl ?_
      exact ab_ireturn O I dX3_hasEdge_17 (by decide) (by decide) (by rfl) ⟨_, rfl, h⟩

def wp_X3_firstEnd (V : Mm) (a0 : Int32) (post : Int32 → Mm → Prop) : Prop := (wp_X3_hasEdge V (a0) (fun (r2 : Int32) (V1 : Mm) => ((r2 = 0 → post (-1) V1) ∧ (¬ r2 = 0 → (vp_in a0 60 ∧ post (V1 3 (a0).toNatClampNeg) V1)))))
set_option maxHeartbeats 4000000 in
theorem c_X3_firstEnd (d : Nat) (hd : 1 ≤ d) (l : Launch) (hl : l.stackTraces = false) (g : ab_G) (o : Nat → Int64) (D : Nat → UInt64) (a0 : Int32) {V : Mm} {post : Int32 → Mm → Prop} (h : wp_X3_firstEnd V a0 post) : Ct l g tk_strs False d 0 0 yX3_firstEnd cX3_firstEnd 2 (some .int) [.ref 1, .int a0] (SW V o D) (tk_I g (fun r u => ∃ V : Mm, u = SW V o D ∧ post r V)) (fun _ _ => False) := by
  refine ct_in (by decide +kernel) (show 2 ≤ 2 by decide) (by simp [Value.category]) hl (fun X I O _ => ?_)
  show Ab X g 0 0 _ 0 [some (.ref (1)), some (.int (a0))] [] _
  refine ab_aload_n O 0 dX3_firstEnd_0 rfl rfl ?_
  refine ab_iload_n O 1 dX3_firstEnd_1 rfl rfl ?_
  refine ab_callvI O I.2.2.2.2.2.2 (fr := False) (st := []) lk_X3_39 rfl (at_1 _ _ _) dX3_firstEnd_2 (c_X3_hasEdge (d - 1) (by omega) _ O.2.2.2.2.2.2.1 _ _ _ _ h) rfl rfl ⟨by rw [I.2.1]; show d - 1 + 1 ≤ d; omega, by rw [I.2.1]; show 8 + (_ + 11) + 36 * (d - 1) ≤ 36 * d; omega⟩ (show 0 ≤ 8 by decide) ⟨by rw [I.2.1]; show 0 + 0 ≤ 0; decide, by rw [I.2.1]; show 0 + 0 ≤ 0; decide⟩ (fun q => q.elim) (fun E u q => q.elim) (fun r2 u hu => ?_)
  obtain ⟨V1, rfl, h⟩ := hu
  refine ab_if_eq O 17 dX3_firstEnd_5 rfl (fun q3 => ?_) (fun q3 => ?_)
  · have h := h.1 q3
    refine ab_iconst O (-1) dX3_firstEnd_17 rfl ?_
    exact ab_ireturn O I dX3_firstEnd_18 (by decide) (by decide) (by rfl) ⟨_, rfl, h⟩
  · have h := h.2 q3
    refine ab_aload_n O 0 dX3_firstEnd_8 rfl rfl ?_
    refine ab_get O fl_X3_15 dX3_firstEnd_9 (at_1 _ _ _) rfl ?_
    refine ab_iload_n O 1 dX3_firstEnd_12 rfl rfl ?_
    refine ab_iald O dX3_firstEnd_13 (at_3 _ _ _) h.1 ?_
    have h := h.2
    refine ab_goto O 18 dX3_firstEnd_14 rfl ?_
    exact ab_ireturn O I dX3_firstEnd_18 (by decide) (by decide) (by rfl) ⟨_, rfl, h⟩

def wp_X3_secondEnd (V : Mm) (a0 : Int32) (post : Int32 → Mm → Prop) : Prop := (wp_X3_hasEdge V (a0) (fun (r2 : Int32) (V1 : Mm) => ((r2 = 0 → post (-1) V1) ∧ (¬ r2 = 0 → (vp_in a0 60 ∧ post (V1 4 (a0).toNatClampNeg) V1)))))
set_option maxHeartbeats 4000000 in
theorem c_X3_secondEnd (d : Nat) (hd : 1 ≤ d) (l : Launch) (hl : l.stackTraces = false) (g : ab_G) (o : Nat → Int64) (D : Nat → UInt64) (a0 : Int32) {V : Mm} {post : Int32 → Mm → Prop} (h : wp_X3_secondEnd V a0 post) : Ct l g tk_strs False d 0 0 yX3_secondEnd cX3_secondEnd 2 (some .int) [.ref 1, .int a0] (SW V o D) (tk_I g (fun r u => ∃ V : Mm, u = SW V o D ∧ post r V)) (fun _ _ => False) := by
  refine ct_in (by decide +kernel) (show 2 ≤ 2 by decide) (by simp [Value.category]) hl (fun X I O _ => ?_)
  show Ab X g 0 0 _ 0 [some (.ref (1)), some (.int (a0))] [] _
  refine ab_aload_n O 0 dX3_secondEnd_0 rfl rfl ?_
  refine ab_iload_n O 1 dX3_secondEnd_1 rfl rfl ?_
  refine ab_callvI O I.2.2.2.2.2.2 (fr := False) (st := []) lk_X3_39 rfl (at_1 _ _ _) dX3_secondEnd_2 (c_X3_hasEdge (d - 1) (by omega) _ O.2.2.2.2.2.2.1 _ _ _ _ h) rfl rfl ⟨by rw [I.2.1]; show d - 1 + 1 ≤ d; omega, by rw [I.2.1]; show 8 + (_ + 11) + 36 * (d - 1) ≤ 36 * d; omega⟩ (show 0 ≤ 8 by decide) ⟨by rw [I.2.1]; show 0 + 0 ≤ 0; decide, by rw [I.2.1]; show 0 + 0 ≤ 0; decide⟩ (fun q => q.elim) (fun E u q => q.elim) (fun r2 u hu => ?_)
  obtain ⟨V1, rfl, h⟩ := hu
  refine ab_if_eq O 17 dX3_secondEnd_5 rfl (fun q3 => ?_) (fun q3 => ?_)
  · have h := h.1 q3
    refine ab_iconst O (-1) dX3_secondEnd_17 rfl ?_
    exact ab_ireturn O I dX3_secondEnd_18 (by decide) (by decide) (by rfl) ⟨_, rfl, h⟩
  · have h := h.2 q3
    refine ab_aload_n O 0 dX3_secondEnd_8 rfl rfl ?_
    refine ab_get O fl_X3_18 dX3_secondEnd_9 (at_1 _ _ _) rfl ?_
    refine ab_iload_n O 1 dX3_secondEnd_12 rfl rfl ?_
    refine ab_iald O dX3_secondEnd_13 (at_4 _ _ _) h.1 ?_
    have h := h.2
    refine ab_goto O 18 dX3_secondEnd_14 rfl ?_
    exact ab_ireturn O I dX3_secondEnd_18 (by decide) (by decide) (by rfl) ⟨_, rfl, h⟩

def wp_X3_acrossFrom (V : Mm) (a0 a1 : Int32) (post : Int32 → Mm → Prop) : Prop := (wp_X3_firstEnd V (a0) (fun (r2 : Int32) (V1 : Mm) => ((r2 = a1 → (wp_X3_secondEnd V1 (a0) (fun (r10 : Int32) (V9 : Mm) => post r10 V9))) ∧ (¬ r2 = a1 → (wp_X3_secondEnd V1 (a0) (fun (r5 : Int32) (V4 : Mm) => ((r5 = a1 → (wp_X3_firstEnd V4 (a0) (fun (r8 : Int32) (V7 : Mm) => post r8 V7))) ∧ (¬ r5 = a1 → post (-1) V4))))))))
set_option maxHeartbeats 4000000 in
theorem c_X3_acrossFrom (d : Nat) (hd : 2 ≤ d) (l : Launch) (hl : l.stackTraces = false) (g : ab_G) (o : Nat → Int64) (D : Nat → UInt64) (a0 : Int32) (a1 : Int32) {V : Mm} {post : Int32 → Mm → Prop} (h : wp_X3_acrossFrom V a0 a1 post) : Ct l g tk_strs False d 0 0 yX3_acrossFrom cX3_acrossFrom 3 (some .int) [.ref 1, .int a0, .int a1] (SW V o D) (tk_I g (fun r u => ∃ V : Mm, u = SW V o D ∧ post r V)) (fun _ _ => False) := by
  refine ct_in (by decide +kernel) (show 3 ≤ 3 by decide) (by simp [Value.category]) hl (fun X I O _ => ?_)
  show Ab X g 0 0 _ 0 [some (.ref (1)), some (.int (a0)), some (.int (a1))] [] _
  refine ab_aload_n O 0 dX3_acrossFrom_0 rfl rfl ?_
  refine ab_iload_n O 1 dX3_acrossFrom_1 rfl rfl ?_
  refine ab_callvI O I.2.2.2.2.2.2 (fr := False) (st := []) lk_X3_42 rfl (at_1 _ _ _) dX3_acrossFrom_2 (c_X3_firstEnd (d - 1) (by omega) _ O.2.2.2.2.2.2.1 _ _ _ _ h) rfl rfl ⟨by rw [I.2.1]; show d - 1 + 1 ≤ d; omega, by rw [I.2.1]; show 8 + (_ + 11) + 36 * (d - 1) ≤ 36 * d; omega⟩ (show 0 ≤ 8 by decide) ⟨by rw [I.2.1]; show 0 + 0 ≤ 0; decide, by rw [I.2.1]; show 0 + 0 ≤ 0; decide⟩ (fun q => q.elim) (fun E u q => q.elim) (fun r2 u hu => ?_)
  obtain ⟨V1, rfl, h⟩ := hu
  refine ab_iload_n O 2 dX3_acrossFrom_5 rfl rfl ?_
  refine ab_icmp_ne O 15 dX3_acrossFrom_6 rfl (fun q3 => ?_) (fun q3 => ?_)
  · have h := h.2 q3
    refine ab_aload_n O 0 dX3_acrossFrom_15 rfl rfl ?_
    refine ab_iload_n O 1 dX3_acrossFrom_16 rfl rfl ?_
    refine ab_callvI O I.2.2.2.2.2.2 (fr := False) (st := []) lk_X3_46 rfl (at_1 _ _ _) dX3_acrossFrom_17 (c_X3_secondEnd (d - 1) (by omega) _ O.2.2.2.2.2.2.1 _ _ _ _ h) rfl rfl ⟨by rw [I.2.1]; show d - 1 + 1 ≤ d; omega, by rw [I.2.1]; show 8 + (_ + 11) + 36 * (d - 1) ≤ 36 * d; omega⟩ (show 0 ≤ 8 by decide) ⟨by rw [I.2.1]; show 0 + 0 ≤ 0; decide, by rw [I.2.1]; show 0 + 0 ≤ 0; decide⟩ (fun q => q.elim) (fun E u q => q.elim) (fun r5 u hu => ?_)
    obtain ⟨V4, rfl, h⟩ := hu
    refine ab_iload_n O 2 dX3_acrossFrom_20 rfl rfl ?_
    refine ab_icmp_ne O 32 dX3_acrossFrom_21 rfl (fun q6 => ?_) (fun q6 => ?_)
    · have h := h.2 q6
      refine ab_iconst O (-1) dX3_acrossFrom_32 rfl ?_
      exact ab_ireturn O I dX3_acrossFrom_33 (by decide) (by decide) (by rfl) ⟨_, rfl, h⟩
    · have h := h.1 q6
      refine ab_aload_n O 0 dX3_acrossFrom_24 rfl rfl ?_
      refine ab_iload_n O 1 dX3_acrossFrom_25 rfl rfl ?_
      refine ab_callvI O I.2.2.2.2.2.2 (fr := False) (st := []) lk_X3_42 rfl (at_1 _ _ _) dX3_acrossFrom_26 (c_X3_firstEnd (d - 1) (by omega) _ O.2.2.2.2.2.2.1 _ _ _ _ h) rfl rfl ⟨by rw [I.2.1]; show d - 1 + 1 ≤ d; omega, by rw [I.2.1]; show 8 + (_ + 11) + 36 * (d - 1) ≤ 36 * d; omega⟩ (show 0 ≤ 8 by decide) ⟨by rw [I.2.1]; show 0 + 0 ≤ 0; decide, by rw [I.2.1]; show 0 + 0 ≤ 0; decide⟩ (fun q => q.elim) (fun E u q => q.elim) (fun r8 u hu => ?_)
      obtain ⟨V7, rfl, h⟩ := hu
      refine ab_goto O 33 dX3_acrossFrom_29 rfl ?_
      exact ab_ireturn O I dX3_acrossFrom_33 (by decide) (by decide) (by rfl) ⟨_, rfl, h⟩
  · have h := h.1 q3
    refine ab_aload_n O 0 dX3_acrossFrom_9 rfl rfl ?_
    refine ab_iload_n O 1 dX3_acrossFrom_10 rfl rfl ?_
    refine ab_callvI O I.2.2.2.2.2.2 (fr := False) (st := []) lk_X3_46 rfl (at_1 _ _ _) dX3_acrossFrom_11 (c_X3_secondEnd (d - 1) (by omega) _ O.2.2.2.2.2.2.1 _ _ _ _ h) rfl rfl ⟨by rw [I.2.1]; show d - 1 + 1 ≤ d; omega, by rw [I.2.1]; show 8 + (_ + 11) + 36 * (d - 1) ≤ 36 * d; omega⟩ (show 0 ≤ 8 by decide) ⟨by rw [I.2.1]; show 0 + 0 ≤ 0; decide, by rw [I.2.1]; show 0 + 0 ≤ 0; decide⟩ (fun q => q.elim) (fun E u q => q.elim) (fun r10 u hu => ?_)
    obtain ⟨V9, rfl, h⟩ := hu
    exact ab_ireturn O I dX3_acrossFrom_14 (by decide) (by decide) (by rfl) ⟨_, rfl, h⟩

def wp_X3_isPresent (V : Mm) (a0 : Int32) (post : Int32 → Mm → Prop) : Prop := (wp_X3_hasEdge V (a0) (fun (r2 : Int32) (V1 : Mm) => ((r2 = 0 → post 0 V1) ∧ (¬ r2 = 0 → (vp_in a0 60 ∧ (((V1 6 (a0).toNatClampNeg) = 0 → post 0 V1) ∧ (¬ (V1 6 (a0).toNatClampNeg) = 0 → post 1 V1)))))))
set_option maxHeartbeats 4000000 in
theorem c_X3_isPresent (d : Nat) (hd : 1 ≤ d) (l : Launch) (hl : l.stackTraces = false) (g : ab_G) (o : Nat → Int64) (D : Nat → UInt64) (a0 : Int32) {V : Mm} {post : Int32 → Mm → Prop} (h : wp_X3_isPresent V a0 post) : Ct l g tk_strs False d 0 0 yX3_isPresent cX3_isPresent 2 (some .boolean) [.ref 1, .int a0] (SW V o D) (tk_I g (fun r u => ∃ V : Mm, u = SW V o D ∧ post r V)) (fun _ _ => False) := by
  refine ct_in (by decide +kernel) (show 2 ≤ 2 by decide) (by simp [Value.category]) hl (fun X I O _ => ?_)
  show Ab X g 0 0 _ 0 [some (.ref (1)), some (.int (a0))] [] _
  refine ab_aload_n O 0 dX3_isPresent_0 rfl rfl ?_
  refine ab_iload_n O 1 dX3_isPresent_1 rfl rfl ?_
  refine ab_callvI O I.2.2.2.2.2.2 (fr := False) (st := []) lk_X3_39 rfl (at_1 _ _ _) dX3_isPresent_2 (c_X3_hasEdge (d - 1) (by omega) _ O.2.2.2.2.2.2.1 _ _ _ _ h) rfl rfl ⟨by rw [I.2.1]; show d - 1 + 1 ≤ d; omega, by rw [I.2.1]; show 8 + (_ + 11) + 36 * (d - 1) ≤ 36 * d; omega⟩ (show 0 ≤ 8 by decide) ⟨by rw [I.2.1]; show 0 + 0 ≤ 0; decide, by rw [I.2.1]; show 0 + 0 ≤ 0; decide⟩ (fun q => q.elim) (fun E u q => q.elim) (fun r2 u hu => ?_)
  obtain ⟨V1, rfl, h⟩ := hu
  refine ab_if_eq O 21 dX3_isPresent_5 rfl (fun q3 => ?_) (fun q3 => ?_)
  · have h := h.1 q3
    refine ab_iconst O 0 dX3_isPresent_21 rfl ?_
    exact ab_ireturn O I dX3_isPresent_22 (by decide) (by decide) (by rfl) ⟨_, rfl, h⟩
  · have h := h.2 q3
    refine ab_aload_n O 0 dX3_isPresent_8 rfl rfl ?_
    refine ab_get O fl_X3_24 dX3_isPresent_9 (at_1 _ _ _) rfl ?_
    refine ab_iload_n O 1 dX3_isPresent_12 rfl rfl ?_
    refine ab_zald O dX3_isPresent_13 (at_6 _ _ _) h.1 ?_
    have h := h.2
    refine ab_if_eq O 21 dX3_isPresent_14 rfl (fun q4 => ?_) (fun q4 => ?_)
    · have h := h.1 q4
      refine ab_iconst O 0 dX3_isPresent_21 rfl ?_
      exact ab_ireturn O I dX3_isPresent_22 (by decide) (by decide) (by rfl) ⟨_, rfl, h⟩
    · have h := h.2 q4
      refine ab_iconst O 1 dX3_isPresent_17 rfl ?_
      refine ab_goto O 22 dX3_isPresent_18 rfl ?_
      exact ab_ireturn O I dX3_isPresent_22 (by decide) (by decide) (by rfl) ⟨_, rfl, h⟩

def wp_X3_joins (V : Mm) (a0 a1 a2 : Int32) (post : Int32 → Mm → Prop) : Prop := (wp_X3_isPresent V (a0) (fun (r2 : Int32) (V1 : Mm) => ((r2 = 0 → post 0 V1) ∧ (¬ r2 = 0 → (wp_X3_acrossFrom V1 (a0) (a1) (fun (r5 : Int32) (V4 : Mm) => ((r5 = a2 → post 1 V4) ∧ (¬ r5 = a2 → post 0 V4))))))))
set_option maxHeartbeats 4000000 in
theorem c_X3_joins (d : Nat) (hd : 3 ≤ d) (l : Launch) (hl : l.stackTraces = false) (g : ab_G) (o : Nat → Int64) (D : Nat → UInt64) (a0 : Int32) (a1 : Int32) (a2 : Int32) {V : Mm} {post : Int32 → Mm → Prop} (h : wp_X3_joins V a0 a1 a2 post) : Ct l g tk_strs False d 0 0 yX3_joins cX3_joins 4 (some .boolean) [.ref 1, .int a0, .int a1, .int a2] (SW V o D) (tk_I g (fun r u => ∃ V : Mm, u = SW V o D ∧ post r V)) (fun _ _ => False) := by
  refine ct_in (by decide +kernel) (show 4 ≤ 4 by decide) (by simp [Value.category]) hl (fun X I O _ => ?_)
  show Ab X g 0 0 _ 0 [some (.ref (1)), some (.int (a0)), some (.int (a1)), some (.int (a2))] [] _
  refine ab_aload_n O 0 dX3_joins_0 rfl rfl ?_
  refine ab_iload_n O 1 dX3_joins_1 rfl rfl ?_
  refine ab_callvI O I.2.2.2.2.2.2 (fr := False) (st := []) lk_X3_49 rfl (at_1 _ _ _) dX3_joins_2 (c_X3_isPresent (d - 1) (by omega) _ O.2.2.2.2.2.2.1 _ _ _ _ h) rfl rfl ⟨by rw [I.2.1]; show d - 1 + 1 ≤ d; omega, by rw [I.2.1]; show 8 + (_ + 11) + 36 * (d - 1) ≤ 36 * d; omega⟩ (show 0 ≤ 8 by decide) ⟨by rw [I.2.1]; show 0 + 0 ≤ 0; decide, by rw [I.2.1]; show 0 + 0 ≤ 0; decide⟩ (fun q => q.elim) (fun E u q => q.elim) (fun r2 u hu => ?_)
  obtain ⟨V1, rfl, h⟩ := hu
  refine ab_if_eq O 22 dX3_joins_5 rfl (fun q3 => ?_) (fun q3 => ?_)
  · have h := h.1 q3
    refine ab_iconst O 0 dX3_joins_22 rfl ?_
    exact ab_ireturn O I dX3_joins_23 (by decide) (by decide) (by rfl) ⟨_, rfl, h⟩
  · have h := h.2 q3
    refine ab_aload_n O 0 dX3_joins_8 rfl rfl ?_
    refine ab_iload_n O 1 dX3_joins_9 rfl rfl ?_
    refine ab_iload_n O 2 dX3_joins_10 rfl rfl ?_
    refine ab_callvI O I.2.2.2.2.2.2 (fr := False) (st := []) lk_X3_52 rfl (at_1 _ _ _) dX3_joins_11 (c_X3_acrossFrom (d - 1) (by omega) _ O.2.2.2.2.2.2.1 _ _ _ _ _ h) rfl rfl ⟨by rw [I.2.1]; show d - 1 + 1 ≤ d; omega, by rw [I.2.1]; show 8 + (_ + 11) + 36 * (d - 1) ≤ 36 * d; omega⟩ (show 0 ≤ 8 by decide) ⟨by rw [I.2.1]; show 0 + 0 ≤ 0; decide, by rw [I.2.1]; show 0 + 0 ≤ 0; decide⟩ (fun q => q.elim) (fun E u q => q.elim) (fun r5 u hu => ?_)
    obtain ⟨V4, rfl, h⟩ := hu
    refine ab_iload_n O 3 dX3_joins_14 rfl rfl ?_
    refine ab_icmp_ne O 22 dX3_joins_15 rfl (fun q6 => ?_) (fun q6 => ?_)
    · have h := h.2 q6
      refine ab_iconst O 0 dX3_joins_22 rfl ?_
      exact ab_ireturn O I dX3_joins_23 (by decide) (by decide) (by rfl) ⟨_, rfl, h⟩
    · have h := h.1 q6
      refine ab_iconst O 1 dX3_joins_18 rfl ?_
      refine ab_goto O 23 dX3_joins_19 rfl ?_
      exact ab_ireturn O I dX3_joins_23 (by decide) (by decide) (by rfl) ⟨_, rfl, h⟩

def wp_X3_countBetween_L5 (y5_1 y5_2 : Int32) (post : Int32 → Mm → Prop) (kx : Mm → Int32 → Int32 → Prop) : Nat → Mm → Int32 → Int32 → Prop
  | 0, _, _, _ => False
  | n5 + 1, V, x5_3, x5_4 => (((V 1 6) ≤ x5_4 → kx (V) (x5_3) (x5_4)) ∧ (¬ (V 1 6) ≤ x5_4 → (wp_X3_joins V (x5_4) (y5_1) (y5_2) (fun (r3 : Int32) (V2 : Mm) => ((r3 = 0 → wp_X3_countBetween_L5 y5_1 y5_2 post kx n5 (V2) (x5_3) ((x5_4 + (1)))) ∧ (¬ r3 = 0 → wp_X3_countBetween_L5 y5_1 y5_2 post kx n5 (V2) ((x5_3 + (1))) ((x5_4 + (1)))))))))

def wp_X3_countBetween (V : Mm) (a0 a1 : Int32) (post : Int32 → Mm → Prop) : Prop := (∃ m5 : Nat, wp_X3_countBetween_L5 (a0) (a1) post (fun (V5 : Mm) (x6 : Int32) (x7 : Int32) => post x6 V5) m5 (V) (0) (0))
set_option maxHeartbeats 4000000 in
theorem cl_X3_countBetween_L5 {X : ab_M} {g : ab_G} {l : Launch} {d : Nat} (hd : 4 ≤ d) (y5_1 y5_2 : Int32) {post : Int32 → Mm → Prop} {kx : Mm → Int32 → Int32 → Prop} {o : Nat → Int64} {D : Nat → UInt64} (O : ab_Ok X g cX3_countBetween RX3) (I : ab_I X l tk_strs 5 (some .int) yX3_countBetween.name d 0 0) (hk : ∀ (V : Mm) (x5_3 : Int32) (x5_4 : Int32), kx V x5_3 x5_4 → Ab X g 0 0 (tk_Q X g (tk_I g (fun r u => ∃ V : Mm, u = SW V o D ∧ post r V)) (fun _ _ => False) 0 0) 34 [none, none, none, some (.int (x5_3)), none] [] (SW V o D)) : ∀ (n : Nat) (V : Mm) (x5_3 : Int32) (x5_4 : Int32), wp_X3_countBetween_L5 y5_1 y5_2 post kx n V x5_3 x5_4 → Ab X g 0 0 (tk_Q X g (tk_I g (fun r u => ∃ V : Mm, u = SW V o D ∧ post r V)) (fun _ _ => False) 0 0) 5 [some (.ref (1)), some (.int (y5_1)), some (.int (y5_2)), some (.int (x5_3)), some (.int (x5_4))] [] (SW V o D) := by
  intro n
  induction n with
  | zero => intro V x5_3 x5_4 h; exact h.elim
  | succ n ih =>
    intro V x5_3 x5_4 h
    refine ab_iload O dX3_countBetween_5 rfl ?_
    refine ab_aload_n O 0 dX3_countBetween_7 rfl rfl ?_
    refine ab_get O fl_X3_32 dX3_countBetween_8 (at_1 _ _ _) rfl ?_
    refine ab_icmp_ge O 34 dX3_countBetween_11 rfl (fun q1 => ?_) (fun q1 => ?_)
    · have h := h.1 q1
      exact ab_less (hk (V) (x5_3) (x5_4) h) (ab_le_n (ab_le_n (ab_le_n (ab_le_s (ab_le_n ab_le_0)))))
    · have h := h.2 q1
      refine ab_aload_n O 0 dX3_countBetween_14 rfl rfl ?_
      refine ab_iload O dX3_countBetween_15 rfl ?_
      refine ab_iload_n O 1 dX3_countBetween_17 rfl rfl ?_
      refine ab_iload_n O 2 dX3_countBetween_18 rfl rfl ?_
      refine ab_callvI O I.2.2.2.2.2.2 (fr := False) (st := []) lk_X3_56 rfl (at_1 _ _ _) dX3_countBetween_19 (c_X3_joins (d - 1) (by omega) _ O.2.2.2.2.2.2.1 _ _ _ _ _ _ h) rfl rfl ⟨by rw [I.2.1]; show d - 1 + 1 ≤ d; omega, by rw [I.2.1]; show 8 + (_ + 11) + 36 * (d - 1) ≤ 36 * d; omega⟩ (show 0 ≤ 8 by decide) ⟨by rw [I.2.1]; show 0 + 0 ≤ 0; decide, by rw [I.2.1]; show 0 + 0 ≤ 0; decide⟩ (fun q => q.elim) (fun E u q => q.elim) (fun r3 u hu => ?_)
      obtain ⟨V2, rfl, h⟩ := hu
      refine ab_if_eq O 28 dX3_countBetween_22 rfl (fun q4 => ?_) (fun q4 => ?_)
      · have h := h.1 q4
        refine ab_iinc O ((x5_4 + (1))) dX3_countBetween_28 rfl rfl ?_
        refine ab_goto O 5 dX3_countBetween_31 rfl ?_
        exact ab_less (ih (V2) (x5_3) ((x5_4 + (1))) h) (ab_le_s (ab_le_s (ab_le_s (ab_le_s (ab_le_s ab_le_0)))))
      · have h := h.2 q4
        refine ab_iinc O ((x5_3 + (1))) dX3_countBetween_25 rfl rfl ?_
        refine ab_iinc O ((x5_4 + (1))) dX3_countBetween_28 rfl rfl ?_
        refine ab_goto O 5 dX3_countBetween_31 rfl ?_
        exact ab_less (ih (V2) ((x5_3 + (1))) ((x5_4 + (1))) h) (ab_le_s (ab_le_s (ab_le_s (ab_le_s (ab_le_s ab_le_0)))))
set_option maxHeartbeats 4000000 in
theorem c_X3_countBetween (d : Nat) (hd : 4 ≤ d) (l : Launch) (hl : l.stackTraces = false) (g : ab_G) (o : Nat → Int64) (D : Nat → UInt64) (a0 : Int32) (a1 : Int32) {V : Mm} {post : Int32 → Mm → Prop} (h : wp_X3_countBetween V a0 a1 post) : Ct l g tk_strs False d 0 0 yX3_countBetween cX3_countBetween 5 (some .int) [.ref 1, .int a0, .int a1] (SW V o D) (tk_I g (fun r u => ∃ V : Mm, u = SW V o D ∧ post r V)) (fun _ _ => False) := by
  refine ct_in (by decide +kernel) (show 3 ≤ 5 by decide) (by simp [Value.category]) hl (fun X I O _ => ?_)
  show Ab X g 0 0 _ 0 [some (.ref (1)), some (.int (a0)), some (.int (a1)), none, none] [] _
  refine ab_iconst O 0 dX3_countBetween_0 rfl ?_
  refine ab_istore_n O 3 dX3_countBetween_1 rfl (show 3 < 5 by decide) ?_
  refine ab_iconst O 0 dX3_countBetween_2 rfl ?_
  refine ab_istore O dX3_countBetween_3 (show 4 < 5 by decide) ?_
  obtain ⟨n9, h⟩ := h
  refine ab_less (cl_X3_countBetween_L5 hd (a0) (a1) O I (fun V5 x6 x7 h => ?_) n9 (V) (0) (0) h) (ab_le_s (ab_le_s (ab_le_s (ab_le_s (ab_le_s ab_le_0)))))
  refine ab_iload_n O 3 dX3_countBetween_34 rfl rfl ?_
  exact ab_ireturn O I dX3_countBetween_35 (by decide) (by decide) (by rfl) ⟨_, rfl, h⟩

def wp_X3_comesBefore (V : Mm) (a0 a1 : Int32) (post : Int32 → Mm → Prop) : Prop := (wp_X3_hasEdge V (a0) (fun (r2 : Int32) (V1 : Mm) => ((r2 = 0 → (wp_X3_hasEdge V1 (a0) (fun (r5 : Int32) (V4 : Mm) => (narrow .boolean (.int r5) = .int r5 ∧ post r5 V4)))) ∧ (¬ r2 = 0 → (wp_X3_hasEdge V1 (a1) (fun (r7 : Int32) (V6 : Mm) => ((r7 = 0 → (wp_X3_hasEdge V6 (a0) (fun (r13 : Int32) (V12 : Mm) => (narrow .boolean (.int r13) = .int r13 ∧ post r13 V12)))) ∧ (¬ r7 = 0 → (vp_in a0 60 ∧ (vp_in a1 60 ∧ (((V6 5 (a0).toNatClampNeg) = (V6 5 (a1).toNatClampNeg) → ((a1 ≤ a0 → post 0 V6) ∧ (¬ a1 ≤ a0 → post 1 V6))) ∧ (¬ (V6 5 (a0).toNatClampNeg) = (V6 5 (a1).toNatClampNeg) → (vp_in a0 60 ∧ (vp_in a1 60 ∧ (((V6 5 (a1).toNatClampNeg) ≤ (V6 5 (a0).toNatClampNeg) → post 0 V6) ∧ (¬ (V6 5 (a1).toNatClampNeg) ≤ (V6 5 (a0).toNatClampNeg) → post 1 V6))))))))))))))))
set_option maxHeartbeats 4000000 in
theorem c_X3_comesBefore (d : Nat) (hd : 1 ≤ d) (l : Launch) (hl : l.stackTraces = false) (g : ab_G) (o : Nat → Int64) (D : Nat → UInt64) (a0 : Int32) (a1 : Int32) {V : Mm} {post : Int32 → Mm → Prop} (h : wp_X3_comesBefore V a0 a1 post) : Ct l g tk_strs False d 0 0 yX3_comesBefore cX3_comesBefore 3 (some .boolean) [.ref 1, .int a0, .int a1] (SW V o D) (tk_I g (fun r u => ∃ V : Mm, u = SW V o D ∧ post r V)) (fun _ _ => False) := by
  refine ct_in (by decide +kernel) (show 3 ≤ 3 by decide) (by simp [Value.category]) hl (fun X I O _ => ?_)
  show Ab X g 0 0 _ 0 [some (.ref (1)), some (.int (a0)), some (.int (a1))] [] _
  refine ab_aload_n O 0 dX3_comesBefore_0 rfl rfl ?_
  refine ab_iload_n O 1 dX3_comesBefore_1 rfl rfl ?_
  refine ab_callvI O I.2.2.2.2.2.2 (fr := False) (st := []) lk_X3_39 rfl (at_1 _ _ _) dX3_comesBefore_2 (c_X3_hasEdge (d - 1) (by omega) _ O.2.2.2.2.2.2.1 _ _ _ _ h) rfl rfl ⟨by rw [I.2.1]; show d - 1 + 1 ≤ d; omega, by rw [I.2.1]; show 8 + (_ + 11) + 36 * (d - 1) ≤ 36 * d; omega⟩ (show 0 ≤ 8 by decide) ⟨by rw [I.2.1]; show 0 + 0 ≤ 0; decide, by rw [I.2.1]; show 0 + 0 ≤ 0; decide⟩ (fun q => q.elim) (fun E u q => q.elim) (fun r2 u hu => ?_)
  obtain ⟨V1, rfl, h⟩ := hu
  refine ab_if_eq O 16 dX3_comesBefore_5 rfl (fun q3 => ?_) (fun q3 => ?_)
  · have h := h.1 q3
    refine ab_aload_n O 0 dX3_comesBefore_16 rfl rfl ?_
    refine ab_iload_n O 1 dX3_comesBefore_17 rfl rfl ?_
    refine ab_callvI O I.2.2.2.2.2.2 (fr := False) (st := []) lk_X3_39 rfl (at_1 _ _ _) dX3_comesBefore_18 (c_X3_hasEdge (d - 1) (by omega) _ O.2.2.2.2.2.2.1 _ _ _ _ h) rfl rfl ⟨by rw [I.2.1]; show d - 1 + 1 ≤ d; omega, by rw [I.2.1]; show 8 + (_ + 11) + 36 * (d - 1) ≤ 36 * d; omega⟩ (show 0 ≤ 8 by decide) ⟨by rw [I.2.1]; show 0 + 0 ≤ 0; decide, by rw [I.2.1]; show 0 + 0 ≤ 0; decide⟩ (fun q => q.elim) (fun E u q => q.elim) (fun r5 u hu => ?_)
    obtain ⟨V4, rfl, h⟩ := hu
    exact ab_ireturn O I dX3_comesBefore_21 (by decide) (by decide) h.1 ⟨_, rfl, h.2⟩
  · have h := h.2 q3
    refine ab_aload_n O 0 dX3_comesBefore_8 rfl rfl ?_
    refine ab_iload_n O 2 dX3_comesBefore_9 rfl rfl ?_
    refine ab_callvI O I.2.2.2.2.2.2 (fr := False) (st := []) lk_X3_39 rfl (at_1 _ _ _) dX3_comesBefore_10 (c_X3_hasEdge (d - 1) (by omega) _ O.2.2.2.2.2.2.1 _ _ _ _ h) rfl rfl ⟨by rw [I.2.1]; show d - 1 + 1 ≤ d; omega, by rw [I.2.1]; show 8 + (_ + 11) + 36 * (d - 1) ≤ 36 * d; omega⟩ (show 0 ≤ 8 by decide) ⟨by rw [I.2.1]; show 0 + 0 ≤ 0; decide, by rw [I.2.1]; show 0 + 0 ≤ 0; decide⟩ (fun q => q.elim) (fun E u q => q.elim) (fun r7 u hu => ?_)
    obtain ⟨V6, rfl, h⟩ := hu
    refine ab_if_ne O 22 dX3_comesBefore_13 rfl (fun q8 => ?_) (fun q8 => ?_)
    · have h := h.2 q8
      refine ab_aload_n O 0 dX3_comesBefore_22 rfl rfl ?_
      refine ab_get O fl_X3_21 dX3_comesBefore_23 (at_1 _ _ _) rfl ?_
      refine ab_iload_n O 1 dX3_comesBefore_26 rfl rfl ?_
      refine ab_iald O dX3_comesBefore_27 (at_5 _ _ _) h.1 ?_
      have h := h.2
      refine ab_aload_n O 0 dX3_comesBefore_28 rfl rfl ?_
      refine ab_get O fl_X3_21 dX3_comesBefore_29 (at_1 _ _ _) rfl ?_
      refine ab_iload_n O 2 dX3_comesBefore_32 rfl rfl ?_
      refine ab_iald O dX3_comesBefore_33 (at_5 _ _ _) h.1 ?_
      have h := h.2
      refine ab_icmp_eq O 58 dX3_comesBefore_34 rfl (fun q9 => ?_) (fun q9 => ?_)
      · have h := h.1 q9
        refine ab_iload_n O 1 dX3_comesBefore_58 rfl rfl ?_
        refine ab_iload_n O 2 dX3_comesBefore_59 rfl rfl ?_
        refine ab_icmp_ge O 67 dX3_comesBefore_60 rfl (fun q10 => ?_) (fun q10 => ?_)
        · have h := h.1 q10
          refine ab_iconst O 0 dX3_comesBefore_67 rfl ?_
          exact ab_ireturn O I dX3_comesBefore_68 (by decide) (by decide) (by rfl) ⟨_, rfl, h⟩
        · have h := h.2 q10
          refine ab_iconst O 1 dX3_comesBefore_63 rfl ?_
          refine ab_goto O 68 dX3_comesBefore_64 rfl ?_
          exact ab_ireturn O I dX3_comesBefore_68 (by decide) (by decide) (by rfl) ⟨_, rfl, h⟩
      · have h := h.2 q9
        refine ab_aload_n O 0 dX3_comesBefore_37 rfl rfl ?_
        refine ab_get O fl_X3_21 dX3_comesBefore_38 (at_1 _ _ _) rfl ?_
        refine ab_iload_n O 1 dX3_comesBefore_41 rfl rfl ?_
        refine ab_iald O dX3_comesBefore_42 (at_5 _ _ _) h.1 ?_
        have h := h.2
        refine ab_aload_n O 0 dX3_comesBefore_43 rfl rfl ?_
        refine ab_get O fl_X3_21 dX3_comesBefore_44 (at_1 _ _ _) rfl ?_
        refine ab_iload_n O 2 dX3_comesBefore_47 rfl rfl ?_
        refine ab_iald O dX3_comesBefore_48 (at_5 _ _ _) h.1 ?_
        have h := h.2
        refine ab_icmp_ge O 56 dX3_comesBefore_49 rfl (fun q11 => ?_) (fun q11 => ?_)
        · have h := h.1 q11
          refine ab_iconst O 0 dX3_comesBefore_56 rfl ?_
          exact ab_ireturn O I dX3_comesBefore_57 (by decide) (by decide) (by rfl) ⟨_, rfl, h⟩
        · have h := h.2 q11
          refine ab_iconst O 1 dX3_comesBefore_52 rfl ?_
          refine ab_goto O 57 dX3_comesBefore_53 rfl ?_
          exact ab_ireturn O I dX3_comesBefore_57 (by decide) (by decide) (by rfl) ⟨_, rfl, h⟩
    · have h := h.1 q8
      refine ab_aload_n O 0 dX3_comesBefore_16 rfl rfl ?_
      refine ab_iload_n O 1 dX3_comesBefore_17 rfl rfl ?_
      refine ab_callvI O I.2.2.2.2.2.2 (fr := False) (st := []) lk_X3_39 rfl (at_1 _ _ _) dX3_comesBefore_18 (c_X3_hasEdge (d - 1) (by omega) _ O.2.2.2.2.2.2.1 _ _ _ _ h) rfl rfl ⟨by rw [I.2.1]; show d - 1 + 1 ≤ d; omega, by rw [I.2.1]; show 8 + (_ + 11) + 36 * (d - 1) ≤ 36 * d; omega⟩ (show 0 ≤ 8 by decide) ⟨by rw [I.2.1]; show 0 + 0 ≤ 0; decide, by rw [I.2.1]; show 0 + 0 ≤ 0; decide⟩ (fun q => q.elim) (fun E u q => q.elim) (fun r13 u hu => ?_)
      obtain ⟨V12, rfl, h⟩ := hu
      exact ab_ireturn O I dX3_comesBefore_21 (by decide) (by decide) h.1 ⟨_, rfl, h.2⟩

def wp_X3_firstBetween_L5 (y5_1 y5_2 : Int32) (post : Int32 → Mm → Prop) (kx : Mm → Int32 → Int32 → Prop) : Nat → Mm → Int32 → Int32 → Prop
  | 0, _, _, _ => False
  | n5 + 1, V, x5_3, x5_4 => (((V 1 6) ≤ x5_4 → kx (V) (x5_3) (x5_4)) ∧ (¬ (V 1 6) ≤ x5_4 → (wp_X3_joins V (x5_4) (y5_1) (y5_2) (fun (r3 : Int32) (V2 : Mm) => ((r3 = 0 → wp_X3_firstBetween_L5 y5_1 y5_2 post kx n5 (V2) (x5_3) ((x5_4 + (1)))) ∧ (¬ r3 = 0 → (wp_X3_comesBefore V2 (x5_4) (x5_3) (fun (r6 : Int32) (V5 : Mm) => ((r6 = 0 → wp_X3_firstBetween_L5 y5_1 y5_2 post kx n5 (V5) (x5_3) ((x5_4 + (1)))) ∧ (¬ r6 = 0 → wp_X3_firstBetween_L5 y5_1 y5_2 post kx n5 (V5) (x5_4) ((x5_4 + (1)))))))))))))

def wp_X3_firstBetween (V : Mm) (a0 a1 : Int32) (post : Int32 → Mm → Prop) : Prop := (∃ m5 : Nat, wp_X3_firstBetween_L5 (a0) (a1) post (fun (V8 : Mm) (x9 : Int32) (x10 : Int32) => post x9 V8) m5 (V) ((-1)) (0))
set_option maxHeartbeats 4000000 in
theorem cl_X3_firstBetween_L5 {X : ab_M} {g : ab_G} {l : Launch} {d : Nat} (hd : 4 ≤ d) (y5_1 y5_2 : Int32) {post : Int32 → Mm → Prop} {kx : Mm → Int32 → Int32 → Prop} {o : Nat → Int64} {D : Nat → UInt64} (O : ab_Ok X g cX3_firstBetween RX3) (I : ab_I X l tk_strs 5 (some .int) yX3_firstBetween.name d 0 0) (hk : ∀ (V : Mm) (x5_3 : Int32) (x5_4 : Int32), kx V x5_3 x5_4 → Ab X g 0 0 (tk_Q X g (tk_I g (fun r u => ∃ V : Mm, u = SW V o D ∧ post r V)) (fun _ _ => False) 0 0) 44 [none, none, none, some (.int (x5_3)), none] [] (SW V o D)) : ∀ (n : Nat) (V : Mm) (x5_3 : Int32) (x5_4 : Int32), wp_X3_firstBetween_L5 y5_1 y5_2 post kx n V x5_3 x5_4 → Ab X g 0 0 (tk_Q X g (tk_I g (fun r u => ∃ V : Mm, u = SW V o D ∧ post r V)) (fun _ _ => False) 0 0) 5 [some (.ref (1)), some (.int (y5_1)), some (.int (y5_2)), some (.int (x5_3)), some (.int (x5_4))] [] (SW V o D) := by
  intro n
  induction n with
  | zero => intro V x5_3 x5_4 h; exact h.elim
  | succ n ih =>
    intro V x5_3 x5_4 h
    refine ab_iload O dX3_firstBetween_5 rfl ?_
    refine ab_aload_n O 0 dX3_firstBetween_7 rfl rfl ?_
    refine ab_get O fl_X3_32 dX3_firstBetween_8 (at_1 _ _ _) rfl ?_
    refine ab_icmp_ge O 44 dX3_firstBetween_11 rfl (fun q1 => ?_) (fun q1 => ?_)
    · have h := h.1 q1
      exact ab_less (hk (V) (x5_3) (x5_4) h) (ab_le_n (ab_le_n (ab_le_n (ab_le_s (ab_le_n ab_le_0)))))
    · have h := h.2 q1
      refine ab_aload_n O 0 dX3_firstBetween_14 rfl rfl ?_
      refine ab_iload O dX3_firstBetween_15 rfl ?_
      refine ab_iload_n O 1 dX3_firstBetween_17 rfl rfl ?_
      refine ab_iload_n O 2 dX3_firstBetween_18 rfl rfl ?_
      refine ab_callvI O I.2.2.2.2.2.2 (fr := False) (st := []) lk_X3_56 rfl (at_1 _ _ _) dX3_firstBetween_19 (c_X3_joins (d - 1) (by omega) _ O.2.2.2.2.2.2.1 _ _ _ _ _ _ h) rfl rfl ⟨by rw [I.2.1]; show d - 1 + 1 ≤ d; omega, by rw [I.2.1]; show 8 + (_ + 11) + 36 * (d - 1) ≤ 36 * d; omega⟩ (show 0 ≤ 8 by decide) ⟨by rw [I.2.1]; show 0 + 0 ≤ 0; decide, by rw [I.2.1]; show 0 + 0 ≤ 0; decide⟩ (fun q => q.elim) (fun E u q => q.elim) (fun r3 u hu => ?_)
      obtain ⟨V2, rfl, h⟩ := hu
      refine ab_if_eq O 38 dX3_firstBetween_22 rfl (fun q4 => ?_) (fun q4 => ?_)
      · have h := h.1 q4
        refine ab_iinc O ((x5_4 + (1))) dX3_firstBetween_38 rfl rfl ?_
        refine ab_goto O 5 dX3_firstBetween_41 rfl ?_
        exact ab_less (ih (V2) (x5_3) ((x5_4 + (1))) h) (ab_le_s (ab_le_s (ab_le_s (ab_le_s (ab_le_s ab_le_0)))))
      · have h := h.2 q4
        refine ab_aload_n O 0 dX3_firstBetween_25 rfl rfl ?_
        refine ab_iload O dX3_firstBetween_26 rfl ?_
        refine ab_iload_n O 3 dX3_firstBetween_28 rfl rfl ?_
        refine ab_callvI O I.2.2.2.2.2.2 (fr := False) (st := []) lk_X3_60 rfl (at_1 _ _ _) dX3_firstBetween_29 (c_X3_comesBefore (d - 1) (by omega) _ O.2.2.2.2.2.2.1 _ _ _ _ _ h) rfl rfl ⟨by rw [I.2.1]; show d - 1 + 1 ≤ d; omega, by rw [I.2.1]; show 8 + (_ + 11) + 36 * (d - 1) ≤ 36 * d; omega⟩ (show 0 ≤ 8 by decide) ⟨by rw [I.2.1]; show 0 + 0 ≤ 0; decide, by rw [I.2.1]; show 0 + 0 ≤ 0; decide⟩ (fun q => q.elim) (fun E u q => q.elim) (fun r6 u hu => ?_)
        obtain ⟨V5, rfl, h⟩ := hu
        refine ab_if_eq O 38 dX3_firstBetween_32 rfl (fun q7 => ?_) (fun q7 => ?_)
        · have h := h.1 q7
          refine ab_iinc O ((x5_4 + (1))) dX3_firstBetween_38 rfl rfl ?_
          refine ab_goto O 5 dX3_firstBetween_41 rfl ?_
          exact ab_less (ih (V5) (x5_3) ((x5_4 + (1))) h) (ab_le_s (ab_le_s (ab_le_s (ab_le_s (ab_le_s ab_le_0)))))
        · have h := h.2 q7
          refine ab_iload O dX3_firstBetween_35 rfl ?_
          refine ab_istore_n O 3 dX3_firstBetween_37 rfl (show 3 < 5 by decide) ?_
          refine ab_iinc O ((x5_4 + (1))) dX3_firstBetween_38 rfl rfl ?_
          refine ab_goto O 5 dX3_firstBetween_41 rfl ?_
          exact ab_less (ih (V5) (x5_4) ((x5_4 + (1))) h) (ab_le_s (ab_le_s (ab_le_s (ab_le_s (ab_le_s ab_le_0)))))
set_option maxHeartbeats 4000000 in
theorem c_X3_firstBetween (d : Nat) (hd : 4 ≤ d) (l : Launch) (hl : l.stackTraces = false) (g : ab_G) (o : Nat → Int64) (D : Nat → UInt64) (a0 : Int32) (a1 : Int32) {V : Mm} {post : Int32 → Mm → Prop} (h : wp_X3_firstBetween V a0 a1 post) : Ct l g tk_strs False d 0 0 yX3_firstBetween cX3_firstBetween 5 (some .int) [.ref 1, .int a0, .int a1] (SW V o D) (tk_I g (fun r u => ∃ V : Mm, u = SW V o D ∧ post r V)) (fun _ _ => False) := by
  refine ct_in (by decide +kernel) (show 3 ≤ 5 by decide) (by simp [Value.category]) hl (fun X I O _ => ?_)
  show Ab X g 0 0 _ 0 [some (.ref (1)), some (.int (a0)), some (.int (a1)), none, none] [] _
  refine ab_iconst O (-1) dX3_firstBetween_0 rfl ?_
  refine ab_istore_n O 3 dX3_firstBetween_1 rfl (show 3 < 5 by decide) ?_
  refine ab_iconst O 0 dX3_firstBetween_2 rfl ?_
  refine ab_istore O dX3_firstBetween_3 (show 4 < 5 by decide) ?_
  obtain ⟨n9, h⟩ := h
  refine ab_less (cl_X3_firstBetween_L5 hd (a0) (a1) O I (fun V8 x9 x10 h => ?_) n9 (V) ((-1)) (0) h) (ab_le_s (ab_le_s (ab_le_s (ab_le_s (ab_le_s ab_le_0)))))
  refine ab_iload_n O 3 dX3_firstBetween_44 rfl rfl ?_
  exact ab_ireturn O I dX3_firstBetween_45 (by decide) (by decide) (by rfl) ⟨_, rfl, h⟩

def wp_X3_appendEdge (V : Mm) (a0 a1 a2 : Int32) (post : Int32 → Mm → Prop) : Prop := (((V 1 6) < 60 → (vp_in (V 1 6) 60 ∧ ∀ V2 : Mm, V2 = wr V 3 ((V 1 6)).toNatClampNeg a0 → (vp_in (V2 1 6) 60 ∧ ∀ V3 : Mm, V3 = wr V2 4 ((V2 1 6)).toNatClampNeg a1 → (vp_in (V3 1 6) 60 ∧ ∀ V4 : Mm, V4 = wr V3 5 ((V3 1 6)).toNatClampNeg a2 → (vp_in (V4 1 6) 60 ∧ ∀ V5 : Mm, V5 = wr V4 6 ((V4 1 6)).toNatClampNeg 1 → (∀ V6 : Mm, V6 = wr V5 1 6 ((V5 1 6) + 1) → post ((V6 1 6) - 1) V6)))))) ∧ (¬ (V 1 6) < 60 → post (-1) V))
set_option maxHeartbeats 4000000 in
theorem c_X3_appendEdge (d : Nat) (hd : 0 ≤ d) (l : Launch) (hl : l.stackTraces = false) (g : ab_G) (o : Nat → Int64) (D : Nat → UInt64) (a0 : Int32) (a1 : Int32) (a2 : Int32) {V : Mm} {post : Int32 → Mm → Prop} (h : wp_X3_appendEdge V a0 a1 a2 post) : Ct l g tk_strs False d 0 0 yX3_appendEdge cX3_appendEdge 4 (some .int) [.ref 1, .int a0, .int a1, .int a2] (SW V o D) (tk_I g (fun r u => ∃ V : Mm, u = SW V o D ∧ post r V)) (fun _ _ => False) := by
  refine ct_in (by decide +kernel) (show 4 ≤ 4 by decide) (by simp [Value.category]) hl (fun X I O _ => ?_)
  show Ab X g 0 0 _ 0 [some (.ref (1)), some (.int (a0)), some (.int (a1)), some (.int (a2))] [] _
  refine ab_aload_n O 0 dX3_appendEdge_0 rfl rfl ?_
  refine ab_get O fl_X3_32 dX3_appendEdge_1 (at_1 _ _ _) rfl ?_
  refine ab_bipush O 60 dX3_appendEdge_4 rfl ?_
  refine ab_icmp_lt O 11 dX3_appendEdge_6 rfl (fun q1 => ?_) (fun q1 => ?_)
  · have h := h.1 q1
    refine ab_aload_n O 0 dX3_appendEdge_11 rfl rfl ?_
    refine ab_get O fl_X3_15 dX3_appendEdge_12 (at_1 _ _ _) rfl ?_
    refine ab_aload_n O 0 dX3_appendEdge_15 rfl rfl ?_
    refine ab_get O fl_X3_32 dX3_appendEdge_16 (at_1 _ _ _) rfl ?_
    refine ab_iload_n O 1 dX3_appendEdge_19 rfl rfl ?_
    refine ab_iast O dX3_appendEdge_20 (at_3 _ _ _) h.1 ?_
    have h := h.2
    refine ab_eq ?_ rfl rfl rfl (sa_3 _ _ _ _ _).symm
    obtain ⟨V2, eV2⟩ : ∃ z : Mm, z = wr V 3 ((V 1 6)).toNatClampNeg a0 := ⟨_, rfl⟩
    rw [← eV2]
    have h := h V2 eV2
    refine ab_aload_n O 0 dX3_appendEdge_21 rfl rfl ?_
    refine ab_get O fl_X3_18 dX3_appendEdge_22 (at_1 _ _ _) rfl ?_
    refine ab_aload_n O 0 dX3_appendEdge_25 rfl rfl ?_
    refine ab_get O fl_X3_32 dX3_appendEdge_26 (at_1 _ _ _) rfl ?_
    refine ab_iload_n O 2 dX3_appendEdge_29 rfl rfl ?_
    refine ab_iast O dX3_appendEdge_30 (at_4 _ _ _) h.1 ?_
    have h := h.2
    refine ab_eq ?_ rfl rfl rfl (sa_4 _ _ _ _ _).symm
    obtain ⟨V3, eV3⟩ : ∃ z : Mm, z = wr V2 4 ((V2 1 6)).toNatClampNeg a1 := ⟨_, rfl⟩
    rw [← eV3]
    have h := h V3 eV3
    refine ab_aload_n O 0 dX3_appendEdge_31 rfl rfl ?_
    refine ab_get O fl_X3_21 dX3_appendEdge_32 (at_1 _ _ _) rfl ?_
    refine ab_aload_n O 0 dX3_appendEdge_35 rfl rfl ?_
    refine ab_get O fl_X3_32 dX3_appendEdge_36 (at_1 _ _ _) rfl ?_
    refine ab_iload_n O 3 dX3_appendEdge_39 rfl rfl ?_
    refine ab_iast O dX3_appendEdge_40 (at_5 _ _ _) h.1 ?_
    have h := h.2
    refine ab_eq ?_ rfl rfl rfl (sa_5 _ _ _ _ _).symm
    obtain ⟨V4, eV4⟩ : ∃ z : Mm, z = wr V3 5 ((V3 1 6)).toNatClampNeg a2 := ⟨_, rfl⟩
    rw [← eV4]
    have h := h V4 eV4
    refine ab_aload_n O 0 dX3_appendEdge_41 rfl rfl ?_
    refine ab_get O fl_X3_24 dX3_appendEdge_42 (at_1 _ _ _) rfl ?_
    refine ab_aload_n O 0 dX3_appendEdge_45 rfl rfl ?_
    refine ab_get O fl_X3_32 dX3_appendEdge_46 (at_1 _ _ _) rfl ?_
    refine ab_iconst O 1 dX3_appendEdge_49 rfl ?_
    refine ab_zast O dX3_appendEdge_50 (at_6 _ _ _) h.1 ?_
    have h := h.2
    refine ab_eq ?_ rfl rfl rfl (sa_6 _ _ _ _ _).symm
    show Ab _ _ _ _ _ _ _ _ (SW (wr V4 6 ((V4 1 6)).toNatClampNeg 1) _ _)
    obtain ⟨V5, eV5⟩ : ∃ z : Mm, z = wr V4 6 ((V4 1 6)).toNatClampNeg 1 := ⟨_, rfl⟩
    rw [← eV5]
    have h := h V5 eV5
    refine ab_aload_n O 0 dX3_appendEdge_51 rfl rfl ?_
    refine ab_dup O dX3_appendEdge_52 rfl ?_
    refine ab_get O fl_X3_32 dX3_appendEdge_53 (at_1 _ _ _) rfl ?_
    refine ab_iconst O 1 dX3_appendEdge_56 rfl ?_
    refine ab_iadd O dX3_appendEdge_57 ?_
    refine ab_put O fl_X3_32 cl_X3 dX3_appendEdge_58 (at_1 _ _ _) rfl .int (by decide +kernel) (fun _ => rfl) (fun _ => rfl) (show 6 < 7 by decide) ?_
    refine ab_eq ?_ rfl rfl rfl (sf_1_6 _ _ _ _).symm
    obtain ⟨V6, eV6⟩ : ∃ z : Mm, z = wr V5 1 6 ((V5 1 6) + 1) := ⟨_, rfl⟩
    rw [← eV6]
    have h := h V6 eV6
    refine ab_aload_n O 0 dX3_appendEdge_61 rfl rfl ?_
    refine ab_get O fl_X3_32 dX3_appendEdge_62 (at_1 _ _ _) rfl ?_
    refine ab_iconst O 1 dX3_appendEdge_65 rfl ?_
    refine ab_isub O dX3_appendEdge_66 ?_
    exact ab_ireturn O I dX3_appendEdge_67 (by decide) (by decide) (by rfl) ⟨_, rfl, h⟩
  · have h := h.2 q1
    refine ab_iconst O (-1) dX3_appendEdge_9 rfl ?_
    exact ab_ireturn O I dX3_appendEdge_10 (by decide) (by decide) (by rfl) ⟨_, rfl, h⟩

def wp_X3_valueOf (V : Mm) (a0 : Int32) (post : Int32 → Mm → Prop) : Prop := (wp_X3_hasVertex V (a0) (fun (r2 : Int32) (V1 : Mm) => ((r2 = 0 → post 0 V1) ∧ (¬ r2 = 0 → (vp_in a0 20 ∧ post (V1 2 (a0).toNatClampNeg) V1)))))
set_option maxHeartbeats 4000000 in
theorem c_X3_valueOf (d : Nat) (hd : 1 ≤ d) (l : Launch) (hl : l.stackTraces = false) (g : ab_G) (o : Nat → Int64) (D : Nat → UInt64) (a0 : Int32) {V : Mm} {post : Int32 → Mm → Prop} (h : wp_X3_valueOf V a0 post) : Ct l g tk_strs False d 0 0 yX3_valueOf cX3_valueOf 2 (some .int) [.ref 1, .int a0] (SW V o D) (tk_I g (fun r u => ∃ V : Mm, u = SW V o D ∧ post r V)) (fun _ _ => False) := by
  refine ct_in (by decide +kernel) (show 2 ≤ 2 by decide) (by simp [Value.category]) hl (fun X I O _ => ?_)
  show Ab X g 0 0 _ 0 [some (.ref (1)), some (.int (a0))] [] _
  refine ab_aload_n O 0 dX3_valueOf_0 rfl rfl ?_
  refine ab_iload_n O 1 dX3_valueOf_1 rfl rfl ?_
  refine ab_callvI O I.2.2.2.2.2.2 (fr := False) (st := []) lk_X3_35 rfl (at_1 _ _ _) dX3_valueOf_2 (c_X3_hasVertex (d - 1) (by omega) _ O.2.2.2.2.2.2.1 _ _ _ _ h) rfl rfl ⟨by rw [I.2.1]; show d - 1 + 1 ≤ d; omega, by rw [I.2.1]; show 8 + (_ + 11) + 36 * (d - 1) ≤ 36 * d; omega⟩ (show 0 ≤ 8 by decide) ⟨by rw [I.2.1]; show 0 + 0 ≤ 0; decide, by rw [I.2.1]; show 0 + 0 ≤ 0; decide⟩ (fun q => q.elim) (fun E u q => q.elim) (fun r2 u hu => ?_)
  obtain ⟨V1, rfl, h⟩ := hu
  refine ab_if_eq O 17 dX3_valueOf_5 rfl (fun q3 => ?_) (fun q3 => ?_)
  · have h := h.1 q3
    refine ab_iconst O 0 dX3_valueOf_17 rfl ?_
    exact ab_ireturn O I dX3_valueOf_18 (by decide) (by decide) (by rfl) ⟨_, rfl, h⟩
  · have h := h.2 q3
    refine ab_aload_n O 0 dX3_valueOf_8 rfl rfl ?_
    refine ab_get O fl_X3_9 dX3_valueOf_9 (at_1 _ _ _) rfl ?_
    refine ab_iload_n O 1 dX3_valueOf_12 rfl rfl ?_
    refine ab_iald O dX3_valueOf_13 (at_2 _ _ _) h.1 ?_
    have h := h.2
    refine ab_goto O 18 dX3_valueOf_14 rfl ?_
    exact ab_ireturn O I dX3_valueOf_18 (by decide) (by decide) (by rfl) ⟨_, rfl, h⟩

def wp_X8_requireVertex (V : Mm) (a0 : Int32) (post : Mm → Prop) (px : String → Mm → Prop) : Prop := (wp_X3_hasVertex V (a0) (fun (r2 : Int32) (V1 : Mm) => ((r2 = 0 → px "java/lang/IndexOutOfBoundsException" V1) ∧ (¬ r2 = 0 → post V1))))
set_option maxHeartbeats 4000000 in
theorem c_X8_requireVertex (d : Nat) (hd : 6 ≤ d) (l : Launch) (hl : l.stackTraces = false) (g : ab_G) (o : Nat → Int64) (D : Nat → UInt64) (a0 : Int32) {V : Mm} {px : String → Mm → Prop} {post : Mm → Prop} (h : wp_X8_requireVertex V a0 post px) : Ct l g tk_strs False d 1 6 yX8_requireVertex cX8_requireVertex 2 none [.ref 0, .int a0] (SW V o D) (tk_V g (fun u => ∃ V : Mm, u = SW V o D ∧ post V)) (fun E u => ∃ V : Mm, u = SW V o D ∧ px E V) := by
  refine ct_in (by decide +kernel) (show 2 ≤ 2 by decide) (by simp [Value.category]) hl (fun X I O _ => ?_)
  show Ab X g 0 0 _ 0 [some (.ref (0)), some (.int (a0))] [] _
  refine ab_aload_n O 0 dX8_requireVertex_0 rfl rfl ?_
  refine ab_get O fl_X8_10 dX8_requireVertex_1 (at_0 _ _ _) rfl ?_
  refine ab_iload_n O 1 dX8_requireVertex_4 rfl rfl ?_
  refine ab_callvI O I.2.2.2.2.2.2 (fr := False) (st := []) lk_X8_304 rfl (at_1 _ _ _) dX8_requireVertex_5 (c_X3_hasVertex (d - 1) (by omega) _ O.2.2.2.2.2.2.1 _ _ _ _ h) rfl rfl ⟨by rw [I.2.1]; show d - 1 + 1 ≤ d; omega, by rw [I.2.1]; show 8 + (_ + 11) + 36 * (d - 1) ≤ 36 * d; omega⟩ (show 0 ≤ 8 by decide) ⟨by rw [I.2.1]; show 0 + 0 ≤ 1; decide, by rw [I.2.1]; show 0 + 0 ≤ 6; decide⟩ (fun q => q.elim) (fun E u q => q.elim) (fun r2 u hu => ?_)
  obtain ⟨V1, rfl, h⟩ := hu
  refine ab_if_ne O 22 dX8_requireVertex_8 rfl (fun q3 => ?_) (fun q3 => ?_)
  · have h := h.2 q3
    exact ab_return O I dX8_requireVertex_22 (by decide) (by decide) ⟨_, rfl, h⟩
  · have h := h.1 q3
    exact ab_throwW O I th_X8_307 (show (RX8, 309, "there is no such vertex") ∈ tk_strs by decide +kernel) dX8_requireVertex_11 dX8_requireVertex_14 dX8_requireVertex_15 dX8_requireVertex_18 dX8_requireVertex_21 (show 5 < d by omega) (show 0 + 82 ≤ 36 * d by omega) (show 0 + 1 ≤ 1 by decide) (show 0 + 6 ≤ 6 by decide) ⟨_, rfl, h⟩

def wp_X0_edgeJoining (V : Mm) (a0 a1 : Int32) (post : Int32 → Mm → Prop) : Prop := (wp_X3_hasVertex V (a0) (fun (r2 : Int32) (V1 : Mm) => ((r2 = 0 → post (-1) V1) ∧ (¬ r2 = 0 → (wp_X3_hasVertex V1 (a1) (fun (r5 : Int32) (V4 : Mm) => ((r5 = 0 → post (-1) V4) ∧ (¬ r5 = 0 → (vp_in a0 20 ∧ (vp_in a1 20 ∧ post (V4 (9 + (a0).toNatClampNeg) (a1).toNatClampNeg) V4))))))))))
set_option maxHeartbeats 4000000 in
theorem c_X0_edgeJoining (d : Nat) (hd : 1 ≤ d) (l : Launch) (hl : l.stackTraces = false) (g : ab_G) (o : Nat → Int64) (D : Nat → UInt64) (a0 : Int32) (a1 : Int32) {V : Mm} {post : Int32 → Mm → Prop} (h : wp_X0_edgeJoining V a0 a1 post) : Ct l g tk_strs False d 0 0 yX0_edgeJoining cX0_edgeJoining 3 (some .int) [.ref 7, .int a0, .int a1] (SW V o D) (tk_I g (fun r u => ∃ V : Mm, u = SW V o D ∧ post r V)) (fun _ _ => False) := by
  refine ct_in (by decide +kernel) (show 3 ≤ 3 by decide) (by simp [Value.category]) hl (fun X I O _ => ?_)
  show Ab X g 0 0 _ 0 [some (.ref (7)), some (.int (a0)), some (.int (a1))] [] _
  refine ab_aload_n O 0 dX0_edgeJoining_0 rfl rfl ?_
  refine ab_get O fl_X0_23 dX0_edgeJoining_1 (at_7 _ _ _) rfl ?_
  refine ab_iload_n O 1 dX0_edgeJoining_4 rfl rfl ?_
  refine ab_callvI O I.2.2.2.2.2.2 (fr := False) (st := []) lk_X0_33 rfl (at_1 _ _ _) dX0_edgeJoining_5 (c_X3_hasVertex (d - 1) (by omega) _ O.2.2.2.2.2.2.1 _ _ _ _ h) rfl rfl ⟨by rw [I.2.1]; show d - 1 + 1 ≤ d; omega, by rw [I.2.1]; show 8 + (_ + 11) + 36 * (d - 1) ≤ 36 * d; omega⟩ (show 0 ≤ 8 by decide) ⟨by rw [I.2.1]; show 0 + 0 ≤ 0; decide, by rw [I.2.1]; show 0 + 0 ≤ 0; decide⟩ (fun q => q.elim) (fun E u q => q.elim) (fun r2 u hu => ?_)
  obtain ⟨V1, rfl, h⟩ := hu
  refine ab_if_eq O 22 dX0_edgeJoining_8 rfl (fun q3 => ?_) (fun q3 => ?_)
  · have h := h.1 q3
    refine ab_iconst O (-1) dX0_edgeJoining_22 rfl ?_
    exact ab_ireturn O I dX0_edgeJoining_23 (by decide) (by decide) (by rfl) ⟨_, rfl, h⟩
  · have h := h.2 q3
    refine ab_aload_n O 0 dX0_edgeJoining_11 rfl rfl ?_
    refine ab_get O fl_X0_23 dX0_edgeJoining_12 (at_7 _ _ _) rfl ?_
    refine ab_iload_n O 2 dX0_edgeJoining_15 rfl rfl ?_
    refine ab_callvI O I.2.2.2.2.2.2 (fr := False) (st := []) lk_X0_33 rfl (at_1 _ _ _) dX0_edgeJoining_16 (c_X3_hasVertex (d - 1) (by omega) _ O.2.2.2.2.2.2.1 _ _ _ _ h) rfl rfl ⟨by rw [I.2.1]; show d - 1 + 1 ≤ d; omega, by rw [I.2.1]; show 8 + (_ + 11) + 36 * (d - 1) ≤ 36 * d; omega⟩ (show 0 ≤ 8 by decide) ⟨by rw [I.2.1]; show 0 + 0 ≤ 0; decide, by rw [I.2.1]; show 0 + 0 ≤ 0; decide⟩ (fun q => q.elim) (fun E u q => q.elim) (fun r5 u hu => ?_)
    obtain ⟨V4, rfl, h⟩ := hu
    refine ab_if_ne O 24 dX0_edgeJoining_19 rfl (fun q6 => ?_) (fun q6 => ?_)
    · have h := h.2 q6
      refine ab_aload_n O 0 dX0_edgeJoining_24 rfl rfl ?_
      refine ab_get O fl_X0_11 dX0_edgeJoining_25 (at_7 _ _ _) rfl ?_
      refine ab_iload_n O 1 dX0_edgeJoining_28 rfl rfl ?_
      have b7 := h.1
      have h := h.2
      refine ab_aald O dX0_edgeJoining_29 (at_8 _ _ _) b7 (if_pos (Nat.not_le.mp fun q => b7 (Or.inr q))) ?_
      refine ab_iload_n O 2 dX0_edgeJoining_30 rfl rfl ?_
      refine ab_iald O dX0_edgeJoining_31 (at_r9 _ _ _ _ (Nat.not_le.mp fun q => b7 (Or.inr q))) h.1 ?_
      have h := h.2
      exact ab_ireturn O I dX0_edgeJoining_32 (by decide) (by decide) (by rfl) ⟨_, rfl, h⟩
    · have h := h.1 q6
      refine ab_iconst O (-1) dX0_edgeJoining_22 rfl ?_
      exact ab_ireturn O I dX0_edgeJoining_23 (by decide) (by decide) (by rfl) ⟨_, rfl, h⟩

def wp_X8_requireVertices (V : Mm) (a0 a1 : Int32) (post : Mm → Prop) (px : String → Mm → Prop) : Prop := (wp_X8_requireVertex V (a0) (fun (V1 : Mm) => (wp_X8_requireVertex V1 (a1) (fun (V2 : Mm) => post V2) px)) px)
set_option maxHeartbeats 4000000 in
theorem c_X8_requireVertices (d : Nat) (hd : 7 ≤ d) (l : Launch) (hl : l.stackTraces = false) (g : ab_G) (o : Nat → Int64) (D : Nat → UInt64) (a0 : Int32) (a1 : Int32) {V : Mm} {px : String → Mm → Prop} {post : Mm → Prop} (h : wp_X8_requireVertices V a0 a1 post px) : Ct l g tk_strs False d 2 12 yX8_requireVertices cX8_requireVertices 3 none [.ref 0, .int a0, .int a1] (SW V o D) (tk_V g (fun u => ∃ V : Mm, u = SW V o D ∧ post V)) (fun E u => ∃ V : Mm, u = SW V o D ∧ px E V) := by
  refine ct_in (by decide +kernel) (show 3 ≤ 3 by decide) (by simp [Value.category]) hl (fun X I O _ => ?_)
  show Ab X g 0 0 _ 0 [some (.ref (0)), some (.int (a0)), some (.int (a1))] [] _
  refine ab_aload_n O 0 dX8_requireVertices_0 rfl rfl ?_
  refine ab_iload_n O 1 dX8_requireVertices_1 rfl rfl ?_
  refine ab_callvV O I.2.2.2.2.2.2 (fr := False) (st := []) lk_X8_92 rfl (at_0 _ _ _) dX8_requireVertices_2 (c_X8_requireVertex (d - 1) (by omega) _ O.2.2.2.2.2.2.1 _ _ _ _ h) rfl rfl ⟨by rw [I.2.1]; show d - 1 + 1 ≤ d; omega, by rw [I.2.1]; show 8 + (_ + 11) + 36 * (d - 1) ≤ 36 * d; omega⟩ (show 0 ≤ 8 by decide) ⟨by rw [I.2.1]; show 0 + 1 ≤ 2; decide, by rw [I.2.1]; show 0 + 6 ≤ 12; decide⟩ (fun q => q.elim) (fun E u q => by obtain ⟨V9, rfl, q⟩ := q; exact abx_out O I (by decide) (by decide) ⟨V9, rfl, q⟩) (fun u hu => ?_)
  obtain ⟨V1, rfl, h⟩ := hu
  refine ab_aload_n O 0 dX8_requireVertices_5 rfl rfl ?_
  refine ab_iload_n O 2 dX8_requireVertices_6 rfl rfl ?_
  refine ab_callvV O I.2.2.2.2.2.2 (fr := False) (st := []) lk_X8_92 rfl (at_0 _ _ _) dX8_requireVertices_7 (c_X8_requireVertex (d - 1) (by omega) _ O.2.2.2.2.2.2.1 _ _ _ _ h) rfl rfl ⟨by rw [I.2.1]; show d - 1 + 1 ≤ d; omega, by rw [I.2.1]; show 8 + (_ + 11) + 36 * (d - 1) ≤ 36 * d; omega⟩ (show 0 ≤ 8 by decide) ⟨by rw [I.2.1]; show 1 + 1 ≤ 2; decide, by rw [I.2.1]; show 6 + 6 ≤ 12; decide⟩ (fun q => q.elim) (fun E u q => by obtain ⟨V9, rfl, q⟩ := q; exact abx_out O I (by decide) (by decide) ⟨V9, rfl, q⟩) (fun u hu => ?_)
  obtain ⟨V2, rfl, h⟩ := hu
  exact ab_return O I dX8_requireVertices_10 (by decide) (by decide) ⟨_, rfl, h⟩

def wp_X7_reach (V : Mm) (a0 a1 a2 : Int32) (post : Mm → Prop) : Prop := (wp_X3_hasVertex V (a0) (fun (r2 : Int32) (V1 : Mm) => ((r2 = 0 → post V1) ∧ (¬ r2 = 0 → (vp_in a0 20 ∧ (((V1 31 (a0).toNatClampNeg) = (-1) → (((V1 29 7) < 20 → (vp_in (V1 29 7) 20 ∧ ∀ V6 : Mm, V6 = wr V1 30 ((V1 29 7)).toNatClampNeg a0 → (∀ V7 : Mm, V7 = wr V6 29 7 ((V6 29 7) + 1) → (vp_in a0 20 ∧ ∀ V8 : Mm, V8 = wr V7 31 (a0).toNatClampNeg 0 → (vp_in a0 20 ∧ ∀ V9 : Mm, V9 = wr V8 32 (a0).toNatClampNeg a1 → (wp_X3_valueOf V9 (a0) (fun (r11 : Int32) (V10 : Mm) => (vp_in a0 20 ∧ ∀ V12 : Mm, V12 = wr V10 33 (a0).toNatClampNeg r11 → (vp_in a0 20 ∧ ∀ V13 : Mm, V13 = wr V12 34 (a0).toNatClampNeg a2 → (wp_X3_hasVertex V13 (a1) (fun (r15 : Int32) (V14 : Mm) => ((r15 = 0 → post V14) ∧ (¬ r15 = 0 → (vp_in a1 20 ∧ (vp_in a1 20 ∧ (vp_in a0 20 ∧ ∀ V17 : Mm, V17 = wr V14 31 (a0).toNatClampNeg ((V14 31 (a1).toNatClampNeg) + 1) → (vp_in a0 20 ∧ (vp_in a1 20 ∧ (vp_in a0 20 ∧ ∀ V18 : Mm, V18 = wr V17 33 (a0).toNatClampNeg ((V17 33 (a0).toNatClampNeg) + (V17 33 (a1).toNatClampNeg)) → (((V14 34 (a1).toNatClampNeg) = (-1) → post V18) ∧ (¬ (V14 34 (a1).toNatClampNeg) = (-1) → (wp_X3_comesBefore V18 (a2) ((V14 34 (a1).toNatClampNeg)) (fun (r21 : Int32) (V20 : Mm) => ((r21 = 0 → post V20) ∧ (¬ r21 = 0 → (vp_in a0 20 ∧ ∀ V23 : Mm, V23 = wr V20 34 (a0).toNatClampNeg (V14 34 (a1).toNatClampNeg) → post V23)))))))))))))))))))))))))) ∧ (¬ (V1 29 7) < 20 → post V1))) ∧ (¬ (V1 31 (a0).toNatClampNeg) = (-1) → post V1)))))))
set_option maxHeartbeats 4000000 in
theorem c_X7_reach (d : Nat) (hd : 2 ≤ d) (l : Launch) (hl : l.stackTraces = false) (g : ab_G) (o : Nat → Int64) (D : Nat → UInt64) (a0 : Int32) (a1 : Int32) (a2 : Int32) {V : Mm} {post : Mm → Prop} (h : wp_X7_reach V a0 a1 a2 post) : Ct l g tk_strs False d 0 0 yX7_reach cX7_reach 5 none [.ref 29, .int a0, .int a1, .int a2] (SW V o D) (tk_V g (fun u => ∃ V : Mm, u = SW V o D ∧ post V)) (fun _ _ => False) := by
  refine ct_in (by decide +kernel) (show 4 ≤ 5 by decide) (by simp [Value.category]) hl (fun X I O _ => ?_)
  show Ab X g 0 0 _ 0 [some (.ref (29)), some (.int (a0)), some (.int (a1)), some (.int (a2)), none] [] _
  refine ab_aload_n O 0 dX7_reach_0 rfl rfl ?_
  refine ab_get O fl_X7_31 dX7_reach_1 (at_29 _ _ _) rfl ?_
  refine ab_iload_n O 1 dX7_reach_4 rfl rfl ?_
  refine ab_callvI O I.2.2.2.2.2.2 (fr := False) (st := []) lk_X7_61 rfl (at_1 _ _ _) dX7_reach_5 (c_X3_hasVertex (d - 1) (by omega) _ O.2.2.2.2.2.2.1 _ _ _ _ h) rfl rfl ⟨by rw [I.2.1]; show d - 1 + 1 ≤ d; omega, by rw [I.2.1]; show 8 + (_ + 11) + 36 * (d - 1) ≤ 36 * d; omega⟩ (show 0 ≤ 8 by decide) ⟨by rw [I.2.1]; show 0 + 0 ≤ 0; decide, by rw [I.2.1]; show 0 + 0 ≤ 0; decide⟩ (fun q => q.elim) (fun E u q => q.elim) (fun r2 u hu => ?_)
  obtain ⟨V1, rfl, h⟩ := hu
  refine ab_if_eq O 30 dX7_reach_8 rfl (fun q3 => ?_) (fun q3 => ?_)
  · have h := h.1 q3
    exact ab_return O I dX7_reach_30 (by decide) (by decide) ⟨_, rfl, h⟩
  · have h := h.2 q3
    refine ab_aload_n O 0 dX7_reach_11 rfl rfl ?_
    refine ab_get O fl_X7_15 dX7_reach_12 (at_29 _ _ _) rfl ?_
    refine ab_iload_n O 1 dX7_reach_15 rfl rfl ?_
    refine ab_iald O dX7_reach_16 (at_31 _ _ _) h.1 ?_
    have h := h.2
    refine ab_iconst O (-1) dX7_reach_17 rfl ?_
    refine ab_icmp_ne O 30 dX7_reach_18 rfl (fun q4 => ?_) (fun q4 => ?_)
    · have h := h.2 q4
      exact ab_return O I dX7_reach_30 (by decide) (by decide) ⟨_, rfl, h⟩
    · have h := h.1 q4
      refine ab_aload_n O 0 dX7_reach_21 rfl rfl ?_
      refine ab_get O fl_X7_27 dX7_reach_22 (at_29 _ _ _) rfl ?_
      refine ab_bipush O 20 dX7_reach_25 rfl ?_
      refine ab_icmp_lt O 31 dX7_reach_27 rfl (fun q5 => ?_) (fun q5 => ?_)
      · have h := h.1 q5
        refine ab_aload_n O 0 dX7_reach_31 rfl rfl ?_
        refine ab_get O fl_X7_9 dX7_reach_32 (at_29 _ _ _) rfl ?_
        refine ab_aload_n O 0 dX7_reach_35 rfl rfl ?_
        refine ab_get O fl_X7_27 dX7_reach_36 (at_29 _ _ _) rfl ?_
        refine ab_iload_n O 1 dX7_reach_39 rfl rfl ?_
        refine ab_iast O dX7_reach_40 (at_30 _ _ _) h.1 ?_
        have h := h.2
        refine ab_eq ?_ rfl rfl rfl (sa_30 _ _ _ _ _).symm
        obtain ⟨V6, eV6⟩ : ∃ z : Mm, z = wr V1 30 ((V1 29 7)).toNatClampNeg a0 := ⟨_, rfl⟩
        rw [← eV6]
        have h := h V6 eV6
        refine ab_aload_n O 0 dX7_reach_41 rfl rfl ?_
        refine ab_dup O dX7_reach_42 rfl ?_
        refine ab_get O fl_X7_27 dX7_reach_43 (at_29 _ _ _) rfl ?_
        refine ab_iconst O 1 dX7_reach_46 rfl ?_
        refine ab_iadd O dX7_reach_47 ?_
        refine ab_put O fl_X7_27 cl_X7 dX7_reach_48 (at_29 _ _ _) rfl .int (by decide +kernel) (fun _ => rfl) (fun _ => rfl) (show 7 < 8 by decide) ?_
        refine ab_eq ?_ rfl rfl rfl (sf_29_7 _ _ _ _).symm
        obtain ⟨V7, eV7⟩ : ∃ z : Mm, z = wr V6 29 7 ((V6 29 7) + 1) := ⟨_, rfl⟩
        rw [← eV7]
        have h := h V7 eV7
        refine ab_aload_n O 0 dX7_reach_51 rfl rfl ?_
        refine ab_get O fl_X7_15 dX7_reach_52 (at_29 _ _ _) rfl ?_
        refine ab_iload_n O 1 dX7_reach_55 rfl rfl ?_
        refine ab_iconst O 0 dX7_reach_56 rfl ?_
        refine ab_iast O dX7_reach_57 (at_31 _ _ _) h.1 ?_
        have h := h.2
        refine ab_eq ?_ rfl rfl rfl (sa_31 _ _ _ _ _).symm
        obtain ⟨V8, eV8⟩ : ∃ z : Mm, z = wr V7 31 (a0).toNatClampNeg 0 := ⟨_, rfl⟩
        rw [← eV8]
        have h := h V8 eV8
        refine ab_aload_n O 0 dX7_reach_58 rfl rfl ?_
        refine ab_get O fl_X7_18 dX7_reach_59 (at_29 _ _ _) rfl ?_
        refine ab_iload_n O 1 dX7_reach_62 rfl rfl ?_
        refine ab_iload_n O 2 dX7_reach_63 rfl rfl ?_
        refine ab_iast O dX7_reach_64 (at_32 _ _ _) h.1 ?_
        have h := h.2
        refine ab_eq ?_ rfl rfl rfl (sa_32 _ _ _ _ _).symm
        obtain ⟨V9, eV9⟩ : ∃ z : Mm, z = wr V8 32 (a0).toNatClampNeg a1 := ⟨_, rfl⟩
        rw [← eV9]
        have h := h V9 eV9
        refine ab_aload_n O 0 dX7_reach_65 rfl rfl ?_
        refine ab_get O fl_X7_21 dX7_reach_66 (at_29 _ _ _) rfl ?_
        refine ab_iload_n O 1 dX7_reach_69 rfl rfl ?_
        refine ab_aload_n O 0 dX7_reach_70 rfl rfl ?_
        refine ab_get O fl_X7_31 dX7_reach_71 (at_29 _ _ _) rfl ?_
        refine ab_iload_n O 1 dX7_reach_74 rfl rfl ?_
        refine ab_callvI O I.2.2.2.2.2.2 (fr := False) (st := [.int (a0), .ref (33)]) lk_X7_65 rfl (at_1 _ _ _) dX7_reach_75 (c_X3_valueOf (d - 1) (by omega) _ O.2.2.2.2.2.2.1 _ _ _ _ h) rfl rfl ⟨by rw [I.2.1]; show d - 1 + 1 ≤ d; omega, by rw [I.2.1]; show 8 + (_ + 11) + 36 * (d - 1) ≤ 36 * d; omega⟩ (show 2 ≤ 8 by decide) ⟨by rw [I.2.1]; show 0 + 0 ≤ 0; decide, by rw [I.2.1]; show 0 + 0 ≤ 0; decide⟩ (fun q => q.elim) (fun E u q => q.elim) (fun r11 u hu => ?_)
        obtain ⟨V10, rfl, h⟩ := hu
        refine ab_iast O dX7_reach_78 (at_33 _ _ _) h.1 ?_
        have h := h.2
        refine ab_eq ?_ rfl rfl rfl (sa_33 _ _ _ _ _).symm
        obtain ⟨V12, eV12⟩ : ∃ z : Mm, z = wr V10 33 (a0).toNatClampNeg r11 := ⟨_, rfl⟩
        rw [← eV12]
        have h := h V12 eV12
        refine ab_aload_n O 0 dX7_reach_79 rfl rfl ?_
        refine ab_get O fl_X7_24 dX7_reach_80 (at_29 _ _ _) rfl ?_
        refine ab_iload_n O 1 dX7_reach_83 rfl rfl ?_
        refine ab_iload_n O 3 dX7_reach_84 rfl rfl ?_
        refine ab_iast O dX7_reach_85 (at_34 _ _ _) h.1 ?_
        have h := h.2
        refine ab_eq ?_ rfl rfl rfl (sa_34 _ _ _ _ _).symm
        obtain ⟨V13, eV13⟩ : ∃ z : Mm, z = wr V12 34 (a0).toNatClampNeg a2 := ⟨_, rfl⟩
        rw [← eV13]
        have h := h V13 eV13
        refine ab_aload_n O 0 dX7_reach_86 rfl rfl ?_
        refine ab_get O fl_X7_31 dX7_reach_87 (at_29 _ _ _) rfl ?_
        refine ab_iload_n O 2 dX7_reach_90 rfl rfl ?_
        refine ab_callvI O I.2.2.2.2.2.2 (fr := False) (st := []) lk_X7_61 rfl (at_1 _ _ _) dX7_reach_91 (c_X3_hasVertex (d - 1) (by omega) _ O.2.2.2.2.2.2.1 _ _ _ _ h) rfl rfl ⟨by rw [I.2.1]; show d - 1 + 1 ≤ d; omega, by rw [I.2.1]; show 8 + (_ + 11) + 36 * (d - 1) ≤ 36 * d; omega⟩ (show 0 ≤ 8 by decide) ⟨by rw [I.2.1]; show 0 + 0 ≤ 0; decide, by rw [I.2.1]; show 0 + 0 ≤ 0; decide⟩ (fun q => q.elim) (fun E u q => q.elim) (fun r15 u hu => ?_)
        obtain ⟨V14, rfl, h⟩ := hu
        refine ab_if_eq O 161 dX7_reach_94 rfl (fun q16 => ?_) (fun q16 => ?_)
        · have h := h.1 q16
          exact ab_return O I dX7_reach_161 (by decide) (by decide) ⟨_, rfl, h⟩
        · have h := h.2 q16
          refine ab_aload_n O 0 dX7_reach_97 rfl rfl ?_
          refine ab_get O fl_X7_24 dX7_reach_98 (at_29 _ _ _) rfl ?_
          refine ab_iload_n O 2 dX7_reach_101 rfl rfl ?_
          refine ab_iald O dX7_reach_102 (at_34 _ _ _) h.1 ?_
          have h := h.2
          refine ab_istore O dX7_reach_103 (show 4 < 5 by decide) ?_
          refine ab_aload_n O 0 dX7_reach_105 rfl rfl ?_
          refine ab_get O fl_X7_15 dX7_reach_106 (at_29 _ _ _) rfl ?_
          refine ab_iload_n O 1 dX7_reach_109 rfl rfl ?_
          refine ab_aload_n O 0 dX7_reach_110 rfl rfl ?_
          refine ab_get O fl_X7_15 dX7_reach_111 (at_29 _ _ _) rfl ?_
          refine ab_iload_n O 2 dX7_reach_114 rfl rfl ?_
          refine ab_iald O dX7_reach_115 (at_31 _ _ _) h.1 ?_
          have h := h.2
          refine ab_iconst O 1 dX7_reach_116 rfl ?_
          refine ab_iadd O dX7_reach_117 ?_
          refine ab_iast O dX7_reach_118 (at_31 _ _ _) h.1 ?_
          have h := h.2
          refine ab_eq ?_ rfl rfl rfl (sa_31 _ _ _ _ _).symm
          obtain ⟨V17, eV17⟩ : ∃ z : Mm, z = wr V14 31 (a0).toNatClampNeg ((V14 31 (a1).toNatClampNeg) + 1) := ⟨_, rfl⟩
          rw [← eV17]
          have h := h V17 eV17
          refine ab_aload_n O 0 dX7_reach_119 rfl rfl ?_
          refine ab_get O fl_X7_21 dX7_reach_120 (at_29 _ _ _) rfl ?_
          refine ab_iload_n O 1 dX7_reach_123 rfl rfl ?_
          refine ab_dup2 O dX7_reach_124 rfl rfl ?_
          refine ab_iald O dX7_reach_125 (at_33 _ _ _) h.1 ?_
          have h := h.2
          refine ab_aload_n O 0 dX7_reach_126 rfl rfl ?_
          refine ab_get O fl_X7_21 dX7_reach_127 (at_29 _ _ _) rfl ?_
          refine ab_iload_n O 2 dX7_reach_130 rfl rfl ?_
          refine ab_iald O dX7_reach_131 (at_33 _ _ _) h.1 ?_
          have h := h.2
          refine ab_iadd O dX7_reach_132 ?_
          refine ab_iast O dX7_reach_133 (at_33 _ _ _) h.1 ?_
          have h := h.2
          refine ab_eq ?_ rfl rfl rfl (sa_33 _ _ _ _ _).symm
          obtain ⟨V18, eV18⟩ : ∃ z : Mm, z = wr V17 33 (a0).toNatClampNeg ((V17 33 (a0).toNatClampNeg) + (V17 33 (a1).toNatClampNeg)) := ⟨_, rfl⟩
          rw [← eV18]
          have h := h V18 eV18
          refine ab_iload O dX7_reach_134 rfl ?_
          refine ab_iconst O (-1) dX7_reach_136 rfl ?_
          refine ab_icmp_eq O 161 dX7_reach_137 rfl (fun q19 => ?_) (fun q19 => ?_)
          · have h := h.1 q19
            exact ab_return O I dX7_reach_161 (by decide) (by decide) ⟨_, rfl, h⟩
          · have h := h.2 q19
            refine ab_aload_n O 0 dX7_reach_140 rfl rfl ?_
            refine ab_get O fl_X7_31 dX7_reach_141 (at_29 _ _ _) rfl ?_
            refine ab_iload_n O 3 dX7_reach_144 rfl rfl ?_
            refine ab_iload O dX7_reach_145 rfl ?_
            refine ab_callvI O I.2.2.2.2.2.2 (fr := False) (st := []) lk_X7_69 rfl (at_1 _ _ _) dX7_reach_147 (c_X3_comesBefore (d - 1) (by omega) _ O.2.2.2.2.2.2.1 _ _ _ _ _ h) rfl rfl ⟨by rw [I.2.1]; show d - 1 + 1 ≤ d; omega, by rw [I.2.1]; show 8 + (_ + 11) + 36 * (d - 1) ≤ 36 * d; omega⟩ (show 0 ≤ 8 by decide) ⟨by rw [I.2.1]; show 0 + 0 ≤ 0; decide, by rw [I.2.1]; show 0 + 0 ≤ 0; decide⟩ (fun q => q.elim) (fun E u q => q.elim) (fun r21 u hu => ?_)
            obtain ⟨V20, rfl, h⟩ := hu
            refine ab_if_eq O 161 dX7_reach_150 rfl (fun q22 => ?_) (fun q22 => ?_)
            · have h := h.1 q22
              exact ab_return O I dX7_reach_161 (by decide) (by decide) ⟨_, rfl, h⟩
            · have h := h.2 q22
              refine ab_aload_n O 0 dX7_reach_153 rfl rfl ?_
              refine ab_get O fl_X7_24 dX7_reach_154 (at_29 _ _ _) rfl ?_
              refine ab_iload_n O 1 dX7_reach_157 rfl rfl ?_
              refine ab_iload O dX7_reach_158 rfl ?_
              refine ab_iast O dX7_reach_160 (at_34 _ _ _) h.1 ?_
              have h := h.2
              refine ab_eq ?_ rfl rfl rfl (sa_34 _ _ _ _ _).symm
              obtain ⟨V23, eV23⟩ : ∃ z : Mm, z = wr V20 34 (a0).toNatClampNeg (V14 34 (a1).toNatClampNeg) := ⟨_, rfl⟩
              rw [← eV23]
              have h := h V23 eV23
              exact ab_return O I dX7_reach_161 (by decide) (by decide) ⟨_, rfl, h⟩
      · have h := h.2 q5
        exact ab_return O I dX7_reach_30 (by decide) (by decide) ⟨_, rfl, h⟩

def wp_X3_vertexCount (V : Mm) (post : Int32 → Mm → Prop) : Prop := post (V 1 5) V
set_option maxHeartbeats 4000000 in
theorem c_X3_vertexCount (d : Nat) (hd : 0 ≤ d) (l : Launch) (hl : l.stackTraces = false) (g : ab_G) (o : Nat → Int64) (D : Nat → UInt64) {V : Mm} {post : Int32 → Mm → Prop} (h : wp_X3_vertexCount V post) : Ct l g tk_strs False d 0 0 yX3_vertexCount cX3_vertexCount 1 (some .int) [.ref 1] (SW V o D) (tk_I g (fun r u => ∃ V : Mm, u = SW V o D ∧ post r V)) (fun _ _ => False) := by
  refine ct_in (by decide +kernel) (show 1 ≤ 1 by decide) (by simp [Value.category]) hl (fun X I O _ => ?_)
  show Ab X g 0 0 _ 0 [some (.ref (1))] [] _
  refine ab_aload_n O 0 dX3_vertexCount_0 rfl rfl ?_
  refine ab_get O fl_X3_28 dX3_vertexCount_1 (at_1 _ _ _) rfl ?_
  exact ab_ireturn O I dX3_vertexCount_4 (by decide) (by decide) (by rfl) ⟨_, rfl, h⟩

def wp_X7_plant_L47 (y47_2 y47_3 : Int32) (post : Mm → Prop) (kx : Mm → Int32 → Prop) : Nat → Mm → Int32 → Prop
  | 0, _, _ => False
  | n47 + 1, V, x47_4 => (wp_X3_vertexCount V (fun (r8 : Int32) (V7 : Mm) => ((r8 ≤ x47_4 → kx (V7) (x47_4)) ∧ (¬ r8 ≤ x47_4 → (vp_in y47_3 20 ∧ (wp_X0_edgeJoining V7 ((V7 30 (y47_3).toNatClampNeg)) (x47_4) (fun (r11 : Int32) (V10 : Mm) => ((r11 = (-1) → wp_X7_plant_L47 y47_2 y47_3 post kx n47 (V10) ((x47_4 + (1)))) ∧ (¬ r11 = (-1) → ((r11 = y47_2 → wp_X7_plant_L47 y47_2 y47_3 post kx n47 (V10) ((x47_4 + (1)))) ∧ (¬ r11 = y47_2 → (vp_in y47_3 20 ∧ (wp_X7_reach V10 (x47_4) ((V10 30 (y47_3).toNatClampNeg)) (r11) (fun (V14 : Mm) => wp_X7_plant_L47 y47_2 y47_3 post kx n47 (V14) ((x47_4 + (1)))))))))))))))))

def wp_X7_plant_L30 (y30_2 : Int32) (post : Mm → Prop) (kx : Mm → Int32 → Prop) : Nat → Mm → Int32 → Prop
  | 0, _, _ => False
  | n30 + 1, V, x30_3 => ((20 ≤ x30_3 → kx (V) (x30_3)) ∧ (¬ 20 ≤ x30_3 → (((V 29 7) ≤ x30_3 → kx (V) (x30_3)) ∧ (¬ (V 29 7) ≤ x30_3 → (∃ m47 : Nat, wp_X7_plant_L47 (y30_2) (x30_3) post (fun (V15 : Mm) (x16 : Int32) => wp_X7_plant_L30 y30_2 post kx n30 (V15) ((x30_3 + (1)))) m47 (V) (0))))))

def wp_X7_plant (V : Mm) (a0 a1 : Int32) (post : Mm → Prop) : Prop := (∀ V1 : Mm, V1 = wr V 29 7 0 → (∀ V2 : Mm, V2 = wfill V1 31 20 (-1) → (∀ V3 : Mm, V3 = wfill V2 32 20 (-1) → (wp_X7_reach V3 (a0) ((-1)) ((-1)) (fun (V4 : Mm) => (∃ m30 : Nat, wp_X7_plant_L30 (a1) post (fun (V17 : Mm) (x18 : Int32) => post V17) m30 (V4) (0)))))))
set_option maxHeartbeats 4000000 in
theorem cl_X7_plant_L47 {X : ab_M} {g : ab_G} {l : Launch} {d : Nat} (hd : 3 ≤ d) (y47_2 y47_3 : Int32) {post : Mm → Prop} {kx : Mm → Int32 → Prop} {o : Nat → Int64} {D : Nat → UInt64} (O : ab_Ok X g cX7_plant RX7) (I : ab_I X l tk_strs 6 none yX7_plant.name d 0 0) (hk : ∀ (V : Mm) (x47_4 : Int32), kx V x47_4 → Ab X g 0 0 (tk_Q X g (tk_V g (fun u => ∃ V : Mm, u = SW V o D ∧ post V)) (fun _ _ => False) 0 0) 108 [some (.ref (29)), none, some (.int (y47_2)), some (.int (y47_3)), none, none] [] (SW V o D)) : ∀ (n : Nat) (V : Mm) (x47_4 : Int32), wp_X7_plant_L47 y47_2 y47_3 post kx n V x47_4 → Ab X g 0 0 (tk_Q X g (tk_V g (fun u => ∃ V : Mm, u = SW V o D ∧ post V)) (fun _ _ => False) 0 0) 47 [some (.ref (29)), none, some (.int (y47_2)), some (.int (y47_3)), some (.int (x47_4)), none] [] (SW V o D) := by
  intro n
  induction n with
  | zero => intro V x47_4 h; exact h.elim
  | succ n ih =>
    intro V x47_4 h
    refine ab_iload O dX7_plant_47 rfl ?_
    refine ab_aload_n O 0 dX7_plant_49 rfl rfl ?_
    refine ab_get O fl_X7_31 dX7_plant_50 (at_29 _ _ _) rfl ?_
    refine ab_callvI O I.2.2.2.2.2.2 (fr := False) (st := [.int (x47_4)]) lk_X7_49 rfl (at_1 _ _ _) dX7_plant_53 (c_X3_vertexCount (d - 1) (by omega) _ O.2.2.2.2.2.2.1 _ _ _ h) rfl rfl ⟨by rw [I.2.1]; show d - 1 + 1 ≤ d; omega, by rw [I.2.1]; show 8 + (_ + 11) + 36 * (d - 1) ≤ 36 * d; omega⟩ (show 1 ≤ 8 by decide) ⟨by rw [I.2.1]; show 0 + 0 ≤ 0; decide, by rw [I.2.1]; show 0 + 0 ≤ 0; decide⟩ (fun q => q.elim) (fun E u q => q.elim) (fun r8 u hu => ?_)
    obtain ⟨V7, rfl, h⟩ := hu
    refine ab_icmp_ge O 108 dX7_plant_56 rfl (fun q9 => ?_) (fun q9 => ?_)
    · have h := h.1 q9
      exact ab_less (hk (V7) (x47_4) h) (ab_le_s (ab_le_n (ab_le_s (ab_le_s (ab_le_n (ab_le_n ab_le_0))))))
    · have h := h.2 q9
      refine ab_aload_n O 0 dX7_plant_59 rfl rfl ?_
      refine ab_get O fl_X7_35 dX7_plant_60 (at_29 _ _ _) rfl ?_
      refine ab_aload_n O 0 dX7_plant_63 rfl rfl ?_
      refine ab_get O fl_X7_9 dX7_plant_64 (at_29 _ _ _) rfl ?_
      refine ab_iload_n O 3 dX7_plant_67 rfl rfl ?_
      refine ab_iald O dX7_plant_68 (at_30 _ _ _) h.1 ?_
      have h := h.2
      refine ab_iload O dX7_plant_69 rfl ?_
      refine ab_callvI O I.2.2.2.2.2.2 (fr := False) (st := []) lk_X7_55 rfl (at_7 _ _ _) dX7_plant_71 (c_X0_edgeJoining (d - 1) (by omega) _ O.2.2.2.2.2.2.1 _ _ _ _ _ h) rfl rfl ⟨by rw [I.2.1]; show d - 1 + 1 ≤ d; omega, by rw [I.2.1]; show 8 + (_ + 11) + 36 * (d - 1) ≤ 36 * d; omega⟩ (show 0 ≤ 8 by decide) ⟨by rw [I.2.1]; show 0 + 0 ≤ 0; decide, by rw [I.2.1]; show 0 + 0 ≤ 0; decide⟩ (fun q => q.elim) (fun E u q => q.elim) (fun r11 u hu => ?_)
      obtain ⟨V10, rfl, h⟩ := hu
      refine ab_istore O dX7_plant_74 (show 5 < 6 by decide) ?_
      refine ab_iload O dX7_plant_76 rfl ?_
      refine ab_iconst O (-1) dX7_plant_78 rfl ?_
      refine ab_icmp_eq O 102 dX7_plant_79 rfl (fun q12 => ?_) (fun q12 => ?_)
      · have h := h.1 q12
        refine ab_iinc O ((x47_4 + (1))) dX7_plant_102 rfl rfl ?_
        refine ab_goto O 47 dX7_plant_105 rfl ?_
        exact ab_less (ih (V10) ((x47_4 + (1))) h) (ab_le_s (ab_le_n (ab_le_s (ab_le_s (ab_le_s (ab_le_n ab_le_0))))))
      · have h := h.2 q12
        refine ab_iload O dX7_plant_82 rfl ?_
        refine ab_iload_n O 2 dX7_plant_84 rfl rfl ?_
        refine ab_icmp_eq O 102 dX7_plant_85 rfl (fun q13 => ?_) (fun q13 => ?_)
        · have h := h.1 q13
          refine ab_iinc O ((x47_4 + (1))) dX7_plant_102 rfl rfl ?_
          refine ab_goto O 47 dX7_plant_105 rfl ?_
          exact ab_less (ih (V10) ((x47_4 + (1))) h) (ab_le_s (ab_le_n (ab_le_s (ab_le_s (ab_le_s (ab_le_n ab_le_0))))))
        · have h := h.2 q13
          refine ab_aload_n O 0 dX7_plant_88 rfl rfl ?_
          refine ab_iload O dX7_plant_89 rfl ?_
          refine ab_aload_n O 0 dX7_plant_91 rfl rfl ?_
          refine ab_get O fl_X7_9 dX7_plant_92 (at_29 _ _ _) rfl ?_
          refine ab_iload_n O 3 dX7_plant_95 rfl rfl ?_
          refine ab_iald O dX7_plant_96 (at_30 _ _ _) h.1 ?_
          have h := h.2
          refine ab_iload O dX7_plant_97 rfl ?_
          refine ab_callvV O I.2.2.2.2.2.2 (fr := False) (st := []) lk_X7_45 rfl (at_29 _ _ _) dX7_plant_99 (c_X7_reach (d - 1) (by omega) _ O.2.2.2.2.2.2.1 _ _ _ _ _ _ h) rfl rfl ⟨by rw [I.2.1]; show d - 1 + 1 ≤ d; omega, by rw [I.2.1]; show 8 + (_ + 11) + 36 * (d - 1) ≤ 36 * d; omega⟩ (show 0 ≤ 8 by decide) ⟨by rw [I.2.1]; show 0 + 0 ≤ 0; decide, by rw [I.2.1]; show 0 + 0 ≤ 0; decide⟩ (fun q => q.elim) (fun E u q => q.elim) (fun u hu => ?_)
          obtain ⟨V14, rfl, h⟩ := hu
          refine ab_iinc O ((x47_4 + (1))) dX7_plant_102 rfl rfl ?_
          refine ab_goto O 47 dX7_plant_105 rfl ?_
          exact ab_less (ih (V14) ((x47_4 + (1))) h) (ab_le_s (ab_le_n (ab_le_s (ab_le_s (ab_le_s (ab_le_n ab_le_0))))))
set_option maxHeartbeats 4000000 in
theorem cl_X7_plant_L30 {X : ab_M} {g : ab_G} {l : Launch} {d : Nat} (hd : 3 ≤ d) (y30_2 : Int32) {post : Mm → Prop} {kx : Mm → Int32 → Prop} {o : Nat → Int64} {D : Nat → UInt64} (O : ab_Ok X g cX7_plant RX7) (I : ab_I X l tk_strs 6 none yX7_plant.name d 0 0) (hk : ∀ (V : Mm) (x30_3 : Int32), kx V x30_3 → Ab X g 0 0 (tk_Q X g (tk_V g (fun u => ∃ V : Mm, u = SW V o D ∧ post V)) (fun _ _ => False) 0 0) 114 [none, none, none, none, none, none] [] (SW V o D)) : ∀ (n : Nat) (V : Mm) (x30_3 : Int32), wp_X7_plant_L30 y30_2 post kx n V x30_3 → Ab X g 0 0 (tk_Q X g (tk_V g (fun u => ∃ V : Mm, u = SW V o D ∧ post V)) (fun _ _ => False) 0 0) 30 [some (.ref (29)), none, some (.int (y30_2)), some (.int (x30_3)), none, none] [] (SW V o D) := by
  intro n
  induction n with
  | zero => intro V x30_3 h; exact h.elim
  | succ n ih =>
    intro V x30_3 h
    refine ab_iload_n O 3 dX7_plant_30 rfl rfl ?_
    refine ab_bipush O 20 dX7_plant_31 rfl ?_
    refine ab_icmp_ge O 114 dX7_plant_33 rfl (fun q5 => ?_) (fun q5 => ?_)
    · have h := h.1 q5
      exact ab_less (hk (V) (x30_3) h) (ab_le_n (ab_le_n (ab_le_n (ab_le_n (ab_le_n (ab_le_n ab_le_0))))))
    · have h := h.2 q5
      refine ab_iload_n O 3 dX7_plant_36 rfl rfl ?_
      refine ab_aload_n O 0 dX7_plant_37 rfl rfl ?_
      refine ab_get O fl_X7_27 dX7_plant_38 (at_29 _ _ _) rfl ?_
      refine ab_icmp_ge O 114 dX7_plant_41 rfl (fun q6 => ?_) (fun q6 => ?_)
      · have h := h.1 q6
        exact ab_less (hk (V) (x30_3) h) (ab_le_n (ab_le_n (ab_le_n (ab_le_n (ab_le_n (ab_le_n ab_le_0))))))
      · have h := h.2 q6
        refine ab_iconst O 0 dX7_plant_44 rfl ?_
        refine ab_istore O dX7_plant_45 (show 4 < 6 by decide) ?_
        obtain ⟨n9, h⟩ := h
        refine ab_less (cl_X7_plant_L47 hd (y30_2) (x30_3) O I (fun V15 x16 h => ?_) n9 (V) (0) h) (ab_le_s (ab_le_n (ab_le_s (ab_le_s (ab_le_s (ab_le_n ab_le_0))))))
        refine ab_iinc O ((x30_3 + (1))) dX7_plant_108 rfl rfl ?_
        refine ab_goto O 30 dX7_plant_111 rfl ?_
        exact ab_less (ih (V15) ((x30_3 + (1))) h) (ab_le_s (ab_le_n (ab_le_s (ab_le_s (ab_le_n (ab_le_n ab_le_0))))))
set_option maxHeartbeats 4000000 in
theorem c_X7_plant (d : Nat) (hd : 3 ≤ d) (l : Launch) (hl : l.stackTraces = false) (g : ab_G) (o : Nat → Int64) (D : Nat → UInt64) (a0 : Int32) (a1 : Int32) {V : Mm} {post : Mm → Prop} (h : wp_X7_plant V a0 a1 post) : Ct l g tk_strs False d 0 0 yX7_plant cX7_plant 6 none [.ref 29, .int a0, .int a1] (SW V o D) (tk_V g (fun u => ∃ V : Mm, u = SW V o D ∧ post V)) (fun _ _ => False) := by
  refine ct_in (by decide +kernel) (show 3 ≤ 6 by decide) (by simp [Value.category]) hl (fun X I O _ => ?_)
  show Ab X g 0 0 _ 0 [some (.ref (29)), some (.int (a0)), some (.int (a1)), none, none, none] [] _
  refine ab_aload_n O 0 dX7_plant_0 rfl rfl ?_
  refine ab_iconst O 0 dX7_plant_1 rfl ?_
  refine ab_put O fl_X7_27 cl_X7 dX7_plant_2 (at_29 _ _ _) rfl .int (by decide +kernel) (fun _ => rfl) (fun _ => rfl) (show 7 < 8 by decide) ?_
  refine ab_eq ?_ rfl rfl rfl (sf_29_7 _ _ _ _).symm
  obtain ⟨V1, eV1⟩ : ∃ z : Mm, z = wr V 29 7 0 := ⟨_, rfl⟩
  rw [← eV1]
  have h := h V1 eV1
  refine ab_aload_n O 0 dX7_plant_5 rfl rfl ?_
  refine ab_get O fl_X7_15 dX7_plant_6 (at_29 _ _ _) rfl ?_
  refine ab_iconst O (-1) dX7_plant_9 rfl ?_
  refine ab_callsV O I.2.2.2.2.2.2 (fr := False) (st := []) lk_X7_39 dX7_plant_10 (c_fill _ O.2.2.2.2.2.2.1 _ False (d - 1) _ 31 20 ((-1)) _ (at_31 _ _ _) (by decide)) rfl rfl ⟨by rw [I.2.1]; show d - 1 + 1 ≤ d; omega, by rw [I.2.1]; show 8 + (_ + 11) + 36 * (d - 1) ≤ 36 * d; omega⟩ (show 0 ≤ 8 by decide) ⟨by rw [I.2.1]; show 0 + 0 ≤ 0; decide, by rw [I.2.1]; show 0 + 0 ≤ 0; decide⟩ (fun q => q.elim) (fun E u q => q.elim) (fun u hu => ?_)
  subst hu
  refine ab_eq ?_ rfl rfl rfl (sw_fill_31 _ _ _ _).symm
  obtain ⟨V2, eV2⟩ : ∃ z : Mm, z = wfill V1 31 20 (-1) := ⟨_, rfl⟩
  rw [← eV2]
  have h := h V2 eV2
  refine ab_aload_n O 0 dX7_plant_13 rfl rfl ?_
  refine ab_get O fl_X7_18 dX7_plant_14 (at_29 _ _ _) rfl ?_
  refine ab_iconst O (-1) dX7_plant_17 rfl ?_
  refine ab_callsV O I.2.2.2.2.2.2 (fr := False) (st := []) lk_X7_39 dX7_plant_18 (c_fill _ O.2.2.2.2.2.2.1 _ False (d - 1) _ 32 20 ((-1)) _ (at_32 _ _ _) (by decide)) rfl rfl ⟨by rw [I.2.1]; show d - 1 + 1 ≤ d; omega, by rw [I.2.1]; show 8 + (_ + 11) + 36 * (d - 1) ≤ 36 * d; omega⟩ (show 0 ≤ 8 by decide) ⟨by rw [I.2.1]; show 0 + 0 ≤ 0; decide, by rw [I.2.1]; show 0 + 0 ≤ 0; decide⟩ (fun q => q.elim) (fun E u q => q.elim) (fun u hu => ?_)
  subst hu
  refine ab_eq ?_ rfl rfl rfl (sw_fill_32 _ _ _ _).symm
  obtain ⟨V3, eV3⟩ : ∃ z : Mm, z = wfill V2 32 20 (-1) := ⟨_, rfl⟩
  rw [← eV3]
  have h := h V3 eV3
  refine ab_aload_n O 0 dX7_plant_21 rfl rfl ?_
  refine ab_iload_n O 1 dX7_plant_22 rfl rfl ?_
  refine ab_iconst O (-1) dX7_plant_23 rfl ?_
  refine ab_iconst O (-1) dX7_plant_24 rfl ?_
  refine ab_callvV O I.2.2.2.2.2.2 (fr := False) (st := []) lk_X7_45 rfl (at_29 _ _ _) dX7_plant_25 (c_X7_reach (d - 1) (by omega) _ O.2.2.2.2.2.2.1 _ _ _ _ _ _ h) rfl rfl ⟨by rw [I.2.1]; show d - 1 + 1 ≤ d; omega, by rw [I.2.1]; show 8 + (_ + 11) + 36 * (d - 1) ≤ 36 * d; omega⟩ (show 0 ≤ 8 by decide) ⟨by rw [I.2.1]; show 0 + 0 ≤ 0; decide, by rw [I.2.1]; show 0 + 0 ≤ 0; decide⟩ (fun q => q.elim) (fun E u q => q.elim) (fun u hu => ?_)
  obtain ⟨V4, rfl, h⟩ := hu
  refine ab_iconst O 0 dX7_plant_28 rfl ?_
  refine ab_istore_n O 3 dX7_plant_29 rfl (show 3 < 6 by decide) ?_
  obtain ⟨n9, h⟩ := h
  refine ab_less (cl_X7_plant_L30 hd (a1) O I (fun V17 x18 h => ?_) n9 (V4) (0) h) (ab_le_s (ab_le_n (ab_le_s (ab_le_s (ab_le_n (ab_le_n ab_le_0))))))
  exact ab_return O I dX7_plant_114 (by decide) (by decide) ⟨_, rfl, h⟩

def wp_X7_depthOf (V : Mm) (a0 : Int32) (post : Int32 → Mm → Prop) : Prop := (wp_X3_hasVertex V (a0) (fun (r2 : Int32) (V1 : Mm) => ((r2 = 0 → post (-1) V1) ∧ (¬ r2 = 0 → (vp_in a0 20 ∧ post (V1 31 (a0).toNatClampNeg) V1)))))
set_option maxHeartbeats 4000000 in
theorem c_X7_depthOf (d : Nat) (hd : 1 ≤ d) (l : Launch) (hl : l.stackTraces = false) (g : ab_G) (o : Nat → Int64) (D : Nat → UInt64) (a0 : Int32) {V : Mm} {post : Int32 → Mm → Prop} (h : wp_X7_depthOf V a0 post) : Ct l g tk_strs False d 0 0 yX7_depthOf cX7_depthOf 2 (some .int) [.ref 29, .int a0] (SW V o D) (tk_I g (fun r u => ∃ V : Mm, u = SW V o D ∧ post r V)) (fun _ _ => False) := by
  refine ct_in (by decide +kernel) (show 2 ≤ 2 by decide) (by simp [Value.category]) hl (fun X I O _ => ?_)
  show Ab X g 0 0 _ 0 [some (.ref (29)), some (.int (a0))] [] _
  refine ab_aload_n O 0 dX7_depthOf_0 rfl rfl ?_
  refine ab_get O fl_X7_31 dX7_depthOf_1 (at_29 _ _ _) rfl ?_
  refine ab_iload_n O 1 dX7_depthOf_4 rfl rfl ?_
  refine ab_callvI O I.2.2.2.2.2.2 (fr := False) (st := []) lk_X7_61 rfl (at_1 _ _ _) dX7_depthOf_5 (c_X3_hasVertex (d - 1) (by omega) _ O.2.2.2.2.2.2.1 _ _ _ _ h) rfl rfl ⟨by rw [I.2.1]; show d - 1 + 1 ≤ d; omega, by rw [I.2.1]; show 8 + (_ + 11) + 36 * (d - 1) ≤ 36 * d; omega⟩ (show 0 ≤ 8 by decide) ⟨by rw [I.2.1]; show 0 + 0 ≤ 0; decide, by rw [I.2.1]; show 0 + 0 ≤ 0; decide⟩ (fun q => q.elim) (fun E u q => q.elim) (fun r2 u hu => ?_)
  obtain ⟨V1, rfl, h⟩ := hu
  refine ab_if_eq O 20 dX7_depthOf_8 rfl (fun q3 => ?_) (fun q3 => ?_)
  · have h := h.1 q3
    refine ab_iconst O (-1) dX7_depthOf_20 rfl ?_
    exact ab_ireturn O I dX7_depthOf_21 (by decide) (by decide) (by rfl) ⟨_, rfl, h⟩
  · have h := h.2 q3
    refine ab_aload_n O 0 dX7_depthOf_11 rfl rfl ?_
    refine ab_get O fl_X7_15 dX7_depthOf_12 (at_29 _ _ _) rfl ?_
    refine ab_iload_n O 1 dX7_depthOf_15 rfl rfl ?_
    refine ab_iald O dX7_depthOf_16 (at_31 _ _ _) h.1 ?_
    have h := h.2
    refine ab_goto O 21 dX7_depthOf_17 rfl ?_
    exact ab_ireturn O I dX7_depthOf_21 (by decide) (by decide) (by rfl) ⟨_, rfl, h⟩

def wp_X7_holds (V : Mm) (a0 : Int32) (post : Int32 → Mm → Prop) : Prop := (wp_X7_depthOf V (a0) (fun (r2 : Int32) (V1 : Mm) => ((r2 = (-1) → post 0 V1) ∧ (¬ r2 = (-1) → post 1 V1))))
set_option maxHeartbeats 4000000 in
theorem c_X7_holds (d : Nat) (hd : 2 ≤ d) (l : Launch) (hl : l.stackTraces = false) (g : ab_G) (o : Nat → Int64) (D : Nat → UInt64) (a0 : Int32) {V : Mm} {post : Int32 → Mm → Prop} (h : wp_X7_holds V a0 post) : Ct l g tk_strs False d 0 0 yX7_holds cX7_holds 2 (some .boolean) [.ref 29, .int a0] (SW V o D) (tk_I g (fun r u => ∃ V : Mm, u = SW V o D ∧ post r V)) (fun _ _ => False) := by
  refine ct_in (by decide +kernel) (show 2 ≤ 2 by decide) (by simp [Value.category]) hl (fun X I O _ => ?_)
  show Ab X g 0 0 _ 0 [some (.ref (29)), some (.int (a0))] [] _
  refine ab_aload_n O 0 dX7_holds_0 rfl rfl ?_
  refine ab_iload_n O 1 dX7_holds_1 rfl rfl ?_
  refine ab_callvI O I.2.2.2.2.2.2 (fr := False) (st := []) lk_X7_76 rfl (at_29 _ _ _) dX7_holds_2 (c_X7_depthOf (d - 1) (by omega) _ O.2.2.2.2.2.2.1 _ _ _ _ h) rfl rfl ⟨by rw [I.2.1]; show d - 1 + 1 ≤ d; omega, by rw [I.2.1]; show 8 + (_ + 11) + 36 * (d - 1) ≤ 36 * d; omega⟩ (show 0 ≤ 8 by decide) ⟨by rw [I.2.1]; show 0 + 0 ≤ 0; decide, by rw [I.2.1]; show 0 + 0 ≤ 0; decide⟩ (fun q => q.elim) (fun E u q => q.elim) (fun r2 u hu => ?_)
  obtain ⟨V1, rfl, h⟩ := hu
  refine ab_iconst O (-1) dX7_holds_5 rfl ?_
  refine ab_icmp_eq O 13 dX7_holds_6 rfl (fun q3 => ?_) (fun q3 => ?_)
  · have h := h.1 q3
    refine ab_iconst O 0 dX7_holds_13 rfl ?_
    exact ab_ireturn O I dX7_holds_14 (by decide) (by decide) (by rfl) ⟨_, rfl, h⟩
  · have h := h.2 q3
    refine ab_iconst O 1 dX7_holds_9 rfl ?_
    refine ab_goto O 14 dX7_holds_10 rfl ?_
    exact ab_ireturn O I dX7_holds_14 (by decide) (by decide) (by rfl) ⟨_, rfl, h⟩

def wp_X8_requireInTree (V : Mm) (a0 : Int32) (post : Mm → Prop) (px : String → Mm → Prop) : Prop := (wp_X7_holds V (a0) (fun (r2 : Int32) (V1 : Mm) => ((r2 = 0 → px "java/util/NoSuchElementException" V1) ∧ (¬ r2 = 0 → post V1))))
set_option maxHeartbeats 4000000 in
theorem c_X8_requireInTree (d : Nat) (hd : 6 ≤ d) (l : Launch) (hl : l.stackTraces = false) (g : ab_G) (o : Nat → Int64) (D : Nat → UInt64) (a0 : Int32) {V : Mm} {px : String → Mm → Prop} {post : Mm → Prop} (h : wp_X8_requireInTree V a0 post px) : Ct l g tk_strs False d 1 6 yX8_requireInTree cX8_requireInTree 2 none [.ref 0, .int a0] (SW V o D) (tk_V g (fun u => ∃ V : Mm, u = SW V o D ∧ post V)) (fun E u => ∃ V : Mm, u = SW V o D ∧ px E V) := by
  refine ct_in (by decide +kernel) (show 2 ≤ 2 by decide) (by simp [Value.category]) hl (fun X I O _ => ?_)
  show Ab X g 0 0 _ 0 [some (.ref (0)), some (.int (a0))] [] _
  refine ab_aload_n O 0 dX8_requireInTree_0 rfl rfl ?_
  refine ab_get O fl_X8_30 dX8_requireInTree_1 (at_0 _ _ _) rfl ?_
  refine ab_iload_n O 1 dX8_requireInTree_4 rfl rfl ?_
  refine ab_callvI O I.2.2.2.2.2.2 (fr := False) (st := []) lk_X8_201 rfl (at_29 _ _ _) dX8_requireInTree_5 (c_X7_holds (d - 1) (by omega) _ O.2.2.2.2.2.2.1 _ _ _ _ h) rfl rfl ⟨by rw [I.2.1]; show d - 1 + 1 ≤ d; omega, by rw [I.2.1]; show 8 + (_ + 11) + 36 * (d - 1) ≤ 36 * d; omega⟩ (show 0 ≤ 8 by decide) ⟨by rw [I.2.1]; show 0 + 0 ≤ 1; decide, by rw [I.2.1]; show 0 + 0 ≤ 6; decide⟩ (fun q => q.elim) (fun E u q => q.elim) (fun r2 u hu => ?_)
  obtain ⟨V1, rfl, h⟩ := hu
  refine ab_if_ne O 22 dX8_requireInTree_8 rfl (fun q3 => ?_) (fun q3 => ?_)
  · have h := h.2 q3
    exact ab_return O I dX8_requireInTree_22 (by decide) (by decide) ⟨_, rfl, h⟩
  · have h := h.1 q3
    exact ab_throwWN O I th_X8_167 (show (RX8, 323, "the vertices are in different trees") ∈ tk_strs by decide +kernel) dX8_requireInTree_11 dX8_requireInTree_14 dX8_requireInTree_15 dX8_requireInTree_18 dX8_requireInTree_21 (show 5 < d by omega) (show 0 + 82 ≤ 36 * d by omega) (show 0 + 1 ≤ 1 by decide) (show 0 + 6 ≤ 6 by decide) ⟨_, rfl, h⟩

def wp_X8_plantHolding (V : Mm) (a0 a1 : Int32) (post : Mm → Prop) (px : String → Mm → Prop) : Prop := (wp_X7_plant V (a0) ((-1)) (fun (V1 : Mm) => (wp_X8_requireInTree V1 (a1) (fun (V2 : Mm) => post V2) px)))
set_option maxHeartbeats 4000000 in
theorem c_X8_plantHolding (d : Nat) (hd : 7 ≤ d) (l : Launch) (hl : l.stackTraces = false) (g : ab_G) (o : Nat → Int64) (D : Nat → UInt64) (a0 : Int32) (a1 : Int32) {V : Mm} {px : String → Mm → Prop} {post : Mm → Prop} (h : wp_X8_plantHolding V a0 a1 post px) : Ct l g tk_strs False d 1 6 yX8_plantHolding cX8_plantHolding 3 none [.ref 0, .int a0, .int a1] (SW V o D) (tk_V g (fun u => ∃ V : Mm, u = SW V o D ∧ post V)) (fun E u => ∃ V : Mm, u = SW V o D ∧ px E V) := by
  refine ct_in (by decide +kernel) (show 3 ≤ 3 by decide) (by simp [Value.category]) hl (fun X I O _ => ?_)
  show Ab X g 0 0 _ 0 [some (.ref (0)), some (.int (a0)), some (.int (a1))] [] _
  refine ab_aload_n O 0 dX8_plantHolding_0 rfl rfl ?_
  refine ab_get O fl_X8_30 dX8_plantHolding_1 (at_0 _ _ _) rfl ?_
  refine ab_iload_n O 1 dX8_plantHolding_4 rfl rfl ?_
  refine ab_iconst O (-1) dX8_plantHolding_5 rfl ?_
  refine ab_callvV O I.2.2.2.2.2.2 (fr := False) (st := []) lk_X8_198 rfl (at_29 _ _ _) dX8_plantHolding_6 (c_X7_plant (d - 1) (by omega) _ O.2.2.2.2.2.2.1 _ _ _ _ _ h) rfl rfl ⟨by rw [I.2.1]; show d - 1 + 1 ≤ d; omega, by rw [I.2.1]; show 8 + (_ + 11) + 36 * (d - 1) ≤ 36 * d; omega⟩ (show 0 ≤ 8 by decide) ⟨by rw [I.2.1]; show 0 + 0 ≤ 1; decide, by rw [I.2.1]; show 0 + 0 ≤ 6; decide⟩ (fun q => q.elim) (fun E u q => q.elim) (fun u hu => ?_)
  obtain ⟨V1, rfl, h⟩ := hu
  refine ab_aload_n O 0 dX8_plantHolding_9 rfl rfl ?_
  refine ab_iload_n O 2 dX8_plantHolding_10 rfl rfl ?_
  refine ab_callvV O I.2.2.2.2.2.2 (fr := False) (st := []) lk_X8_258 rfl (at_0 _ _ _) dX8_plantHolding_11 (c_X8_requireInTree (d - 1) (by omega) _ O.2.2.2.2.2.2.1 _ _ _ _ h) rfl rfl ⟨by rw [I.2.1]; show d - 1 + 1 ≤ d; omega, by rw [I.2.1]; show 8 + (_ + 11) + 36 * (d - 1) ≤ 36 * d; omega⟩ (show 0 ≤ 8 by decide) ⟨by rw [I.2.1]; show 0 + 1 ≤ 1; decide, by rw [I.2.1]; show 0 + 6 ≤ 6; decide⟩ (fun q => q.elim) (fun E u q => by obtain ⟨V9, rfl, q⟩ := q; exact abx_out O I (by decide) (by decide) ⟨V9, rfl, q⟩) (fun u hu => ?_)
  obtain ⟨V2, rfl, h⟩ := hu
  exact ab_return O I dX8_plantHolding_14 (by decide) (by decide) ⟨_, rfl, h⟩

