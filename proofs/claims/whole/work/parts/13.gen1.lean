def wp_X3_hasEdge (V : Mm) (a0 : Int32) (post : Int32 → Mm → Prop) : Prop := ((a0 < 0 → post 0 V) ∧ (¬ a0 < 0 → (((V 1 6) ≤ a0 → post 0 V) ∧ (¬ (V 1 6) ≤ a0 → post 1 V))))
set_option maxHeartbeats 4000000 in
theorem c_X3_hasEdge (d : Nat) (hd : 0 ≤ d) (l : Launch) (hl : l.stackTraces = false) (g : ab_G) (o : Nat → Int64) (D : Nat → UInt64) (a0 : Int32) {V : Mm} {post : Int32 → Mm → Prop} (h : wp_X3_hasEdge V a0 post) : Ct l g tk_strs False d 0 0 yX3_hasEdge cX3_hasEdge 2 (some .boolean) [.ref 1, .int a0] (SW V o D) (tk_I g (fun r u => ∃ V : Mm, u = SW V o D ∧ post r V)) (fun _ _ => False) := by
  refine ct_in (by decide +kernel) (show 2 ≤ 2 by decide) (by simp [Value.category]) hl (fun X I O _ => ?_)
  show Ab X g 0 0 _ 0 [some (.ref (1)), some (.int (a0))] [] _
  refine ab_iload_n O 1 dX3_hasEdge_0 rfl rfl ?_
  refine ab_if_lt O 16 dX3_hasEdge_1 rfl (fun q1 => ?_) (fun q1 => ?_)
  · have h := h.1 q1
    refine ab_iconst O 0 dX3_hasEdge_16 rfl ?_
    exact ab_ireturn O I dX3_hasEdge_17 (by decide) (by decide) (by rfl) ⟨_, rfl, h⟩
  · have h := h.2 q1
    refine ab_iload_n O 1 dX3_hasEdge_4 rfl rfl ?_
    refine ab_aload_n O 0 dX3_hasEdge_5 rfl rfl ?_
    refine ab_get O fl_X3_32 dX3_hasEdge_6 (at_1 _ _ _) rfl ?_
    refine ab_icmp_ge O 16 dX3_hasEdge_9 rfl (fun q2 => ?_) (fun q2 => ?_)
    · have h := h.1 q2
      refine ab_iconst O 0 dX3_hasEdge_16 rfl ?_
      exact ab_ireturn O I dX3_hasEdge_17 (by decide) (by decide) (by rfl) ⟨_, rfl, h⟩
    · have h := h.2 q2
      refine ab_iconst O 1 dX3_hasEdge_12 rfl ?_
      refine ab_goto O 17 dX3_hasEdge_13 rfl ?_
      exact ab_ireturn O I dX3_hasEdge_17 (by decide) (by decide) (by rfl) ⟨_, rfl, h⟩

def wp_X3_firstEnd (V : Mm) (a0 : Int32) (post : Int32 → Mm → Prop) : Prop := (wp_X3_hasEdge V (a0) (fun (r2 : Int32) (V1 : Mm) => ((r2 = 0 → post (-1) V1) ∧ (¬ r2 = 0 → (vp_in a0 60 ∧ post (V1 3 (Int32.toNatClampNeg (a0))) V1)))))
set_option maxHeartbeats 4000000 in
theorem c_X3_firstEnd (d : Nat) (hd : 1 ≤ d) (l : Launch) (hl : l.stackTraces = false) (g : ab_G) (o : Nat → Int64) (D : Nat → UInt64) (a0 : Int32) {V : Mm} {post : Int32 → Mm → Prop} (h : wp_X3_firstEnd V a0 post) : Ct l g tk_strs False d 0 0 yX3_firstEnd cX3_firstEnd 2 (some .int) [.ref 1, .int a0] (SW V o D) (tk_I g (fun r u => ∃ V : Mm, u = SW V o D ∧ post r V)) (fun _ _ => False) := by
  refine ct_in (by decide +kernel) (show 2 ≤ 2 by decide) (by simp [Value.category]) hl (fun X I O _ => ?_)
  show Ab X g 0 0 _ 0 [some (.ref (1)), some (.int (a0))] [] _
  refine ab_aload_n O 0 dX3_firstEnd_0 rfl rfl ?_
  refine ab_iload_n O 1 dX3_firstEnd_1 rfl rfl ?_
  refine ab_callvI O I.2.2.2.2.2.2 (fr := False) (st := []) lk_X3_39 rfl (at_1 _ _ _) dX3_firstEnd_2 (c_X3_hasEdge (d - 1) (by omega) _ O.2.2.2.2.2.2.1 _ _ _ _ h) rfl rfl ⟨by rw [I.2.1]; show d - 1 + 1 ≤ d; omega, by rw [I.2.1]; show 8 + (_ + 11) + 36 * (d - 1) ≤ 36 * d; omega⟩ (show 0 ≤ 8 by decide) ⟨by rw [I.2.1]; show 0 + 0 ≤ 0; decide, by rw [I.2.1]; show 0 + 0 ≤ 0; decide⟩ (fun q => q.elim) (fun E u q => q.elim) (fun r2 u hu => ?_)
  obtain ⟨V1, rfl, h⟩ := hu
  refine ab_if_eq O 17 dX3_firstEnd_5 rfl (fun q3 => ?_) (fun q3 => ?_)
  · have h := h.1 q3
    refine ab_iconst O (-1) dX3_firstEnd_17 rfl ?_
    exact ab_ireturn O I dX3_firstEnd_18 (by decide) (by decide) (by rfl) ⟨_, rfl, h⟩
  · have h := h.2 q3
    refine ab_aload_n O 0 dX3_firstEnd_8 rfl rfl ?_
    refine ab_get O fl_X3_15 dX3_firstEnd_9 (at_1 _ _ _) rfl ?_
    refine ab_iload_n O 1 dX3_firstEnd_12 rfl rfl ?_
    refine ab_iald O dX3_firstEnd_13 (at_3 _ _ _) h.1 ?_
    have h := h.2
    refine ab_goto O 18 dX3_firstEnd_14 rfl ?_
    exact ab_ireturn O I dX3_firstEnd_18 (by decide) (by decide) (by rfl) ⟨_, rfl, h⟩

def wp_X3_secondEnd (V : Mm) (a0 : Int32) (post : Int32 → Mm → Prop) : Prop := (wp_X3_hasEdge V (a0) (fun (r2 : Int32) (V1 : Mm) => ((r2 = 0 → post (-1) V1) ∧ (¬ r2 = 0 → (vp_in a0 60 ∧ post (V1 4 (Int32.toNatClampNeg (a0))) V1)))))
set_option maxHeartbeats 4000000 in
theorem c_X3_secondEnd (d : Nat) (hd : 1 ≤ d) (l : Launch) (hl : l.stackTraces = false) (g : ab_G) (o : Nat → Int64) (D : Nat → UInt64) (a0 : Int32) {V : Mm} {post : Int32 → Mm → Prop} (h : wp_X3_secondEnd V a0 post) : Ct l g tk_strs False d 0 0 yX3_secondEnd cX3_secondEnd 2 (some .int) [.ref 1, .int a0] (SW V o D) (tk_I g (fun r u => ∃ V : Mm, u = SW V o D ∧ post r V)) (fun _ _ => False) := by
  refine ct_in (by decide +kernel) (show 2 ≤ 2 by decide) (by simp [Value.category]) hl (fun X I O _ => ?_)
  show Ab X g 0 0 _ 0 [some (.ref (1)), some (.int (a0))] [] _
  refine ab_aload_n O 0 dX3_secondEnd_0 rfl rfl ?_
  refine ab_iload_n O 1 dX3_secondEnd_1 rfl rfl ?_
  refine ab_callvI O I.2.2.2.2.2.2 (fr := False) (st := []) lk_X3_39 rfl (at_1 _ _ _) dX3_secondEnd_2 (c_X3_hasEdge (d - 1) (by omega) _ O.2.2.2.2.2.2.1 _ _ _ _ h) rfl rfl ⟨by rw [I.2.1]; show d - 1 + 1 ≤ d; omega, by rw [I.2.1]; show 8 + (_ + 11) + 36 * (d - 1) ≤ 36 * d; omega⟩ (show 0 ≤ 8 by decide) ⟨by rw [I.2.1]; show 0 + 0 ≤ 0; decide, by rw [I.2.1]; show 0 + 0 ≤ 0; decide⟩ (fun q => q.elim) (fun E u q => q.elim) (fun r2 u hu => ?_)
  obtain ⟨V1, rfl, h⟩ := hu
  refine ab_if_eq O 17 dX3_secondEnd_5 rfl (fun q3 => ?_) (fun q3 => ?_)
  · have h := h.1 q3
    refine ab_iconst O (-1) dX3_secondEnd_17 rfl ?_
    exact ab_ireturn O I dX3_secondEnd_18 (by decide) (by decide) (by rfl) ⟨_, rfl, h⟩
  · have h := h.2 q3
    refine ab_aload_n O 0 dX3_secondEnd_8 rfl rfl ?_
    refine ab_get O fl_X3_18 dX3_secondEnd_9 (at_1 _ _ _) rfl ?_
    refine ab_iload_n O 1 dX3_secondEnd_12 rfl rfl ?_
    refine ab_iald O dX3_secondEnd_13 (at_4 _ _ _) h.1 ?_
    have h := h.2
    refine ab_goto O 18 dX3_secondEnd_14 rfl ?_
    exact ab_ireturn O I dX3_secondEnd_18 (by decide) (by decide) (by rfl) ⟨_, rfl, h⟩

def wp_X3_acrossFrom (V : Mm) (a0 a1 : Int32) (post : Int32 → Mm → Prop) : Prop := (wp_X3_firstEnd V (a0) (fun (r2 : Int32) (V1 : Mm) => ((r2 = a1 → (wp_X3_secondEnd V1 (a0) (fun (r10 : Int32) (V9 : Mm) => post r10 V9))) ∧ (¬ r2 = a1 → (wp_X3_secondEnd V1 (a0) (fun (r5 : Int32) (V4 : Mm) => ((r5 = a1 → (wp_X3_firstEnd V4 (a0) (fun (r8 : Int32) (V7 : Mm) => post r8 V7))) ∧ (¬ r5 = a1 → post (-1) V4))))))))
set_option maxHeartbeats 4000000 in
theorem c_X3_acrossFrom (d : Nat) (hd : 2 ≤ d) (l : Launch) (hl : l.stackTraces = false) (g : ab_G) (o : Nat → Int64) (D : Nat → UInt64) (a0 : Int32) (a1 : Int32) {V : Mm} {post : Int32 → Mm → Prop} (h : wp_X3_acrossFrom V a0 a1 post) : Ct l g tk_strs False d 0 0 yX3_acrossFrom cX3_acrossFrom 3 (some .int) [.ref 1, .int a0, .int a1] (SW V o D) (tk_I g (fun r u => ∃ V : Mm, u = SW V o D ∧ post r V)) (fun _ _ => False) := by
  refine ct_in (by decide +kernel) (show 3 ≤ 3 by decide) (by simp [Value.category]) hl (fun X I O _ => ?_)
  show Ab X g 0 0 _ 0 [some (.ref (1)), some (.int (a0)), some (.int (a1))] [] _
  refine ab_aload_n O 0 dX3_acrossFrom_0 rfl rfl ?_
  refine ab_iload_n O 1 dX3_acrossFrom_1 rfl rfl ?_
  refine ab_callvI O I.2.2.2.2.2.2 (fr := False) (st := []) lk_X3_42 rfl (at_1 _ _ _) dX3_acrossFrom_2 (c_X3_firstEnd (d - 1) (by omega) _ O.2.2.2.2.2.2.1 _ _ _ _ h) rfl rfl ⟨by rw [I.2.1]; show d - 1 + 1 ≤ d; omega, by rw [I.2.1]; show 8 + (_ + 11) + 36 * (d - 1) ≤ 36 * d; omega⟩ (show 0 ≤ 8 by decide) ⟨by rw [I.2.1]; show 0 + 0 ≤ 0; decide, by rw [I.2.1]; show 0 + 0 ≤ 0; decide⟩ (fun q => q.elim) (fun E u q => q.elim) (fun r2 u hu => ?_)
  obtain ⟨V1, rfl, h⟩ := hu
  refine ab_iload_n O 2 dX3_acrossFrom_5 rfl rfl ?_
  refine ab_icmp_ne O 15 dX3_acrossFrom_6 rfl (fun q3 => ?_) (fun q3 => ?_)
  · have h := h.2 q3
    refine ab_aload_n O 0 dX3_acrossFrom_15 rfl rfl ?_
    refine ab_iload_n O 1 dX3_acrossFrom_16 rfl rfl ?_
    refine ab_callvI O I.2.2.2.2.2.2 (fr := False) (st := []) lk_X3_46 rfl (at_1 _ _ _) dX3_acrossFrom_17 (c_X3_secondEnd (d - 1) (by omega) _ O.2.2.2.2.2.2.1 _ _ _ _ h) rfl rfl ⟨by rw [I.2.1]; show d - 1 + 1 ≤ d; omega, by rw [I.2.1]; show 8 + (_ + 11) + 36 * (d - 1) ≤ 36 * d; omega⟩ (show 0 ≤ 8 by decide) ⟨by rw [I.2.1]; show 0 + 0 ≤ 0; decide, by rw [I.2.1]; show 0 + 0 ≤ 0; decide⟩ (fun q => q.elim) (fun E u q => q.elim) (fun r5 u hu => ?_)
    obtain ⟨V4, rfl, h⟩ := hu
    refine ab_iload_n O 2 dX3_acrossFrom_20 rfl rfl ?_
    refine ab_icmp_ne O 32 dX3_acrossFrom_21 rfl (fun q6 => ?_) (fun q6 => ?_)
    · have h := h.2 q6
      refine ab_iconst O (-1) dX3_acrossFrom_32 rfl ?_
      exact ab_ireturn O I dX3_acrossFrom_33 (by decide) (by decide) (by rfl) ⟨_, rfl, h⟩
    · have h := h.1 q6
      refine ab_aload_n O 0 dX3_acrossFrom_24 rfl rfl ?_
      refine ab_iload_n O 1 dX3_acrossFrom_25 rfl rfl ?_
      refine ab_callvI O I.2.2.2.2.2.2 (fr := False) (st := []) lk_X3_42 rfl (at_1 _ _ _) dX3_acrossFrom_26 (c_X3_firstEnd (d - 1) (by omega) _ O.2.2.2.2.2.2.1 _ _ _ _ h) rfl rfl ⟨by rw [I.2.1]; show d - 1 + 1 ≤ d; omega, by rw [I.2.1]; show 8 + (_ + 11) + 36 * (d - 1) ≤ 36 * d; omega⟩ (show 0 ≤ 8 by decide) ⟨by rw [I.2.1]; show 0 + 0 ≤ 0; decide, by rw [I.2.1]; show 0 + 0 ≤ 0; decide⟩ (fun q => q.elim) (fun E u q => q.elim) (fun r8 u hu => ?_)
      obtain ⟨V7, rfl, h⟩ := hu
      refine ab_goto O 33 dX3_acrossFrom_29 rfl ?_
      exact ab_ireturn O I dX3_acrossFrom_33 (by decide) (by decide) (by rfl) ⟨_, rfl, h⟩
  · have h := h.1 q3
    refine ab_aload_n O 0 dX3_acrossFrom_9 rfl rfl ?_
    refine ab_iload_n O 1 dX3_acrossFrom_10 rfl rfl ?_
    refine ab_callvI O I.2.2.2.2.2.2 (fr := False) (st := []) lk_X3_46 rfl (at_1 _ _ _) dX3_acrossFrom_11 (c_X3_secondEnd (d - 1) (by omega) _ O.2.2.2.2.2.2.1 _ _ _ _ h) rfl rfl ⟨by rw [I.2.1]; show d - 1 + 1 ≤ d; omega, by rw [I.2.1]; show 8 + (_ + 11) + 36 * (d - 1) ≤ 36 * d; omega⟩ (show 0 ≤ 8 by decide) ⟨by rw [I.2.1]; show 0 + 0 ≤ 0; decide, by rw [I.2.1]; show 0 + 0 ≤ 0; decide⟩ (fun q => q.elim) (fun E u q => q.elim) (fun r10 u hu => ?_)
    obtain ⟨V9, rfl, h⟩ := hu
    exact ab_ireturn O I dX3_acrossFrom_14 (by decide) (by decide) (by rfl) ⟨_, rfl, h⟩

def wp_X3_appendEdge (V : Mm) (a0 a1 a2 : Int32) (post : Int32 → Mm → Prop) : Prop := (((V 1 6) < 60 → (vp_in (V 1 6) 60 ∧ ∀ V2 : Mm, V2 = wr V 3 (Int32.toNatClampNeg ((V 1 6))) a0 → (vp_in (V2 1 6) 60 ∧ ∀ V3 : Mm, V3 = wr V2 4 (Int32.toNatClampNeg ((V2 1 6))) a1 → (vp_in (V3 1 6) 60 ∧ ∀ V4 : Mm, V4 = wr V3 5 (Int32.toNatClampNeg ((V3 1 6))) a2 → (vp_in (V4 1 6) 60 ∧ ∀ V5 : Mm, V5 = wr V4 6 (Int32.toNatClampNeg ((V4 1 6))) 1 → (∀ V6 : Mm, V6 = wr V5 1 6 ((V5 1 6) + 1) → post ((V6 1 6) - 1) V6)))))) ∧ (¬ (V 1 6) < 60 → post (-1) V))
set_option maxHeartbeats 4000000 in
theorem c_X3_appendEdge (d : Nat) (hd : 0 ≤ d) (l : Launch) (hl : l.stackTraces = false) (g : ab_G) (o : Nat → Int64) (D : Nat → UInt64) (a0 : Int32) (a1 : Int32) (a2 : Int32) {V : Mm} {post : Int32 → Mm → Prop} (h : wp_X3_appendEdge V a0 a1 a2 post) : Ct l g tk_strs False d 0 0 yX3_appendEdge cX3_appendEdge 4 (some .int) [.ref 1, .int a0, .int a1, .int a2] (SW V o D) (tk_I g (fun r u => ∃ V : Mm, u = SW V o D ∧ post r V)) (fun _ _ => False) := by
  refine ct_in (by decide +kernel) (show 4 ≤ 4 by decide) (by simp [Value.category]) hl (fun X I O _ => ?_)
  show Ab X g 0 0 _ 0 [some (.ref (1)), some (.int (a0)), some (.int (a1)), some (.int (a2))] [] _
  refine ab_aload_n O 0 dX3_appendEdge_0 rfl rfl ?_
  refine ab_get O fl_X3_32 dX3_appendEdge_1 (at_1 _ _ _) rfl ?_
  refine ab_bipush O 60 dX3_appendEdge_4 rfl ?_
  refine ab_icmp_lt O 11 dX3_appendEdge_6 rfl (fun q1 => ?_) (fun q1 => ?_)
  · have h := h.1 q1
    refine ab_aload_n O 0 dX3_appendEdge_11 rfl rfl ?_
    refine ab_get O fl_X3_15 dX3_appendEdge_12 (at_1 _ _ _) rfl ?_
    refine ab_aload_n O 0 dX3_appendEdge_15 rfl rfl ?_
    refine ab_get O fl_X3_32 dX3_appendEdge_16 (at_1 _ _ _) rfl ?_
    refine ab_iload_n O 1 dX3_appendEdge_19 rfl rfl ?_
    refine ab_iast O dX3_appendEdge_20 (at_3 _ _ _) h.1 ?_
    have h := h.2
    refine ab_eq ?_ rfl rfl rfl (sa_3 _ _ _ _ _).symm
    obtain ⟨V2, eV2⟩ : ∃ z : Mm, z = wr V 3 (Int32.toNatClampNeg ((V 1 6))) a0 := ⟨_, rfl⟩
    rw [← eV2]
    have h := h V2 eV2
    refine ab_aload_n O 0 dX3_appendEdge_21 rfl rfl ?_
    refine ab_get O fl_X3_18 dX3_appendEdge_22 (at_1 _ _ _) rfl ?_
    refine ab_aload_n O 0 dX3_appendEdge_25 rfl rfl ?_
    refine ab_get O fl_X3_32 dX3_appendEdge_26 (at_1 _ _ _) rfl ?_
    refine ab_iload_n O 2 dX3_appendEdge_29 rfl rfl ?_
    refine ab_iast O dX3_appendEdge_30 (at_4 _ _ _) h.1 ?_
    have h := h.2
    refine ab_eq ?_ rfl rfl rfl (sa_4 _ _ _ _ _).symm
    obtain ⟨V3, eV3⟩ : ∃ z : Mm, z = wr V2 4 (Int32.toNatClampNeg ((V2 1 6))) a1 := ⟨_, rfl⟩
    rw [← eV3]
    have h := h V3 eV3
    refine ab_aload_n O 0 dX3_appendEdge_31 rfl rfl ?_
    refine ab_get O fl_X3_21 dX3_appendEdge_32 (at_1 _ _ _) rfl ?_
    refine ab_aload_n O 0 dX3_appendEdge_35 rfl rfl ?_
    refine ab_get O fl_X3_32 dX3_appendEdge_36 (at_1 _ _ _) rfl ?_
    refine ab_iload_n O 3 dX3_appendEdge_39 rfl rfl ?_
    refine ab_iast O dX3_appendEdge_40 (at_5 _ _ _) h.1 ?_
    have h := h.2
    refine ab_eq ?_ rfl rfl rfl (sa_5 _ _ _ _ _).symm
    obtain ⟨V4, eV4⟩ : ∃ z : Mm, z = wr V3 5 (Int32.toNatClampNeg ((V3 1 6))) a2 := ⟨_, rfl⟩
    rw [← eV4]
    have h := h V4 eV4
    refine ab_aload_n O 0 dX3_appendEdge_41 rfl rfl ?_
    refine ab_get O fl_X3_24 dX3_appendEdge_42 (at_1 _ _ _) rfl ?_
    refine ab_aload_n O 0 dX3_appendEdge_45 rfl rfl ?_
    refine ab_get O fl_X3_32 dX3_appendEdge_46 (at_1 _ _ _) rfl ?_
    refine ab_iconst O 1 dX3_appendEdge_49 rfl ?_
    refine ab_zast O dX3_appendEdge_50 (at_6 _ _ _) h.1 ?_
    have h := h.2
    refine ab_eq ?_ rfl rfl rfl (sa_6 _ _ _ _ _).symm
    show Ab _ _ _ _ _ _ _ _ (SW (wr V4 6 (Int32.toNatClampNeg ((V4 1 6))) 1) _ _)
    obtain ⟨V5, eV5⟩ : ∃ z : Mm, z = wr V4 6 (Int32.toNatClampNeg ((V4 1 6))) 1 := ⟨_, rfl⟩
    rw [← eV5]
    have h := h V5 eV5
    refine ab_aload_n O 0 dX3_appendEdge_51 rfl rfl ?_
    refine ab_dup O dX3_appendEdge_52 rfl ?_
    refine ab_get O fl_X3_32 dX3_appendEdge_53 (at_1 _ _ _) rfl ?_
    refine ab_iconst O 1 dX3_appendEdge_56 rfl ?_
    refine ab_iadd O dX3_appendEdge_57 ?_
    refine ab_put O fl_X3_32 cl_X3 dX3_appendEdge_58 (at_1 _ _ _) rfl .int (by decide +kernel) (fun _ => rfl) (fun _ => rfl) (show 6 < 7 by decide) ?_
    refine ab_eq ?_ rfl rfl rfl (sf_1_6 _ _ _ _).symm
    obtain ⟨V6, eV6⟩ : ∃ z : Mm, z = wr V5 1 6 ((V5 1 6) + 1) := ⟨_, rfl⟩
    rw [← eV6]
    have h := h V6 eV6
    refine ab_aload_n O 0 dX3_appendEdge_61 rfl rfl ?_
    refine ab_get O fl_X3_32 dX3_appendEdge_62 (at_1 _ _ _) rfl ?_
    refine ab_iconst O 1 dX3_appendEdge_65 rfl ?_
    refine ab_isub O dX3_appendEdge_66 ?_
    exact ab_ireturn O I dX3_appendEdge_67 (by decide) (by decide) (by rfl) ⟨_, rfl, h⟩
  · have h := h.2 q1
    refine ab_iconst O (-1) dX3_appendEdge_9 rfl ?_
    exact ab_ireturn O I dX3_appendEdge_10 (by decide) (by decide) (by rfl) ⟨_, rfl, h⟩

def wp_X3_appendVertex (V : Mm) (a0 : Int32) (post : Int32 → Mm → Prop) : Prop := (((V 1 5) < 20 → (vp_in (V 1 5) 20 ∧ ∀ V2 : Mm, V2 = wr V 2 (Int32.toNatClampNeg ((V 1 5))) a0 → (∀ V3 : Mm, V3 = wr V2 1 5 ((V2 1 5) + 1) → post ((V3 1 5) - 1) V3))) ∧ (¬ (V 1 5) < 20 → post (-1) V))
set_option maxHeartbeats 4000000 in
theorem c_X3_appendVertex (d : Nat) (hd : 0 ≤ d) (l : Launch) (hl : l.stackTraces = false) (g : ab_G) (o : Nat → Int64) (D : Nat → UInt64) (a0 : Int32) {V : Mm} {post : Int32 → Mm → Prop} (h : wp_X3_appendVertex V a0 post) : Ct l g tk_strs False d 0 0 yX3_appendVertex cX3_appendVertex 2 (some .int) [.ref 1, .int a0] (SW V o D) (tk_I g (fun r u => ∃ V : Mm, u = SW V o D ∧ post r V)) (fun _ _ => False) := by
  refine ct_in (by decide +kernel) (show 2 ≤ 2 by decide) (by simp [Value.category]) hl (fun X I O _ => ?_)
  show Ab X g 0 0 _ 0 [some (.ref (1)), some (.int (a0))] [] _
  refine ab_aload_n O 0 dX3_appendVertex_0 rfl rfl ?_
  refine ab_get O fl_X3_28 dX3_appendVertex_1 (at_1 _ _ _) rfl ?_
  refine ab_bipush O 20 dX3_appendVertex_4 rfl ?_
  refine ab_icmp_lt O 11 dX3_appendVertex_6 rfl (fun q1 => ?_) (fun q1 => ?_)
  · have h := h.1 q1
    refine ab_aload_n O 0 dX3_appendVertex_11 rfl rfl ?_
    refine ab_get O fl_X3_9 dX3_appendVertex_12 (at_1 _ _ _) rfl ?_
    refine ab_aload_n O 0 dX3_appendVertex_15 rfl rfl ?_
    refine ab_get O fl_X3_28 dX3_appendVertex_16 (at_1 _ _ _) rfl ?_
    refine ab_iload_n O 1 dX3_appendVertex_19 rfl rfl ?_
    refine ab_iast O dX3_appendVertex_20 (at_2 _ _ _) h.1 ?_
    have h := h.2
    refine ab_eq ?_ rfl rfl rfl (sa_2 _ _ _ _ _).symm
    obtain ⟨V2, eV2⟩ : ∃ z : Mm, z = wr V 2 (Int32.toNatClampNeg ((V 1 5))) a0 := ⟨_, rfl⟩
    rw [← eV2]
    have h := h V2 eV2
    refine ab_aload_n O 0 dX3_appendVertex_21 rfl rfl ?_
    refine ab_dup O dX3_appendVertex_22 rfl ?_
    refine ab_get O fl_X3_28 dX3_appendVertex_23 (at_1 _ _ _) rfl ?_
    refine ab_iconst O 1 dX3_appendVertex_26 rfl ?_
    refine ab_iadd O dX3_appendVertex_27 ?_
    refine ab_put O fl_X3_28 cl_X3 dX3_appendVertex_28 (at_1 _ _ _) rfl .int (by decide +kernel) (fun _ => rfl) (fun _ => rfl) (show 5 < 7 by decide) ?_
    refine ab_eq ?_ rfl rfl rfl (sf_1_5 _ _ _ _).symm
    obtain ⟨V3, eV3⟩ : ∃ z : Mm, z = wr V2 1 5 ((V2 1 5) + 1) := ⟨_, rfl⟩
    rw [← eV3]
    have h := h V3 eV3
    refine ab_aload_n O 0 dX3_appendVertex_31 rfl rfl ?_
    refine ab_get O fl_X3_28 dX3_appendVertex_32 (at_1 _ _ _) rfl ?_
    refine ab_iconst O 1 dX3_appendVertex_35 rfl ?_
    refine ab_isub O dX3_appendVertex_36 ?_
    exact ab_ireturn O I dX3_appendVertex_37 (by decide) (by decide) (by rfl) ⟨_, rfl, h⟩
  · have h := h.2 q1
    refine ab_iconst O (-1) dX3_appendVertex_9 rfl ?_
    exact ab_ireturn O I dX3_appendVertex_10 (by decide) (by decide) (by rfl) ⟨_, rfl, h⟩

def wp_X3_comesBefore (V : Mm) (a0 a1 : Int32) (post : Int32 → Mm → Prop) : Prop := (wp_X3_hasEdge V (a0) (fun (r2 : Int32) (V1 : Mm) => ((r2 = 0 → (wp_X3_hasEdge V1 (a0) (fun (r5 : Int32) (V4 : Mm) => (narrow .boolean (.int r5) = .int r5 ∧ post r5 V4)))) ∧ (¬ r2 = 0 → (wp_X3_hasEdge V1 (a1) (fun (r7 : Int32) (V6 : Mm) => ((r7 = 0 → (wp_X3_hasEdge V6 (a0) (fun (r13 : Int32) (V12 : Mm) => (narrow .boolean (.int r13) = .int r13 ∧ post r13 V12)))) ∧ (¬ r7 = 0 → (vp_in a0 60 ∧ (vp_in a1 60 ∧ (((V6 5 (Int32.toNatClampNeg (a0))) = (V6 5 (Int32.toNatClampNeg (a1))) → ((a1 ≤ a0 → post 0 V6) ∧ (¬ a1 ≤ a0 → post 1 V6))) ∧ (¬ (V6 5 (Int32.toNatClampNeg (a0))) = (V6 5 (Int32.toNatClampNeg (a1))) → (vp_in a0 60 ∧ (vp_in a1 60 ∧ (((V6 5 (Int32.toNatClampNeg (a1))) ≤ (V6 5 (Int32.toNatClampNeg (a0))) → post 0 V6) ∧ (¬ (V6 5 (Int32.toNatClampNeg (a1))) ≤ (V6 5 (Int32.toNatClampNeg (a0))) → post 1 V6))))))))))))))))
set_option maxHeartbeats 4000000 in
theorem c_X3_comesBefore (d : Nat) (hd : 1 ≤ d) (l : Launch) (hl : l.stackTraces = false) (g : ab_G) (o : Nat → Int64) (D : Nat → UInt64) (a0 : Int32) (a1 : Int32) {V : Mm} {post : Int32 → Mm → Prop} (h : wp_X3_comesBefore V a0 a1 post) : Ct l g tk_strs False d 0 0 yX3_comesBefore cX3_comesBefore 3 (some .boolean) [.ref 1, .int a0, .int a1] (SW V o D) (tk_I g (fun r u => ∃ V : Mm, u = SW V o D ∧ post r V)) (fun _ _ => False) := by
  refine ct_in (by decide +kernel) (show 3 ≤ 3 by decide) (by simp [Value.category]) hl (fun X I O _ => ?_)
  show Ab X g 0 0 _ 0 [some (.ref (1)), some (.int (a0)), some (.int (a1))] [] _
  refine ab_aload_n O 0 dX3_comesBefore_0 rfl rfl ?_
  refine ab_iload_n O 1 dX3_comesBefore_1 rfl rfl ?_
  refine ab_callvI O I.2.2.2.2.2.2 (fr := False) (st := []) lk_X3_39 rfl (at_1 _ _ _) dX3_comesBefore_2 (c_X3_hasEdge (d - 1) (by omega) _ O.2.2.2.2.2.2.1 _ _ _ _ h) rfl rfl ⟨by rw [I.2.1]; show d - 1 + 1 ≤ d; omega, by rw [I.2.1]; show 8 + (_ + 11) + 36 * (d - 1) ≤ 36 * d; omega⟩ (show 0 ≤ 8 by decide) ⟨by rw [I.2.1]; show 0 + 0 ≤ 0; decide, by rw [I.2.1]; show 0 + 0 ≤ 0; decide⟩ (fun q => q.elim) (fun E u q => q.elim) (fun r2 u hu => ?_)
  obtain ⟨V1, rfl, h⟩ := hu
  refine ab_if_eq O 16 dX3_comesBefore_5 rfl (fun q3 => ?_) (fun q3 => ?_)
  · have h := h.1 q3
    refine ab_aload_n O 0 dX3_comesBefore_16 rfl rfl ?_
    refine ab_iload_n O 1 dX3_comesBefore_17 rfl rfl ?_
    refine ab_callvI O I.2.2.2.2.2.2 (fr := False) (st := []) lk_X3_39 rfl (at_1 _ _ _) dX3_comesBefore_18 (c_X3_hasEdge (d - 1) (by omega) _ O.2.2.2.2.2.2.1 _ _ _ _ h) rfl rfl ⟨by rw [I.2.1]; show d - 1 + 1 ≤ d; omega, by rw [I.2.1]; show 8 + (_ + 11) + 36 * (d - 1) ≤ 36 * d; omega⟩ (show 0 ≤ 8 by decide) ⟨by rw [I.2.1]; show 0 + 0 ≤ 0; decide, by rw [I.2.1]; show 0 + 0 ≤ 0; decide⟩ (fun q => q.elim) (fun E u q => q.elim) (fun r5 u hu => ?_)
    obtain ⟨V4, rfl, h⟩ := hu
    exact ab_ireturn O I dX3_comesBefore_21 (by decide) (by decide) h.1 ⟨_, rfl, h.2⟩
  · have h := h.2 q3
    refine ab_aload_n O 0 dX3_comesBefore_8 rfl rfl ?_
    refine ab_iload_n O 2 dX3_comesBefore_9 rfl rfl ?_
    refine ab_callvI O I.2.2.2.2.2.2 (fr := False) (st := []) lk_X3_39 rfl (at_1 _ _ _) dX3_comesBefore_10 (c_X3_hasEdge (d - 1) (by omega) _ O.2.2.2.2.2.2.1 _ _ _ _ h) rfl rfl ⟨by rw [I.2.1]; show d - 1 + 1 ≤ d; omega, by rw [I.2.1]; show 8 + (_ + 11) + 36 * (d - 1) ≤ 36 * d; omega⟩ (show 0 ≤ 8 by decide) ⟨by rw [I.2.1]; show 0 + 0 ≤ 0; decide, by rw [I.2.1]; show 0 + 0 ≤ 0; decide⟩ (fun q => q.elim) (fun E u q => q.elim) (fun r7 u hu => ?_)
    obtain ⟨V6, rfl, h⟩ := hu
    refine ab_if_ne O 22 dX3_comesBefore_13 rfl (fun q8 => ?_) (fun q8 => ?_)
    · have h := h.2 q8
      refine ab_aload_n O 0 dX3_comesBefore_22 rfl rfl ?_
      refine ab_get O fl_X3_21 dX3_comesBefore_23 (at_1 _ _ _) rfl ?_
      refine ab_iload_n O 1 dX3_comesBefore_26 rfl rfl ?_
      refine ab_iald O dX3_comesBefore_27 (at_5 _ _ _) h.1 ?_
      have h := h.2
      refine ab_aload_n O 0 dX3_comesBefore_28 rfl rfl ?_
      refine ab_get O fl_X3_21 dX3_comesBefore_29 (at_1 _ _ _) rfl ?_
      refine ab_iload_n O 2 dX3_comesBefore_32 rfl rfl ?_
      refine ab_iald O dX3_comesBefore_33 (at_5 _ _ _) h.1 ?_
      have h := h.2
      refine ab_icmp_eq O 58 dX3_comesBefore_34 rfl (fun q9 => ?_) (fun q9 => ?_)
      · have h := h.1 q9
        refine ab_iload_n O 1 dX3_comesBefore_58 rfl rfl ?_
        refine ab_iload_n O 2 dX3_comesBefore_59 rfl rfl ?_
        refine ab_icmp_ge O 67 dX3_comesBefore_60 rfl (fun q10 => ?_) (fun q10 => ?_)
        · have h := h.1 q10
          refine ab_iconst O 0 dX3_comesBefore_67 rfl ?_
          exact ab_ireturn O I dX3_comesBefore_68 (by decide) (by decide) (by rfl) ⟨_, rfl, h⟩
        · have h := h.2 q10
          refine ab_iconst O 1 dX3_comesBefore_63 rfl ?_
          refine ab_goto O 68 dX3_comesBefore_64 rfl ?_
          exact ab_ireturn O I dX3_comesBefore_68 (by decide) (by decide) (by rfl) ⟨_, rfl, h⟩
      · have h := h.2 q9
        refine ab_aload_n O 0 dX3_comesBefore_37 rfl rfl ?_
        refine ab_get O fl_X3_21 dX3_comesBefore_38 (at_1 _ _ _) rfl ?_
        refine ab_iload_n O 1 dX3_comesBefore_41 rfl rfl ?_
        refine ab_iald O dX3_comesBefore_42 (at_5 _ _ _) h.1 ?_
        have h := h.2
        refine ab_aload_n O 0 dX3_comesBefore_43 rfl rfl ?_
        refine ab_get O fl_X3_21 dX3_comesBefore_44 (at_1 _ _ _) rfl ?_
        refine ab_iload_n O 2 dX3_comesBefore_47 rfl rfl ?_
        refine ab_iald O dX3_comesBefore_48 (at_5 _ _ _) h.1 ?_
        have h := h.2
        refine ab_icmp_ge O 56 dX3_comesBefore_49 rfl (fun q11 => ?_) (fun q11 => ?_)
        · have h := h.1 q11
          refine ab_iconst O 0 dX3_comesBefore_56 rfl ?_
          exact ab_ireturn O I dX3_comesBefore_57 (by decide) (by decide) (by rfl) ⟨_, rfl, h⟩
        · have h := h.2 q11
          refine ab_iconst O 1 dX3_comesBefore_52 rfl ?_
          refine ab_goto O 57 dX3_comesBefore_53 rfl ?_
          exact ab_ireturn O I dX3_comesBefore_57 (by decide) (by decide) (by rfl) ⟨_, rfl, h⟩
    · have h := h.1 q8
      refine ab_aload_n O 0 dX3_comesBefore_16 rfl rfl ?_
      refine ab_iload_n O 1 dX3_comesBefore_17 rfl rfl ?_
      refine ab_callvI O I.2.2.2.2.2.2 (fr := False) (st := []) lk_X3_39 rfl (at_1 _ _ _) dX3_comesBefore_18 (c_X3_hasEdge (d - 1) (by omega) _ O.2.2.2.2.2.2.1 _ _ _ _ h) rfl rfl ⟨by rw [I.2.1]; show d - 1 + 1 ≤ d; omega, by rw [I.2.1]; show 8 + (_ + 11) + 36 * (d - 1) ≤ 36 * d; omega⟩ (show 0 ≤ 8 by decide) ⟨by rw [I.2.1]; show 0 + 0 ≤ 0; decide, by rw [I.2.1]; show 0 + 0 ≤ 0; decide⟩ (fun q => q.elim) (fun E u q => q.elim) (fun r13 u hu => ?_)
      obtain ⟨V12, rfl, h⟩ := hu
      exact ab_ireturn O I dX3_comesBefore_21 (by decide) (by decide) h.1 ⟨_, rfl, h.2⟩

def wp_X3_isPresent (V : Mm) (a0 : Int32) (post : Int32 → Mm → Prop) : Prop := (wp_X3_hasEdge V (a0) (fun (r2 : Int32) (V1 : Mm) => ((r2 = 0 → post 0 V1) ∧ (¬ r2 = 0 → (vp_in a0 60 ∧ (((V1 6 (Int32.toNatClampNeg (a0))) = 0 → post 0 V1) ∧ (¬ (V1 6 (Int32.toNatClampNeg (a0))) = 0 → post 1 V1)))))))
set_option maxHeartbeats 4000000 in
theorem c_X3_isPresent (d : Nat) (hd : 1 ≤ d) (l : Launch) (hl : l.stackTraces = false) (g : ab_G) (o : Nat → Int64) (D : Nat → UInt64) (a0 : Int32) {V : Mm} {post : Int32 → Mm → Prop} (h : wp_X3_isPresent V a0 post) : Ct l g tk_strs False d 0 0 yX3_isPresent cX3_isPresent 2 (some .boolean) [.ref 1, .int a0] (SW V o D) (tk_I g (fun r u => ∃ V : Mm, u = SW V o D ∧ post r V)) (fun _ _ => False) := by
  refine ct_in (by decide +kernel) (show 2 ≤ 2 by decide) (by simp [Value.category]) hl (fun X I O _ => ?_)
  show Ab X g 0 0 _ 0 [some (.ref (1)), some (.int (a0))] [] _
  refine ab_aload_n O 0 dX3_isPresent_0 rfl rfl ?_
  refine ab_iload_n O 1 dX3_isPresent_1 rfl rfl ?_
  refine ab_callvI O I.2.2.2.2.2.2 (fr := False) (st := []) lk_X3_39 rfl (at_1 _ _ _) dX3_isPresent_2 (c_X3_hasEdge (d - 1) (by omega) _ O.2.2.2.2.2.2.1 _ _ _ _ h) rfl rfl ⟨by rw [I.2.1]; show d - 1 + 1 ≤ d; omega, by rw [I.2.1]; show 8 + (_ + 11) + 36 * (d - 1) ≤ 36 * d; omega⟩ (show 0 ≤ 8 by decide) ⟨by rw [I.2.1]; show 0 + 0 ≤ 0; decide, by rw [I.2.1]; show 0 + 0 ≤ 0; decide⟩ (fun q => q.elim) (fun E u q => q.elim) (fun r2 u hu => ?_)
  obtain ⟨V1, rfl, h⟩ := hu
  refine ab_if_eq O 21 dX3_isPresent_5 rfl (fun q3 => ?_) (fun q3 => ?_)
  · have h := h.1 q3
    refine ab_iconst O 0 dX3_isPresent_21 rfl ?_
    exact ab_ireturn O I dX3_isPresent_22 (by decide) (by decide) (by rfl) ⟨_, rfl, h⟩
  · have h := h.2 q3
    refine ab_aload_n O 0 dX3_isPresent_8 rfl rfl ?_
    refine ab_get O fl_X3_24 dX3_isPresent_9 (at_1 _ _ _) rfl ?_
    refine ab_iload_n O 1 dX3_isPresent_12 rfl rfl ?_
    refine ab_zald O dX3_isPresent_13 (at_6 _ _ _) h.1 ?_
    have h := h.2
    refine ab_if_eq O 21 dX3_isPresent_14 rfl (fun q4 => ?_) (fun q4 => ?_)
    · have h := h.1 q4
      refine ab_iconst O 0 dX3_isPresent_21 rfl ?_
      exact ab_ireturn O I dX3_isPresent_22 (by decide) (by decide) (by rfl) ⟨_, rfl, h⟩
    · have h := h.2 q4
      refine ab_iconst O 1 dX3_isPresent_17 rfl ?_
      refine ab_goto O 22 dX3_isPresent_18 rfl ?_
      exact ab_ireturn O I dX3_isPresent_22 (by decide) (by decide) (by rfl) ⟨_, rfl, h⟩

def wp_X3_joins (V : Mm) (a0 a1 a2 : Int32) (post : Int32 → Mm → Prop) : Prop := (wp_X3_isPresent V (a0) (fun (r2 : Int32) (V1 : Mm) => ((r2 = 0 → post 0 V1) ∧ (¬ r2 = 0 → (wp_X3_acrossFrom V1 (a0) (a1) (fun (r5 : Int32) (V4 : Mm) => ((r5 = a2 → post 1 V4) ∧ (¬ r5 = a2 → post 0 V4))))))))
set_option maxHeartbeats 4000000 in
theorem c_X3_joins (d : Nat) (hd : 3 ≤ d) (l : Launch) (hl : l.stackTraces = false) (g : ab_G) (o : Nat → Int64) (D : Nat → UInt64) (a0 : Int32) (a1 : Int32) (a2 : Int32) {V : Mm} {post : Int32 → Mm → Prop} (h : wp_X3_joins V a0 a1 a2 post) : Ct l g tk_strs False d 0 0 yX3_joins cX3_joins 4 (some .boolean) [.ref 1, .int a0, .int a1, .int a2] (SW V o D) (tk_I g (fun r u => ∃ V : Mm, u = SW V o D ∧ post r V)) (fun _ _ => False) := by
  refine ct_in (by decide +kernel) (show 4 ≤ 4 by decide) (by simp [Value.category]) hl (fun X I O _ => ?_)
  show Ab X g 0 0 _ 0 [some (.ref (1)), some (.int (a0)), some (.int (a1)), some (.int (a2))] [] _
  refine ab_aload_n O 0 dX3_joins_0 rfl rfl ?_
  refine ab_iload_n O 1 dX3_joins_1 rfl rfl ?_
  refine ab_callvI O I.2.2.2.2.2.2 (fr := False) (st := []) lk_X3_49 rfl (at_1 _ _ _) dX3_joins_2 (c_X3_isPresent (d - 1) (by omega) _ O.2.2.2.2.2.2.1 _ _ _ _ h) rfl rfl ⟨by rw [I.2.1]; show d - 1 + 1 ≤ d; omega, by rw [I.2.1]; show 8 + (_ + 11) + 36 * (d - 1) ≤ 36 * d; omega⟩ (show 0 ≤ 8 by decide) ⟨by rw [I.2.1]; show 0 + 0 ≤ 0; decide, by rw [I.2.1]; show 0 + 0 ≤ 0; decide⟩ (fun q => q.elim) (fun E u q => q.elim) (fun r2 u hu => ?_)
  obtain ⟨V1, rfl, h⟩ := hu
  refine ab_if_eq O 22 dX3_joins_5 rfl (fun q3 => ?_) (fun q3 => ?_)
  · have h := h.1 q3
    refine ab_iconst O 0 dX3_joins_22 rfl ?_
    exact ab_ireturn O I dX3_joins_23 (by decide) (by decide) (by rfl) ⟨_, rfl, h⟩
  · have h := h.2 q3
    refine ab_aload_n O 0 dX3_joins_8 rfl rfl ?_
    refine ab_iload_n O 1 dX3_joins_9 rfl rfl ?_
    refine ab_iload_n O 2 dX3_joins_10 rfl rfl ?_
    refine ab_callvI O I.2.2.2.2.2.2 (fr := False) (st := []) lk_X3_52 rfl (at_1 _ _ _) dX3_joins_11 (c_X3_acrossFrom (d - 1) (by omega) _ O.2.2.2.2.2.2.1 _ _ _ _ _ h) rfl rfl ⟨by rw [I.2.1]; show d - 1 + 1 ≤ d; omega, by rw [I.2.1]; show 8 + (_ + 11) + 36 * (d - 1) ≤ 36 * d; omega⟩ (show 0 ≤ 8 by decide) ⟨by rw [I.2.1]; show 0 + 0 ≤ 0; decide, by rw [I.2.1]; show 0 + 0 ≤ 0; decide⟩ (fun q => q.elim) (fun E u q => q.elim) (fun r5 u hu => ?_)
    obtain ⟨V4, rfl, h⟩ := hu
    refine ab_iload_n O 3 dX3_joins_14 rfl rfl ?_
    refine ab_icmp_ne O 22 dX3_joins_15 rfl (fun q6 => ?_) (fun q6 => ?_)
    · have h := h.2 q6
      refine ab_iconst O 0 dX3_joins_22 rfl ?_
      exact ab_ireturn O I dX3_joins_23 (by decide) (by decide) (by rfl) ⟨_, rfl, h⟩
    · have h := h.1 q6
      refine ab_iconst O 1 dX3_joins_18 rfl ?_
      refine ab_goto O 23 dX3_joins_19 rfl ?_
      exact ab_ireturn O I dX3_joins_23 (by decide) (by decide) (by rfl) ⟨_, rfl, h⟩

def wp_X3_countBetween_L5 (y5_1 y5_2 : Int32) (post : Int32 → Mm → Prop) (kx : Mm → Int32 → Int32 → Prop) : Nat → Mm → Int32 → Int32 → Prop
  | 0, _, _, _ => False
  | n5 + 1, V, x5_3, x5_4 => (((V 1 6) ≤ x5_4 → kx (V) (x5_3) (x5_4)) ∧ (¬ (V 1 6) ≤ x5_4 → (wp_X3_joins V (x5_4) (y5_1) (y5_2) (fun (r3 : Int32) (V2 : Mm) => ((r3 = 0 → wp_X3_countBetween_L5 y5_1 y5_2 post kx n5 (V2) (x5_3) ((x5_4 + (1)))) ∧ (¬ r3 = 0 → wp_X3_countBetween_L5 y5_1 y5_2 post kx n5 (V2) ((x5_3 + (1))) ((x5_4 + (1)))))))))

def wp_X3_countBetween (V : Mm) (a0 a1 : Int32) (post : Int32 → Mm → Prop) : Prop := (∃ m5 : Nat, wp_X3_countBetween_L5 (a0) (a1) post (fun (V5 : Mm) (x6 : Int32) (x7 : Int32) => post x6 V5) m5 (V) (0) (0))
set_option maxHeartbeats 4000000 in
theorem cl_X3_countBetween_L5 {X : ab_M} {g : ab_G} {l : Launch} {d : Nat} (hd : 4 ≤ d) (y5_1 y5_2 : Int32) {post : Int32 → Mm → Prop} {kx : Mm → Int32 → Int32 → Prop} {o : Nat → Int64} {D : Nat → UInt64} (O : ab_Ok X g cX3_countBetween RX3) (I : ab_I X l tk_strs 5 (some .int) yX3_countBetween.name d 0 0) (hk : ∀ (V : Mm) (x5_3 : Int32) (x5_4 : Int32), kx V x5_3 x5_4 → Ab X g 0 0 (tk_Q X g (tk_I g (fun r u => ∃ V : Mm, u = SW V o D ∧ post r V)) (fun _ _ => False) 0 0) 34 [none, none, none, some (.int (x5_3)), none] [] (SW V o D)) : ∀ (n : Nat) (V : Mm) (x5_3 : Int32) (x5_4 : Int32), wp_X3_countBetween_L5 y5_1 y5_2 post kx n V x5_3 x5_4 → Ab X g 0 0 (tk_Q X g (tk_I g (fun r u => ∃ V : Mm, u = SW V o D ∧ post r V)) (fun _ _ => False) 0 0) 5 [some (.ref (1)), some (.int (y5_1)), some (.int (y5_2)), some (.int (x5_3)), some (.int (x5_4))] [] (SW V o D) := by
  intro n
  induction n with
  | zero => intro V x5_3 x5_4 h; exact h.elim
  | succ n ih =>
    intro V x5_3 x5_4 h
    refine ab_iload O dX3_countBetween_5 rfl ?_
    refine ab_aload_n O 0 dX3_countBetween_7 rfl rfl ?_
    refine ab_get O fl_X3_32 dX3_countBetween_8 (at_1 _ _ _) rfl ?_
    refine ab_icmp_ge O 34 dX3_countBetween_11 rfl (fun q1 => ?_) (fun q1 => ?_)
    · have h := h.1 q1
      exact ab_less (hk (V) (x5_3) (x5_4) h) (ab_le_n (ab_le_n (ab_le_n (ab_le_s (ab_le_n ab_le_0)))))
    · have h := h.2 q1
      refine ab_aload_n O 0 dX3_countBetween_14 rfl rfl ?_
      refine ab_iload O dX3_countBetween_15 rfl ?_
      refine ab_iload_n O 1 dX3_countBetween_17 rfl rfl ?_
      refine ab_iload_n O 2 dX3_countBetween_18 rfl rfl ?_
      refine ab_callvI O I.2.2.2.2.2.2 (fr := False) (st := []) lk_X3_56 rfl (at_1 _ _ _) dX3_countBetween_19 (c_X3_joins (d - 1) (by omega) _ O.2.2.2.2.2.2.1 _ _ _ _ _ _ h) rfl rfl ⟨by rw [I.2.1]; show d - 1 + 1 ≤ d; omega, by rw [I.2.1]; show 8 + (_ + 11) + 36 * (d - 1) ≤ 36 * d; omega⟩ (show 0 ≤ 8 by decide) ⟨by rw [I.2.1]; show 0 + 0 ≤ 0; decide, by rw [I.2.1]; show 0 + 0 ≤ 0; decide⟩ (fun q => q.elim) (fun E u q => q.elim) (fun r3 u hu => ?_)
      obtain ⟨V2, rfl, h⟩ := hu
      refine ab_if_eq O 28 dX3_countBetween_22 rfl (fun q4 => ?_) (fun q4 => ?_)
      · have h := h.1 q4
        refine ab_iinc O ((x5_4 + (1))) dX3_countBetween_28 rfl rfl ?_
        refine ab_goto O 5 dX3_countBetween_31 rfl ?_
        exact ab_less (ih (V2) (x5_3) ((x5_4 + (1))) h) (ab_le_s (ab_le_s (ab_le_s (ab_le_s (ab_le_s ab_le_0)))))
      · have h := h.2 q4
        refine ab_iinc O ((x5_3 + (1))) dX3_countBetween_25 rfl rfl ?_
        refine ab_iinc O ((x5_4 + (1))) dX3_countBetween_28 rfl rfl ?_
        refine ab_goto O 5 dX3_countBetween_31 rfl ?_
        exact ab_less (ih (V2) ((x5_3 + (1))) ((x5_4 + (1))) h) (ab_le_s (ab_le_s (ab_le_s (ab_le_s (ab_le_s ab_le_0)))))
set_option maxHeartbeats 4000000 in
theorem c_X3_countBetween (d : Nat) (hd : 4 ≤ d) (l : Launch) (hl : l.stackTraces = false) (g : ab_G) (o : Nat → Int64) (D : Nat → UInt64) (a0 : Int32) (a1 : Int32) {V : Mm} {post : Int32 → Mm → Prop} (h : wp_X3_countBetween V a0 a1 post) : Ct l g tk_strs False d 0 0 yX3_countBetween cX3_countBetween 5 (some .int) [.ref 1, .int a0, .int a1] (SW V o D) (tk_I g (fun r u => ∃ V : Mm, u = SW V o D ∧ post r V)) (fun _ _ => False) := by
  refine ct_in (by decide +kernel) (show 3 ≤ 5 by decide) (by simp [Value.category]) hl (fun X I O _ => ?_)
  show Ab X g 0 0 _ 0 [some (.ref (1)), some (.int (a0)), some (.int (a1)), none, none] [] _
  refine ab_iconst O 0 dX3_countBetween_0 rfl ?_
  refine ab_istore_n O 3 dX3_countBetween_1 rfl (show 3 < 5 by decide) ?_
  refine ab_iconst O 0 dX3_countBetween_2 rfl ?_
  refine ab_istore O dX3_countBetween_3 (show 4 < 5 by decide) ?_
  obtain ⟨n9, h⟩ := h
  refine ab_less (cl_X3_countBetween_L5 hd (a0) (a1) O I (fun V5 x6 x7 h => ?_) n9 (V) (0) (0) h) (ab_le_s (ab_le_s (ab_le_s (ab_le_s (ab_le_s ab_le_0)))))
  refine ab_iload_n O 3 dX3_countBetween_34 rfl rfl ?_
  exact ab_ireturn O I dX3_countBetween_35 (by decide) (by decide) (by rfl) ⟨_, rfl, h⟩

def wp_X3_edgeCount (V : Mm) (post : Int32 → Mm → Prop) : Prop := post (V 1 6) V
set_option maxHeartbeats 4000000 in
theorem c_X3_edgeCount (d : Nat) (hd : 0 ≤ d) (l : Launch) (hl : l.stackTraces = false) (g : ab_G) (o : Nat → Int64) (D : Nat → UInt64) {V : Mm} {post : Int32 → Mm → Prop} (h : wp_X3_edgeCount V post) : Ct l g tk_strs False d 0 0 yX3_edgeCount cX3_edgeCount 1 (some .int) [.ref 1] (SW V o D) (tk_I g (fun r u => ∃ V : Mm, u = SW V o D ∧ post r V)) (fun _ _ => False) := by
  refine ct_in (by decide +kernel) (show 1 ≤ 1 by decide) (by simp [Value.category]) hl (fun X I O _ => ?_)
  show Ab X g 0 0 _ 0 [some (.ref (1))] [] _
  refine ab_aload_n O 0 dX3_edgeCount_0 rfl rfl ?_
  refine ab_get O fl_X3_32 dX3_edgeCount_1 (at_1 _ _ _) rfl ?_
  exact ab_ireturn O I dX3_edgeCount_4 (by decide) (by decide) (by rfl) ⟨_, rfl, h⟩

def wp_X3_firstBetween_L5 (y5_1 y5_2 : Int32) (post : Int32 → Mm → Prop) (kx : Mm → Int32 → Int32 → Prop) : Nat → Mm → Int32 → Int32 → Prop
  | 0, _, _, _ => False
  | n5 + 1, V, x5_3, x5_4 => (((V 1 6) ≤ x5_4 → kx (V) (x5_3) (x5_4)) ∧ (¬ (V 1 6) ≤ x5_4 → (wp_X3_joins V (x5_4) (y5_1) (y5_2) (fun (r3 : Int32) (V2 : Mm) => ((r3 = 0 → wp_X3_firstBetween_L5 y5_1 y5_2 post kx n5 (V2) (x5_3) ((x5_4 + (1)))) ∧ (¬ r3 = 0 → (wp_X3_comesBefore V2 (x5_4) (x5_3) (fun (r6 : Int32) (V5 : Mm) => ((r6 = 0 → wp_X3_firstBetween_L5 y5_1 y5_2 post kx n5 (V5) (x5_3) ((x5_4 + (1)))) ∧ (¬ r6 = 0 → wp_X3_firstBetween_L5 y5_1 y5_2 post kx n5 (V5) (x5_4) ((x5_4 + (1)))))))))))))

def wp_X3_firstBetween (V : Mm) (a0 a1 : Int32) (post : Int32 → Mm → Prop) : Prop := (∃ m5 : Nat, wp_X3_firstBetween_L5 (a0) (a1) post (fun (V8 : Mm) (x9 : Int32) (x10 : Int32) => post x9 V8) m5 (V) ((-1)) (0))
set_option maxHeartbeats 4000000 in
theorem cl_X3_firstBetween_L5 {X : ab_M} {g : ab_G} {l : Launch} {d : Nat} (hd : 4 ≤ d) (y5_1 y5_2 : Int32) {post : Int32 → Mm → Prop} {kx : Mm → Int32 → Int32 → Prop} {o : Nat → Int64} {D : Nat → UInt64} (O : ab_Ok X g cX3_firstBetween RX3) (I : ab_I X l tk_strs 5 (some .int) yX3_firstBetween.name d 0 0) (hk : ∀ (V : Mm) (x5_3 : Int32) (x5_4 : Int32), kx V x5_3 x5_4 → Ab X g 0 0 (tk_Q X g (tk_I g (fun r u => ∃ V : Mm, u = SW V o D ∧ post r V)) (fun _ _ => False) 0 0) 44 [none, none, none, some (.int (x5_3)), none] [] (SW V o D)) : ∀ (n : Nat) (V : Mm) (x5_3 : Int32) (x5_4 : Int32), wp_X3_firstBetween_L5 y5_1 y5_2 post kx n V x5_3 x5_4 → Ab X g 0 0 (tk_Q X g (tk_I g (fun r u => ∃ V : Mm, u = SW V o D ∧ post r V)) (fun _ _ => False) 0 0) 5 [some (.ref (1)), some (.int (y5_1)), some (.int (y5_2)), some (.int (x5_3)), some (.int (x5_4))] [] (SW V o D) := by
  intro n
  induction n with
  | zero => intro V x5_3 x5_4 h; exact h.elim
  | succ n ih =>
    intro V x5_3 x5_4 h
    refine ab_iload O dX3_firstBetween_5 rfl ?_
    refine ab_aload_n O 0 dX3_firstBetween_7 rfl rfl ?_
    refine ab_get O fl_X3_32 dX3_firstBetween_8 (at_1 _ _ _) rfl ?_
    refine ab_icmp_ge O 44 dX3_firstBetween_11 rfl (fun q1 => ?_) (fun q1 => ?_)
    · have h := h.1 q1
      exact ab_less (hk (V) (x5_3) (x5_4) h) (ab_le_n (ab_le_n (ab_le_n (ab_le_s (ab_le_n ab_le_0)))))
    · have h := h.2 q1
      refine ab_aload_n O 0 dX3_firstBetween_14 rfl rfl ?_
      refine ab_iload O dX3_firstBetween_15 rfl ?_
      refine ab_iload_n O 1 dX3_firstBetween_17 rfl rfl ?_
      refine ab_iload_n O 2 dX3_firstBetween_18 rfl rfl ?_
      refine ab_callvI O I.2.2.2.2.2.2 (fr := False) (st := []) lk_X3_56 rfl (at_1 _ _ _) dX3_firstBetween_19 (c_X3_joins (d - 1) (by omega) _ O.2.2.2.2.2.2.1 _ _ _ _ _ _ h) rfl rfl ⟨by rw [I.2.1]; show d - 1 + 1 ≤ d; omega, by rw [I.2.1]; show 8 + (_ + 11) + 36 * (d - 1) ≤ 36 * d; omega⟩ (show 0 ≤ 8 by decide) ⟨by rw [I.2.1]; show 0 + 0 ≤ 0; decide, by rw [I.2.1]; show 0 + 0 ≤ 0; decide⟩ (fun q => q.elim) (fun E u q => q.elim) (fun r3 u hu => ?_)
      obtain ⟨V2, rfl, h⟩ := hu
      refine ab_if_eq O 38 dX3_firstBetween_22 rfl (fun q4 => ?_) (fun q4 => ?_)
      · have h := h.1 q4
        refine ab_iinc O ((x5_4 + (1))) dX3_firstBetween_38 rfl rfl ?_
        refine ab_goto O 5 dX3_firstBetween_41 rfl ?_
        exact ab_less (ih (V2) (x5_3) ((x5_4 + (1))) h) (ab_le_s (ab_le_s (ab_le_s (ab_le_s (ab_le_s ab_le_0)))))
      · have h := h.2 q4
        refine ab_aload_n O 0 dX3_firstBetween_25 rfl rfl ?_
        refine ab_iload O dX3_firstBetween_26 rfl ?_
        refine ab_iload_n O 3 dX3_firstBetween_28 rfl rfl ?_
        refine ab_callvI O I.2.2.2.2.2.2 (fr := False) (st := []) lk_X3_60 rfl (at_1 _ _ _) dX3_firstBetween_29 (c_X3_comesBefore (d - 1) (by omega) _ O.2.2.2.2.2.2.1 _ _ _ _ _ h) rfl rfl ⟨by rw [I.2.1]; show d - 1 + 1 ≤ d; omega, by rw [I.2.1]; show 8 + (_ + 11) + 36 * (d - 1) ≤ 36 * d; omega⟩ (show 0 ≤ 8 by decide) ⟨by rw [I.2.1]; show 0 + 0 ≤ 0; decide, by rw [I.2.1]; show 0 + 0 ≤ 0; decide⟩ (fun q => q.elim) (fun E u q => q.elim) (fun r6 u hu => ?_)
        obtain ⟨V5, rfl, h⟩ := hu
        refine ab_if_eq O 38 dX3_firstBetween_32 rfl (fun q7 => ?_) (fun q7 => ?_)
        · have h := h.1 q7
          refine ab_iinc O ((x5_4 + (1))) dX3_firstBetween_38 rfl rfl ?_
          refine ab_goto O 5 dX3_firstBetween_41 rfl ?_
          exact ab_less (ih (V5) (x5_3) ((x5_4 + (1))) h) (ab_le_s (ab_le_s (ab_le_s (ab_le_s (ab_le_s ab_le_0)))))
        · have h := h.2 q7
          refine ab_iload O dX3_firstBetween_35 rfl ?_
          refine ab_istore_n O 3 dX3_firstBetween_37 rfl (show 3 < 5 by decide) ?_
          refine ab_iinc O ((x5_4 + (1))) dX3_firstBetween_38 rfl rfl ?_
          refine ab_goto O 5 dX3_firstBetween_41 rfl ?_
          exact ab_less (ih (V5) (x5_4) ((x5_4 + (1))) h) (ab_le_s (ab_le_s (ab_le_s (ab_le_s (ab_le_s ab_le_0)))))
set_option maxHeartbeats 4000000 in
theorem c_X3_firstBetween (d : Nat) (hd : 4 ≤ d) (l : Launch) (hl : l.stackTraces = false) (g : ab_G) (o : Nat → Int64) (D : Nat → UInt64) (a0 : Int32) (a1 : Int32) {V : Mm} {post : Int32 → Mm → Prop} (h : wp_X3_firstBetween V a0 a1 post) : Ct l g tk_strs False d 0 0 yX3_firstBetween cX3_firstBetween 5 (some .int) [.ref 1, .int a0, .int a1] (SW V o D) (tk_I g (fun r u => ∃ V : Mm, u = SW V o D ∧ post r V)) (fun _ _ => False) := by
  refine ct_in (by decide +kernel) (show 3 ≤ 5 by decide) (by simp [Value.category]) hl (fun X I O _ => ?_)
  show Ab X g 0 0 _ 0 [some (.ref (1)), some (.int (a0)), some (.int (a1)), none, none] [] _
  refine ab_iconst O (-1) dX3_firstBetween_0 rfl ?_
  refine ab_istore_n O 3 dX3_firstBetween_1 rfl (show 3 < 5 by decide) ?_
  refine ab_iconst O 0 dX3_firstBetween_2 rfl ?_
  refine ab_istore O dX3_firstBetween_3 (show 4 < 5 by decide) ?_
  obtain ⟨n9, h⟩ := h
  refine ab_less (cl_X3_firstBetween_L5 hd (a0) (a1) O I (fun V8 x9 x10 h => ?_) n9 (V) ((-1)) (0) h) (ab_le_s (ab_le_s (ab_le_s (ab_le_s (ab_le_s ab_le_0)))))
  refine ab_iload_n O 3 dX3_firstBetween_44 rfl rfl ?_
  exact ab_ireturn O I dX3_firstBetween_45 (by decide) (by decide) (by rfl) ⟨_, rfl, h⟩

def wp_X3_hasVertex (V : Mm) (a0 : Int32) (post : Int32 → Mm → Prop) : Prop := ((a0 < 0 → post 0 V) ∧ (¬ a0 < 0 → (((V 1 5) ≤ a0 → post 0 V) ∧ (¬ (V 1 5) ≤ a0 → post 1 V))))
set_option maxHeartbeats 4000000 in
theorem c_X3_hasVertex (d : Nat) (hd : 0 ≤ d) (l : Launch) (hl : l.stackTraces = false) (g : ab_G) (o : Nat → Int64) (D : Nat → UInt64) (a0 : Int32) {V : Mm} {post : Int32 → Mm → Prop} (h : wp_X3_hasVertex V a0 post) : Ct l g tk_strs False d 0 0 yX3_hasVertex cX3_hasVertex 2 (some .boolean) [.ref 1, .int a0] (SW V o D) (tk_I g (fun r u => ∃ V : Mm, u = SW V o D ∧ post r V)) (fun _ _ => False) := by
  refine ct_in (by decide +kernel) (show 2 ≤ 2 by decide) (by simp [Value.category]) hl (fun X I O _ => ?_)
  show Ab X g 0 0 _ 0 [some (.ref (1)), some (.int (a0))] [] _
  refine ab_iload_n O 1 dX3_hasVertex_0 rfl rfl ?_
  refine ab_if_lt O 16 dX3_hasVertex_1 rfl (fun q1 => ?_) (fun q1 => ?_)
  · have h := h.1 q1
    refine ab_iconst O 0 dX3_hasVertex_16 rfl ?_
    exact ab_ireturn O I dX3_hasVertex_17 (by decide) (by decide) (by rfl) ⟨_, rfl, h⟩
  · have h := h.2 q1
    refine ab_iload_n O 1 dX3_hasVertex_4 rfl rfl ?_
    refine ab_aload_n O 0 dX3_hasVertex_5 rfl rfl ?_
    refine ab_get O fl_X3_28 dX3_hasVertex_6 (at_1 _ _ _) rfl ?_
    refine ab_icmp_ge O 16 dX3_hasVertex_9 rfl (fun q2 => ?_) (fun q2 => ?_)
    · have h := h.1 q2
      refine ab_iconst O 0 dX3_hasVertex_16 rfl ?_
      exact ab_ireturn O I dX3_hasVertex_17 (by decide) (by decide) (by rfl) ⟨_, rfl, h⟩
    · have h := h.2 q2
      refine ab_iconst O 1 dX3_hasVertex_12 rfl ?_
      refine ab_goto O 17 dX3_hasVertex_13 rfl ?_
      exact ab_ireturn O I dX3_hasVertex_17 (by decide) (by decide) (by rfl) ⟨_, rfl, h⟩

def wp_X3_markRemoved (V : Mm) (a0 : Int32) (post : Mm → Prop) : Prop := (wp_X3_hasEdge V (a0) (fun (r2 : Int32) (V1 : Mm) => ((r2 = 0 → post V1) ∧ (¬ r2 = 0 → (vp_in a0 60 ∧ ∀ V4 : Mm, V4 = wr V1 6 (Int32.toNatClampNeg (a0)) 0 → post V4)))))
set_option maxHeartbeats 4000000 in
theorem c_X3_markRemoved (d : Nat) (hd : 1 ≤ d) (l : Launch) (hl : l.stackTraces = false) (g : ab_G) (o : Nat → Int64) (D : Nat → UInt64) (a0 : Int32) {V : Mm} {post : Mm → Prop} (h : wp_X3_markRemoved V a0 post) : Ct l g tk_strs False d 0 0 yX3_markRemoved cX3_markRemoved 2 none [.ref 1, .int a0] (SW V o D) (tk_V g (fun u => ∃ V : Mm, u = SW V o D ∧ post V)) (fun _ _ => False) := by
  refine ct_in (by decide +kernel) (show 2 ≤ 2 by decide) (by simp [Value.category]) hl (fun X I O _ => ?_)
  show Ab X g 0 0 _ 0 [some (.ref (1)), some (.int (a0))] [] _
  refine ab_aload_n O 0 dX3_markRemoved_0 rfl rfl ?_
  refine ab_iload_n O 1 dX3_markRemoved_1 rfl rfl ?_
  refine ab_callvI O I.2.2.2.2.2.2 (fr := False) (st := []) lk_X3_39 rfl (at_1 _ _ _) dX3_markRemoved_2 (c_X3_hasEdge (d - 1) (by omega) _ O.2.2.2.2.2.2.1 _ _ _ _ h) rfl rfl ⟨by rw [I.2.1]; show d - 1 + 1 ≤ d; omega, by rw [I.2.1]; show 8 + (_ + 11) + 36 * (d - 1) ≤ 36 * d; omega⟩ (show 0 ≤ 8 by decide) ⟨by rw [I.2.1]; show 0 + 0 ≤ 0; decide, by rw [I.2.1]; show 0 + 0 ≤ 0; decide⟩ (fun q => q.elim) (fun E u q => q.elim) (fun r2 u hu => ?_)
  obtain ⟨V1, rfl, h⟩ := hu
  refine ab_if_eq O 15 dX3_markRemoved_5 rfl (fun q3 => ?_) (fun q3 => ?_)
  · have h := h.1 q3
    exact ab_return O I dX3_markRemoved_15 (by decide) (by decide) ⟨_, rfl, h⟩
  · have h := h.2 q3
    refine ab_aload_n O 0 dX3_markRemoved_8 rfl rfl ?_
    refine ab_get O fl_X3_24 dX3_markRemoved_9 (at_1 _ _ _) rfl ?_
    refine ab_iload_n O 1 dX3_markRemoved_12 rfl rfl ?_
    refine ab_iconst O 0 dX3_markRemoved_13 rfl ?_
    refine ab_zast O dX3_markRemoved_14 (at_6 _ _ _) h.1 ?_
    have h := h.2
    refine ab_eq ?_ rfl rfl rfl (sa_6 _ _ _ _ _).symm
    show Ab _ _ _ _ _ _ _ _ (SW (wr V1 6 (Int32.toNatClampNeg (a0)) 0) _ _)
    obtain ⟨V4, eV4⟩ : ∃ z : Mm, z = wr V1 6 (Int32.toNatClampNeg (a0)) 0 := ⟨_, rfl⟩
    rw [← eV4]
    have h := h V4 eV4
    exact ab_return O I dX3_markRemoved_15 (by decide) (by decide) ⟨_, rfl, h⟩

def wp_X3_putValue (V : Mm) (a0 a1 : Int32) (post : Mm → Prop) : Prop := (wp_X3_hasVertex V (a0) (fun (r2 : Int32) (V1 : Mm) => ((r2 = 0 → post V1) ∧ (¬ r2 = 0 → (vp_in a0 20 ∧ ∀ V4 : Mm, V4 = wr V1 2 (Int32.toNatClampNeg (a0)) a1 → post V4)))))
set_option maxHeartbeats 4000000 in
theorem c_X3_putValue (d : Nat) (hd : 1 ≤ d) (l : Launch) (hl : l.stackTraces = false) (g : ab_G) (o : Nat → Int64) (D : Nat → UInt64) (a0 : Int32) (a1 : Int32) {V : Mm} {post : Mm → Prop} (h : wp_X3_putValue V a0 a1 post) : Ct l g tk_strs False d 0 0 yX3_putValue cX3_putValue 3 none [.ref 1, .int a0, .int a1] (SW V o D) (tk_V g (fun u => ∃ V : Mm, u = SW V o D ∧ post V)) (fun _ _ => False) := by
  refine ct_in (by decide +kernel) (show 3 ≤ 3 by decide) (by simp [Value.category]) hl (fun X I O _ => ?_)
  show Ab X g 0 0 _ 0 [some (.ref (1)), some (.int (a0)), some (.int (a1))] [] _
  refine ab_aload_n O 0 dX3_putValue_0 rfl rfl ?_
  refine ab_iload_n O 1 dX3_putValue_1 rfl rfl ?_
  refine ab_callvI O I.2.2.2.2.2.2 (fr := False) (st := []) lk_X3_35 rfl (at_1 _ _ _) dX3_putValue_2 (c_X3_hasVertex (d - 1) (by omega) _ O.2.2.2.2.2.2.1 _ _ _ _ h) rfl rfl ⟨by rw [I.2.1]; show d - 1 + 1 ≤ d; omega, by rw [I.2.1]; show 8 + (_ + 11) + 36 * (d - 1) ≤ 36 * d; omega⟩ (show 0 ≤ 8 by decide) ⟨by rw [I.2.1]; show 0 + 0 ≤ 0; decide, by rw [I.2.1]; show 0 + 0 ≤ 0; decide⟩ (fun q => q.elim) (fun E u q => q.elim) (fun r2 u hu => ?_)
  obtain ⟨V1, rfl, h⟩ := hu
  refine ab_if_eq O 15 dX3_putValue_5 rfl (fun q3 => ?_) (fun q3 => ?_)
  · have h := h.1 q3
    exact ab_return O I dX3_putValue_15 (by decide) (by decide) ⟨_, rfl, h⟩
  · have h := h.2 q3
    refine ab_aload_n O 0 dX3_putValue_8 rfl rfl ?_
    refine ab_get O fl_X3_9 dX3_putValue_9 (at_1 _ _ _) rfl ?_
    refine ab_iload_n O 1 dX3_putValue_12 rfl rfl ?_
    refine ab_iload_n O 2 dX3_putValue_13 rfl rfl ?_
    refine ab_iast O dX3_putValue_14 (at_2 _ _ _) h.1 ?_
    have h := h.2
    refine ab_eq ?_ rfl rfl rfl (sa_2 _ _ _ _ _).symm
    obtain ⟨V4, eV4⟩ : ∃ z : Mm, z = wr V1 2 (Int32.toNatClampNeg (a0)) a1 := ⟨_, rfl⟩
    rw [← eV4]
    have h := h V4 eV4
    exact ab_return O I dX3_putValue_15 (by decide) (by decide) ⟨_, rfl, h⟩

def wp_X3_putWeight (V : Mm) (a0 a1 : Int32) (post : Mm → Prop) : Prop := (wp_X3_hasEdge V (a0) (fun (r2 : Int32) (V1 : Mm) => ((r2 = 0 → post V1) ∧ (¬ r2 = 0 → (vp_in a0 60 ∧ ∀ V4 : Mm, V4 = wr V1 5 (Int32.toNatClampNeg (a0)) a1 → post V4)))))
set_option maxHeartbeats 4000000 in
theorem c_X3_putWeight (d : Nat) (hd : 1 ≤ d) (l : Launch) (hl : l.stackTraces = false) (g : ab_G) (o : Nat → Int64) (D : Nat → UInt64) (a0 : Int32) (a1 : Int32) {V : Mm} {post : Mm → Prop} (h : wp_X3_putWeight V a0 a1 post) : Ct l g tk_strs False d 0 0 yX3_putWeight cX3_putWeight 3 none [.ref 1, .int a0, .int a1] (SW V o D) (tk_V g (fun u => ∃ V : Mm, u = SW V o D ∧ post V)) (fun _ _ => False) := by
  refine ct_in (by decide +kernel) (show 3 ≤ 3 by decide) (by simp [Value.category]) hl (fun X I O _ => ?_)
  show Ab X g 0 0 _ 0 [some (.ref (1)), some (.int (a0)), some (.int (a1))] [] _
  refine ab_aload_n O 0 dX3_putWeight_0 rfl rfl ?_
  refine ab_iload_n O 1 dX3_putWeight_1 rfl rfl ?_
  refine ab_callvI O I.2.2.2.2.2.2 (fr := False) (st := []) lk_X3_39 rfl (at_1 _ _ _) dX3_putWeight_2 (c_X3_hasEdge (d - 1) (by omega) _ O.2.2.2.2.2.2.1 _ _ _ _ h) rfl rfl ⟨by rw [I.2.1]; show d - 1 + 1 ≤ d; omega, by rw [I.2.1]; show 8 + (_ + 11) + 36 * (d - 1) ≤ 36 * d; omega⟩ (show 0 ≤ 8 by decide) ⟨by rw [I.2.1]; show 0 + 0 ≤ 0; decide, by rw [I.2.1]; show 0 + 0 ≤ 0; decide⟩ (fun q => q.elim) (fun E u q => q.elim) (fun r2 u hu => ?_)
  obtain ⟨V1, rfl, h⟩ := hu
  refine ab_if_eq O 15 dX3_putWeight_5 rfl (fun q3 => ?_) (fun q3 => ?_)
  · have h := h.1 q3
    exact ab_return O I dX3_putWeight_15 (by decide) (by decide) ⟨_, rfl, h⟩
  · have h := h.2 q3
    refine ab_aload_n O 0 dX3_putWeight_8 rfl rfl ?_
    refine ab_get O fl_X3_21 dX3_putWeight_9 (at_1 _ _ _) rfl ?_
    refine ab_iload_n O 1 dX3_putWeight_12 rfl rfl ?_
    refine ab_iload_n O 2 dX3_putWeight_13 rfl rfl ?_
    refine ab_iast O dX3_putWeight_14 (at_5 _ _ _) h.1 ?_
    have h := h.2
    refine ab_eq ?_ rfl rfl rfl (sa_5 _ _ _ _ _).symm
    obtain ⟨V4, eV4⟩ : ∃ z : Mm, z = wr V1 5 (Int32.toNatClampNeg (a0)) a1 := ⟨_, rfl⟩
    rw [← eV4]
    have h := h V4 eV4
    exact ab_return O I dX3_putWeight_15 (by decide) (by decide) ⟨_, rfl, h⟩

def wp_X3_valueOf (V : Mm) (a0 : Int32) (post : Int32 → Mm → Prop) : Prop := (wp_X3_hasVertex V (a0) (fun (r2 : Int32) (V1 : Mm) => ((r2 = 0 → post 0 V1) ∧ (¬ r2 = 0 → (vp_in a0 20 ∧ post (V1 2 (Int32.toNatClampNeg (a0))) V1)))))
set_option maxHeartbeats 4000000 in
theorem c_X3_valueOf (d : Nat) (hd : 1 ≤ d) (l : Launch) (hl : l.stackTraces = false) (g : ab_G) (o : Nat → Int64) (D : Nat → UInt64) (a0 : Int32) {V : Mm} {post : Int32 → Mm → Prop} (h : wp_X3_valueOf V a0 post) : Ct l g tk_strs False d 0 0 yX3_valueOf cX3_valueOf 2 (some .int) [.ref 1, .int a0] (SW V o D) (tk_I g (fun r u => ∃ V : Mm, u = SW V o D ∧ post r V)) (fun _ _ => False) := by
  refine ct_in (by decide +kernel) (show 2 ≤ 2 by decide) (by simp [Value.category]) hl (fun X I O _ => ?_)
  show Ab X g 0 0 _ 0 [some (.ref (1)), some (.int (a0))] [] _
  refine ab_aload_n O 0 dX3_valueOf_0 rfl rfl ?_
  refine ab_iload_n O 1 dX3_valueOf_1 rfl rfl ?_
  refine ab_callvI O I.2.2.2.2.2.2 (fr := False) (st := []) lk_X3_35 rfl (at_1 _ _ _) dX3_valueOf_2 (c_X3_hasVertex (d - 1) (by omega) _ O.2.2.2.2.2.2.1 _ _ _ _ h) rfl rfl ⟨by rw [I.2.1]; show d - 1 + 1 ≤ d; omega, by rw [I.2.1]; show 8 + (_ + 11) + 36 * (d - 1) ≤ 36 * d; omega⟩ (show 0 ≤ 8 by decide) ⟨by rw [I.2.1]; show 0 + 0 ≤ 0; decide, by rw [I.2.1]; show 0 + 0 ≤ 0; decide⟩ (fun q => q.elim) (fun E u q => q.elim) (fun r2 u hu => ?_)
  obtain ⟨V1, rfl, h⟩ := hu
  refine ab_if_eq O 17 dX3_valueOf_5 rfl (fun q3 => ?_) (fun q3 => ?_)
  · have h := h.1 q3
    refine ab_iconst O 0 dX3_valueOf_17 rfl ?_
    exact ab_ireturn O I dX3_valueOf_18 (by decide) (by decide) (by rfl) ⟨_, rfl, h⟩
  · have h := h.2 q3
    refine ab_aload_n O 0 dX3_valueOf_8 rfl rfl ?_
    refine ab_get O fl_X3_9 dX3_valueOf_9 (at_1 _ _ _) rfl ?_
    refine ab_iload_n O 1 dX3_valueOf_12 rfl rfl ?_
    refine ab_iald O dX3_valueOf_13 (at_2 _ _ _) h.1 ?_
    have h := h.2
    refine ab_goto O 18 dX3_valueOf_14 rfl ?_
    exact ab_ireturn O I dX3_valueOf_18 (by decide) (by decide) (by rfl) ⟨_, rfl, h⟩

def wp_X3_vertexCount (V : Mm) (post : Int32 → Mm → Prop) : Prop := post (V 1 5) V
set_option maxHeartbeats 4000000 in
theorem c_X3_vertexCount (d : Nat) (hd : 0 ≤ d) (l : Launch) (hl : l.stackTraces = false) (g : ab_G) (o : Nat → Int64) (D : Nat → UInt64) {V : Mm} {post : Int32 → Mm → Prop} (h : wp_X3_vertexCount V post) : Ct l g tk_strs False d 0 0 yX3_vertexCount cX3_vertexCount 1 (some .int) [.ref 1] (SW V o D) (tk_I g (fun r u => ∃ V : Mm, u = SW V o D ∧ post r V)) (fun _ _ => False) := by
  refine ct_in (by decide +kernel) (show 1 ≤ 1 by decide) (by simp [Value.category]) hl (fun X I O _ => ?_)
  show Ab X g 0 0 _ 0 [some (.ref (1))] [] _
  refine ab_aload_n O 0 dX3_vertexCount_0 rfl rfl ?_
  refine ab_get O fl_X3_28 dX3_vertexCount_1 (at_1 _ _ _) rfl ?_
  exact ab_ireturn O I dX3_vertexCount_4 (by decide) (by decide) (by rfl) ⟨_, rfl, h⟩

def wp_X3_weightOf (V : Mm) (a0 : Int32) (post : Int32 → Mm → Prop) : Prop := (wp_X3_hasEdge V (a0) (fun (r2 : Int32) (V1 : Mm) => ((r2 = 0 → post 0 V1) ∧ (¬ r2 = 0 → (vp_in a0 60 ∧ post (V1 5 (Int32.toNatClampNeg (a0))) V1)))))
set_option maxHeartbeats 4000000 in
theorem c_X3_weightOf (d : Nat) (hd : 1 ≤ d) (l : Launch) (hl : l.stackTraces = false) (g : ab_G) (o : Nat → Int64) (D : Nat → UInt64) (a0 : Int32) {V : Mm} {post : Int32 → Mm → Prop} (h : wp_X3_weightOf V a0 post) : Ct l g tk_strs False d 0 0 yX3_weightOf cX3_weightOf 2 (some .int) [.ref 1, .int a0] (SW V o D) (tk_I g (fun r u => ∃ V : Mm, u = SW V o D ∧ post r V)) (fun _ _ => False) := by
  refine ct_in (by decide +kernel) (show 2 ≤ 2 by decide) (by simp [Value.category]) hl (fun X I O _ => ?_)
  show Ab X g 0 0 _ 0 [some (.ref (1)), some (.int (a0))] [] _
  refine ab_aload_n O 0 dX3_weightOf_0 rfl rfl ?_
  refine ab_iload_n O 1 dX3_weightOf_1 rfl rfl ?_
  refine ab_callvI O I.2.2.2.2.2.2 (fr := False) (st := []) lk_X3_39 rfl (at_1 _ _ _) dX3_weightOf_2 (c_X3_hasEdge (d - 1) (by omega) _ O.2.2.2.2.2.2.1 _ _ _ _ h) rfl rfl ⟨by rw [I.2.1]; show d - 1 + 1 ≤ d; omega, by rw [I.2.1]; show 8 + (_ + 11) + 36 * (d - 1) ≤ 36 * d; omega⟩ (show 0 ≤ 8 by decide) ⟨by rw [I.2.1]; show 0 + 0 ≤ 0; decide, by rw [I.2.1]; show 0 + 0 ≤ 0; decide⟩ (fun q => q.elim) (fun E u q => q.elim) (fun r2 u hu => ?_)
  obtain ⟨V1, rfl, h⟩ := hu
  refine ab_if_eq O 17 dX3_weightOf_5 rfl (fun q3 => ?_) (fun q3 => ?_)
  · have h := h.1 q3
    refine ab_iconst O 0 dX3_weightOf_17 rfl ?_
    exact ab_ireturn O I dX3_weightOf_18 (by decide) (by decide) (by rfl) ⟨_, rfl, h⟩
  · have h := h.2 q3
    refine ab_aload_n O 0 dX3_weightOf_8 rfl rfl ?_
    refine ab_get O fl_X3_21 dX3_weightOf_9 (at_1 _ _ _) rfl ?_
    refine ab_iload_n O 1 dX3_weightOf_12 rfl rfl ?_
    refine ab_iald O dX3_weightOf_13 (at_5 _ _ _) h.1 ?_
    have h := h.2
    refine ab_goto O 18 dX3_weightOf_14 rfl ?_
    exact ab_ireturn O I dX3_weightOf_18 (by decide) (by decide) (by rfl) ⟨_, rfl, h⟩

def wp_X0_edgeJoining (V : Mm) (a0 a1 : Int32) (post : Int32 → Mm → Prop) : Prop := (wp_X3_hasVertex V (a0) (fun (r2 : Int32) (V1 : Mm) => ((r2 = 0 → post (-1) V1) ∧ (¬ r2 = 0 → (wp_X3_hasVertex V1 (a1) (fun (r5 : Int32) (V4 : Mm) => ((r5 = 0 → post (-1) V4) ∧ (¬ r5 = 0 → (vp_in a0 20 ∧ (vp_in a1 20 ∧ post (V4 (9 + Int32.toNatClampNeg (a0)) (Int32.toNatClampNeg (a1))) V4))))))))))
set_option maxHeartbeats 4000000 in
theorem c_X0_edgeJoining (d : Nat) (hd : 1 ≤ d) (l : Launch) (hl : l.stackTraces = false) (g : ab_G) (o : Nat → Int64) (D : Nat → UInt64) (a0 : Int32) (a1 : Int32) {V : Mm} {post : Int32 → Mm → Prop} (h : wp_X0_edgeJoining V a0 a1 post) : Ct l g tk_strs False d 0 0 yX0_edgeJoining cX0_edgeJoining 3 (some .int) [.ref 7, .int a0, .int a1] (SW V o D) (tk_I g (fun r u => ∃ V : Mm, u = SW V o D ∧ post r V)) (fun _ _ => False) := by
  refine ct_in (by decide +kernel) (show 3 ≤ 3 by decide) (by simp [Value.category]) hl (fun X I O _ => ?_)
  show Ab X g 0 0 _ 0 [some (.ref (7)), some (.int (a0)), some (.int (a1))] [] _
  refine ab_aload_n O 0 dX0_edgeJoining_0 rfl rfl ?_
  refine ab_get O fl_X0_23 dX0_edgeJoining_1 (at_7 _ _ _) rfl ?_
  refine ab_iload_n O 1 dX0_edgeJoining_4 rfl rfl ?_
  refine ab_callvI O I.2.2.2.2.2.2 (fr := False) (st := []) lk_X0_33 rfl (at_1 _ _ _) dX0_edgeJoining_5 (c_X3_hasVertex (d - 1) (by omega) _ O.2.2.2.2.2.2.1 _ _ _ _ h) rfl rfl ⟨by rw [I.2.1]; show d - 1 + 1 ≤ d; omega, by rw [I.2.1]; show 8 + (_ + 11) + 36 * (d - 1) ≤ 36 * d; omega⟩ (show 0 ≤ 8 by decide) ⟨by rw [I.2.1]; show 0 + 0 ≤ 0; decide, by rw [I.2.1]; show 0 + 0 ≤ 0; decide⟩ (fun q => q.elim) (fun E u q => q.elim) (fun r2 u hu => ?_)
  obtain ⟨V1, rfl, h⟩ := hu
  refine ab_if_eq O 22 dX0_edgeJoining_8 rfl (fun q3 => ?_) (fun q3 => ?_)
  · have h := h.1 q3
    refine ab_iconst O (-1) dX0_edgeJoining_22 rfl ?_
    exact ab_ireturn O I dX0_edgeJoining_23 (by decide) (by decide) (by rfl) ⟨_, rfl, h⟩
  · have h := h.2 q3
    refine ab_aload_n O 0 dX0_edgeJoining_11 rfl rfl ?_
    refine ab_get O fl_X0_23 dX0_edgeJoining_12 (at_7 _ _ _) rfl ?_
    refine ab_iload_n O 2 dX0_edgeJoining_15 rfl rfl ?_
    refine ab_callvI O I.2.2.2.2.2.2 (fr := False) (st := []) lk_X0_33 rfl (at_1 _ _ _) dX0_edgeJoining_16 (c_X3_hasVertex (d - 1) (by omega) _ O.2.2.2.2.2.2.1 _ _ _ _ h) rfl rfl ⟨by rw [I.2.1]; show d - 1 + 1 ≤ d; omega, by rw [I.2.1]; show 8 + (_ + 11) + 36 * (d - 1) ≤ 36 * d; omega⟩ (show 0 ≤ 8 by decide) ⟨by rw [I.2.1]; show 0 + 0 ≤ 0; decide, by rw [I.2.1]; show 0 + 0 ≤ 0; decide⟩ (fun q => q.elim) (fun E u q => q.elim) (fun r5 u hu => ?_)
    obtain ⟨V4, rfl, h⟩ := hu
    refine ab_if_ne O 24 dX0_edgeJoining_19 rfl (fun q6 => ?_) (fun q6 => ?_)
    · have h := h.2 q6
      refine ab_aload_n O 0 dX0_edgeJoining_24 rfl rfl ?_
      refine ab_get O fl_X0_11 dX0_edgeJoining_25 (at_7 _ _ _) rfl ?_
      refine ab_iload_n O 1 dX0_edgeJoining_28 rfl rfl ?_
      have b7 := h.1
      have h := h.2
      refine ab_aald O dX0_edgeJoining_29 (at_8 _ _ _) b7 (if_pos (Nat.not_le.mp fun q => b7 (Or.inr q))) ?_
      refine ab_iload_n O 2 dX0_edgeJoining_30 rfl rfl ?_
      refine ab_iald O dX0_edgeJoining_31 (at_r9 _ _ _ _ (Nat.not_le.mp fun q => b7 (Or.inr q))) h.1 ?_
      have h := h.2
      exact ab_ireturn O I dX0_edgeJoining_32 (by decide) (by decide) (by rfl) ⟨_, rfl, h⟩
    · have h := h.1 q6
      refine ab_iconst O (-1) dX0_edgeJoining_22 rfl ?_
      exact ab_ireturn O I dX0_edgeJoining_23 (by decide) (by decide) (by rfl) ⟨_, rfl, h⟩

def wp_X0_countNeighbours_L4 (y4_1 : Int32) (post : Int32 → Mm → Prop) (kx : Mm → Int32 → Int32 → Prop) : Nat → Mm → Int32 → Int32 → Prop
  | 0, _, _, _ => False
  | n4 + 1, V, x4_2, x4_3 => (wp_X3_vertexCount V (fun (r2 : Int32) (V1 : Mm) => ((r2 ≤ x4_3 → kx (V1) (x4_2) (x4_3)) ∧ (¬ r2 ≤ x4_3 → (wp_X0_edgeJoining V1 (y4_1) (x4_3) (fun (r5 : Int32) (V4 : Mm) => ((r5 = (-1) → wp_X0_countNeighbours_L4 y4_1 post kx n4 (V4) (x4_2) ((x4_3 + (1)))) ∧ (¬ r5 = (-1) → wp_X0_countNeighbours_L4 y4_1 post kx n4 (V4) ((x4_2 + (1))) ((x4_3 + (1)))))))))))

def wp_X0_countNeighbours (V : Mm) (a0 : Int32) (post : Int32 → Mm → Prop) : Prop := (∃ m4 : Nat, wp_X0_countNeighbours_L4 (a0) post (fun (V7 : Mm) (x8 : Int32) (x9 : Int32) => post x8 V7) m4 (V) (0) (0))
set_option maxHeartbeats 4000000 in
theorem cl_X0_countNeighbours_L4 {X : ab_M} {g : ab_G} {l : Launch} {d : Nat} (hd : 2 ≤ d) (y4_1 : Int32) {post : Int32 → Mm → Prop} {kx : Mm → Int32 → Int32 → Prop} {o : Nat → Int64} {D : Nat → UInt64} (O : ab_Ok X g cX0_countNeighbours RX0) (I : ab_I X l tk_strs 4 (some .int) yX0_countNeighbours.name d 0 0) (hk : ∀ (V : Mm) (x4_2 : Int32) (x4_3 : Int32), kx V x4_2 x4_3 → Ab X g 0 0 (tk_Q X g (tk_I g (fun r u => ∃ V : Mm, u = SW V o D ∧ post r V)) (fun _ _ => False) 0 0) 34 [none, none, some (.int (x4_2)), none] [] (SW V o D)) : ∀ (n : Nat) (V : Mm) (x4_2 : Int32) (x4_3 : Int32), wp_X0_countNeighbours_L4 y4_1 post kx n V x4_2 x4_3 → Ab X g 0 0 (tk_Q X g (tk_I g (fun r u => ∃ V : Mm, u = SW V o D ∧ post r V)) (fun _ _ => False) 0 0) 4 [some (.ref (7)), some (.int (y4_1)), some (.int (x4_2)), some (.int (x4_3))] [] (SW V o D) := by
  intro n
  induction n with
  | zero => intro V x4_2 x4_3 h; exact h.elim
  | succ n ih =>
    intro V x4_2 x4_3 h
    refine ab_iload_n O 3 dX0_countNeighbours_4 rfl rfl ?_
    refine ab_aload_n O 0 dX0_countNeighbours_5 rfl rfl ?_
    refine ab_get O fl_X0_23 dX0_countNeighbours_6 (at_7 _ _ _) rfl ?_
    refine ab_callvI O I.2.2.2.2.2.2 (fr := False) (st := [.int (x4_3)]) lk_X0_60 rfl (at_1 _ _ _) dX0_countNeighbours_9 (c_X3_vertexCount (d - 1) (by omega) _ O.2.2.2.2.2.2.1 _ _ _ h) rfl rfl ⟨by rw [I.2.1]; show d - 1 + 1 ≤ d; omega, by rw [I.2.1]; show 8 + (_ + 11) + 36 * (d - 1) ≤ 36 * d; omega⟩ (show 1 ≤ 8 by decide) ⟨by rw [I.2.1]; show 0 + 0 ≤ 0; decide, by rw [I.2.1]; show 0 + 0 ≤ 0; decide⟩ (fun q => q.elim) (fun E u q => q.elim) (fun r2 u hu => ?_)
    obtain ⟨V1, rfl, h⟩ := hu
    refine ab_icmp_ge O 34 dX0_countNeighbours_12 rfl (fun q3 => ?_) (fun q3 => ?_)
    · have h := h.1 q3
      exact ab_less (hk (V1) (x4_2) (x4_3) h) (ab_le_n (ab_le_n (ab_le_s (ab_le_n ab_le_0))))
    · have h := h.2 q3
      refine ab_aload_n O 0 dX0_countNeighbours_15 rfl rfl ?_
      refine ab_iload_n O 1 dX0_countNeighbours_16 rfl rfl ?_
      refine ab_iload_n O 3 dX0_countNeighbours_17 rfl rfl ?_
      refine ab_callvI O I.2.2.2.2.2.2 (fr := False) (st := []) lk_X0_49 rfl (at_7 _ _ _) dX0_countNeighbours_18 (c_X0_edgeJoining (d - 1) (by omega) _ O.2.2.2.2.2.2.1 _ _ _ _ _ h) rfl rfl ⟨by rw [I.2.1]; show d - 1 + 1 ≤ d; omega, by rw [I.2.1]; show 8 + (_ + 11) + 36 * (d - 1) ≤ 36 * d; omega⟩ (show 0 ≤ 8 by decide) ⟨by rw [I.2.1]; show 0 + 0 ≤ 0; decide, by rw [I.2.1]; show 0 + 0 ≤ 0; decide⟩ (fun q => q.elim) (fun E u q => q.elim) (fun r5 u hu => ?_)
      obtain ⟨V4, rfl, h⟩ := hu
      refine ab_iconst O (-1) dX0_countNeighbours_21 rfl ?_
      refine ab_icmp_eq O 28 dX0_countNeighbours_22 rfl (fun q6 => ?_) (fun q6 => ?_)
      · have h := h.1 q6
        refine ab_iinc O ((x4_3 + (1))) dX0_countNeighbours_28 rfl rfl ?_
        refine ab_goto O 4 dX0_countNeighbours_31 rfl ?_
        exact ab_less (ih (V4) (x4_2) ((x4_3 + (1))) h) (ab_le_s (ab_le_s (ab_le_s (ab_le_s ab_le_0))))
      · have h := h.2 q6
        refine ab_iinc O ((x4_2 + (1))) dX0_countNeighbours_25 rfl rfl ?_
        refine ab_iinc O ((x4_3 + (1))) dX0_countNeighbours_28 rfl rfl ?_
        refine ab_goto O 4 dX0_countNeighbours_31 rfl ?_
        exact ab_less (ih (V4) ((x4_2 + (1))) ((x4_3 + (1))) h) (ab_le_s (ab_le_s (ab_le_s (ab_le_s ab_le_0))))
set_option maxHeartbeats 4000000 in
theorem c_X0_countNeighbours (d : Nat) (hd : 2 ≤ d) (l : Launch) (hl : l.stackTraces = false) (g : ab_G) (o : Nat → Int64) (D : Nat → UInt64) (a0 : Int32) {V : Mm} {post : Int32 → Mm → Prop} (h : wp_X0_countNeighbours V a0 post) : Ct l g tk_strs False d 0 0 yX0_countNeighbours cX0_countNeighbours 4 (some .int) [.ref 7, .int a0] (SW V o D) (tk_I g (fun r u => ∃ V : Mm, u = SW V o D ∧ post r V)) (fun _ _ => False) := by
  refine ct_in (by decide +kernel) (show 2 ≤ 4 by decide) (by simp [Value.category]) hl (fun X I O _ => ?_)
  show Ab X g 0 0 _ 0 [some (.ref (7)), some (.int (a0)), none, none] [] _
  refine ab_iconst O 0 dX0_countNeighbours_0 rfl ?_
  refine ab_istore_n O 2 dX0_countNeighbours_1 rfl (show 2 < 4 by decide) ?_
  refine ab_iconst O 0 dX0_countNeighbours_2 rfl ?_
  refine ab_istore_n O 3 dX0_countNeighbours_3 rfl (show 3 < 4 by decide) ?_
  obtain ⟨n9, h⟩ := h
  refine ab_less (cl_X0_countNeighbours_L4 hd (a0) O I (fun V7 x8 x9 h => ?_) n9 (V) (0) (0) h) (ab_le_s (ab_le_s (ab_le_s (ab_le_s ab_le_0))))
  refine ab_iload_n O 2 dX0_countNeighbours_34 rfl rfl ?_
  exact ab_ireturn O I dX0_countNeighbours_35 (by decide) (by decide) (by rfl) ⟨_, rfl, h⟩

def wp_X0_write (V : Mm) (a0 a1 a2 : Int32) (post : Mm → Prop) : Prop := (wp_X3_hasVertex V (a0) (fun (r2 : Int32) (V1 : Mm) => ((r2 = 0 → post V1) ∧ (¬ r2 = 0 → (wp_X3_hasVertex V1 (a1) (fun (r5 : Int32) (V4 : Mm) => ((r5 = 0 → post V4) ∧ (¬ r5 = 0 → (vp_in a0 20 ∧ (vp_in a1 20 ∧ ∀ V8 : Mm, V8 = wr V4 (9 + Int32.toNatClampNeg (a0)) (Int32.toNatClampNeg (a1)) a2 → (vp_in a1 20 ∧ (vp_in a0 20 ∧ ∀ V10 : Mm, V10 = wr V8 (9 + Int32.toNatClampNeg (a1)) (Int32.toNatClampNeg (a0)) a2 → post V10))))))))))))
set_option maxHeartbeats 4000000 in
theorem c_X0_write (d : Nat) (hd : 1 ≤ d) (l : Launch) (hl : l.stackTraces = false) (g : ab_G) (o : Nat → Int64) (D : Nat → UInt64) (a0 : Int32) (a1 : Int32) (a2 : Int32) {V : Mm} {post : Mm → Prop} (h : wp_X0_write V a0 a1 a2 post) : Ct l g tk_strs False d 0 0 yX0_write cX0_write 4 none [.ref 7, .int a0, .int a1, .int a2] (SW V o D) (tk_V g (fun u => ∃ V : Mm, u = SW V o D ∧ post V)) (fun _ _ => False) := by
  refine ct_in (by decide +kernel) (show 4 ≤ 4 by decide) (by simp [Value.category]) hl (fun X I O _ => ?_)
  show Ab X g 0 0 _ 0 [some (.ref (7)), some (.int (a0)), some (.int (a1)), some (.int (a2))] [] _
  refine ab_aload_n O 0 dX0_write_0 rfl rfl ?_
  refine ab_get O fl_X0_23 dX0_write_1 (at_7 _ _ _) rfl ?_
  refine ab_iload_n O 1 dX0_write_4 rfl rfl ?_
  refine ab_callvI O I.2.2.2.2.2.2 (fr := False) (st := []) lk_X0_33 rfl (at_1 _ _ _) dX0_write_5 (c_X3_hasVertex (d - 1) (by omega) _ O.2.2.2.2.2.2.1 _ _ _ _ h) rfl rfl ⟨by rw [I.2.1]; show d - 1 + 1 ≤ d; omega, by rw [I.2.1]; show 8 + (_ + 11) + 36 * (d - 1) ≤ 36 * d; omega⟩ (show 0 ≤ 8 by decide) ⟨by rw [I.2.1]; show 0 + 0 ≤ 0; decide, by rw [I.2.1]; show 0 + 0 ≤ 0; decide⟩ (fun q => q.elim) (fun E u q => q.elim) (fun r2 u hu => ?_)
  obtain ⟨V1, rfl, h⟩ := hu
  refine ab_if_eq O 40 dX0_write_8 rfl (fun q3 => ?_) (fun q3 => ?_)
  · have h := h.1 q3
    exact ab_return O I dX0_write_40 (by decide) (by decide) ⟨_, rfl, h⟩
  · have h := h.2 q3
    refine ab_aload_n O 0 dX0_write_11 rfl rfl ?_
    refine ab_get O fl_X0_23 dX0_write_12 (at_7 _ _ _) rfl ?_
    refine ab_iload_n O 2 dX0_write_15 rfl rfl ?_
    refine ab_callvI O I.2.2.2.2.2.2 (fr := False) (st := []) lk_X0_33 rfl (at_1 _ _ _) dX0_write_16 (c_X3_hasVertex (d - 1) (by omega) _ O.2.2.2.2.2.2.1 _ _ _ _ h) rfl rfl ⟨by rw [I.2.1]; show d - 1 + 1 ≤ d; omega, by rw [I.2.1]; show 8 + (_ + 11) + 36 * (d - 1) ≤ 36 * d; omega⟩ (show 0 ≤ 8 by decide) ⟨by rw [I.2.1]; show 0 + 0 ≤ 0; decide, by rw [I.2.1]; show 0 + 0 ≤ 0; decide⟩ (fun q => q.elim) (fun E u q => q.elim) (fun r5 u hu => ?_)
    obtain ⟨V4, rfl, h⟩ := hu
    refine ab_if_eq O 40 dX0_write_19 rfl (fun q6 => ?_) (fun q6 => ?_)
    · have h := h.1 q6
      exact ab_return O I dX0_write_40 (by decide) (by decide) ⟨_, rfl, h⟩
    · have h := h.2 q6
      refine ab_aload_n O 0 dX0_write_22 rfl rfl ?_
      refine ab_get O fl_X0_11 dX0_write_23 (at_7 _ _ _) rfl ?_
      refine ab_iload_n O 1 dX0_write_26 rfl rfl ?_
      have b7 := h.1
      have h := h.2
      refine ab_aald O dX0_write_27 (at_8 _ _ _) b7 (if_pos (Nat.not_le.mp fun q => b7 (Or.inr q))) ?_
      refine ab_iload_n O 2 dX0_write_28 rfl rfl ?_
      refine ab_iload_n O 3 dX0_write_29 rfl rfl ?_
      refine ab_iast O dX0_write_30 (at_r9 _ _ _ _ (Nat.not_le.mp fun q => b7 (Or.inr q))) h.1 ?_
      have h := h.2
      refine ab_eq ?_ rfl rfl rfl (sa_r9 _ _ _ _ _ _ (Nat.not_le.mp fun q => b7 (Or.inr q))).symm
      obtain ⟨V8, eV8⟩ : ∃ z : Mm, z = wr V4 (9 + Int32.toNatClampNeg (a0)) (Int32.toNatClampNeg (a1)) a2 := ⟨_, rfl⟩
      rw [← eV8]
      have h := h V8 eV8
      refine ab_aload_n O 0 dX0_write_31 rfl rfl ?_
      refine ab_get O fl_X0_11 dX0_write_32 (at_7 _ _ _) rfl ?_
      refine ab_iload_n O 2 dX0_write_35 rfl rfl ?_
      have b9 := h.1
      have h := h.2
      refine ab_aald O dX0_write_36 (at_8 _ _ _) b9 (if_pos (Nat.not_le.mp fun q => b9 (Or.inr q))) ?_
      refine ab_iload_n O 1 dX0_write_37 rfl rfl ?_
      refine ab_iload_n O 3 dX0_write_38 rfl rfl ?_
      refine ab_iast O dX0_write_39 (at_r9 _ _ _ _ (Nat.not_le.mp fun q => b9 (Or.inr q))) h.1 ?_
      have h := h.2
      refine ab_eq ?_ rfl rfl rfl (sa_r9 _ _ _ _ _ _ (Nat.not_le.mp fun q => b9 (Or.inr q))).symm
      obtain ⟨V10, eV10⟩ : ∃ z : Mm, z = wr V8 (9 + Int32.toNatClampNeg (a1)) (Int32.toNatClampNeg (a0)) a2 := ⟨_, rfl⟩
      rw [← eV10]
      have h := h V10 eV10
      exact ab_return O I dX0_write_40 (by decide) (by decide) ⟨_, rfl, h⟩

def wp_X0_cut (V : Mm) (a0 : Int32) (post : Mm → Prop) : Prop := (wp_X3_firstEnd V (a0) (fun (r2 : Int32) (V1 : Mm) => (wp_X3_secondEnd V1 (a0) (fun (r4 : Int32) (V3 : Mm) => (wp_X0_write V3 (r2) (r4) ((-1)) (fun (V5 : Mm) => (wp_X3_weightOf V5 (a0) (fun (r7 : Int32) (V6 : Mm) => (∀ V8 : Mm, V8 = wr V6 7 2 ((V5 7 2) - r7) → (∀ V9 : Mm, V9 = wr V8 7 3 ((V8 7 3) - 1) → post V9))))))))))
set_option maxHeartbeats 4000000 in
theorem c_X0_cut (d : Nat) (hd : 2 ≤ d) (l : Launch) (hl : l.stackTraces = false) (g : ab_G) (o : Nat → Int64) (D : Nat → UInt64) (a0 : Int32) {V : Mm} {post : Mm → Prop} (h : wp_X0_cut V a0 post) : Ct l g tk_strs False d 0 0 yX0_cut cX0_cut 2 none [.ref 7, .int a0] (SW V o D) (tk_V g (fun u => ∃ V : Mm, u = SW V o D ∧ post V)) (fun _ _ => False) := by
  refine ct_in (by decide +kernel) (show 2 ≤ 2 by decide) (by simp [Value.category]) hl (fun X I O _ => ?_)
  show Ab X g 0 0 _ 0 [some (.ref (7)), some (.int (a0))] [] _
  refine ab_aload_n O 0 dX0_cut_0 rfl rfl ?_
  refine ab_aload_n O 0 dX0_cut_1 rfl rfl ?_
  refine ab_get O fl_X0_23 dX0_cut_2 (at_7 _ _ _) rfl ?_
  refine ab_iload_n O 1 dX0_cut_5 rfl rfl ?_
  refine ab_callvI O I.2.2.2.2.2.2 (fr := False) (st := [.ref (7)]) lk_X0_42 rfl (at_1 _ _ _) dX0_cut_6 (c_X3_firstEnd (d - 1) (by omega) _ O.2.2.2.2.2.2.1 _ _ _ _ h) rfl rfl ⟨by rw [I.2.1]; show d - 1 + 1 ≤ d; omega, by rw [I.2.1]; show 8 + (_ + 11) + 36 * (d - 1) ≤ 36 * d; omega⟩ (show 1 ≤ 8 by decide) ⟨by rw [I.2.1]; show 0 + 0 ≤ 0; decide, by rw [I.2.1]; show 0 + 0 ≤ 0; decide⟩ (fun q => q.elim) (fun E u q => q.elim) (fun r2 u hu => ?_)
  obtain ⟨V1, rfl, h⟩ := hu
  refine ab_aload_n O 0 dX0_cut_9 rfl rfl ?_
  refine ab_get O fl_X0_23 dX0_cut_10 (at_7 _ _ _) rfl ?_
  refine ab_iload_n O 1 dX0_cut_13 rfl rfl ?_
  refine ab_callvI O I.2.2.2.2.2.2 (fr := False) (st := [.int (r2), .ref (7)]) lk_X0_46 rfl (at_1 _ _ _) dX0_cut_14 (c_X3_secondEnd (d - 1) (by omega) _ O.2.2.2.2.2.2.1 _ _ _ _ h) rfl rfl ⟨by rw [I.2.1]; show d - 1 + 1 ≤ d; omega, by rw [I.2.1]; show 8 + (_ + 11) + 36 * (d - 1) ≤ 36 * d; omega⟩ (show 2 ≤ 8 by decide) ⟨by rw [I.2.1]; show 0 + 0 ≤ 0; decide, by rw [I.2.1]; show 0 + 0 ≤ 0; decide⟩ (fun q => q.elim) (fun E u q => q.elim) (fun r4 u hu => ?_)
  obtain ⟨V3, rfl, h⟩ := hu
  refine ab_iconst O (-1) dX0_cut_17 rfl ?_
  refine ab_callvV O I.2.2.2.2.2.2 (fr := False) (st := []) lk_X0_53 rfl (at_7 _ _ _) dX0_cut_18 (c_X0_write (d - 1) (by omega) _ O.2.2.2.2.2.2.1 _ _ _ _ _ _ h) rfl rfl ⟨by rw [I.2.1]; show d - 1 + 1 ≤ d; omega, by rw [I.2.1]; show 8 + (_ + 11) + 36 * (d - 1) ≤ 36 * d; omega⟩ (show 0 ≤ 8 by decide) ⟨by rw [I.2.1]; show 0 + 0 ≤ 0; decide, by rw [I.2.1]; show 0 + 0 ≤ 0; decide⟩ (fun q => q.elim) (fun E u q => q.elim) (fun u hu => ?_)
  obtain ⟨V5, rfl, h⟩ := hu
  refine ab_aload_n O 0 dX0_cut_21 rfl rfl ?_
  refine ab_dup O dX0_cut_22 rfl ?_
  refine ab_get O fl_X0_16 dX0_cut_23 (at_7 _ _ _) rfl ?_
  refine ab_aload_n O 0 dX0_cut_26 rfl rfl ?_
  refine ab_get O fl_X0_23 dX0_cut_27 (at_7 _ _ _) rfl ?_
  refine ab_iload_n O 1 dX0_cut_30 rfl rfl ?_
  refine ab_callvI O I.2.2.2.2.2.2 (fr := False) (st := [.int ((V5 7 2)), .ref (7)]) lk_X0_57 rfl (at_1 _ _ _) dX0_cut_31 (c_X3_weightOf (d - 1) (by omega) _ O.2.2.2.2.2.2.1 _ _ _ _ h) rfl rfl ⟨by rw [I.2.1]; show d - 1 + 1 ≤ d; omega, by rw [I.2.1]; show 8 + (_ + 11) + 36 * (d - 1) ≤ 36 * d; omega⟩ (show 2 ≤ 8 by decide) ⟨by rw [I.2.1]; show 0 + 0 ≤ 0; decide, by rw [I.2.1]; show 0 + 0 ≤ 0; decide⟩ (fun q => q.elim) (fun E u q => q.elim) (fun r7 u hu => ?_)
  obtain ⟨V6, rfl, h⟩ := hu
  refine ab_isub O dX0_cut_34 ?_
  refine ab_put O fl_X0_16 cl_X0 dX0_cut_35 (at_7 _ _ _) rfl .int (by decide +kernel) (fun _ => rfl) (fun _ => rfl) (show 2 < 4 by decide) ?_
  refine ab_eq ?_ rfl rfl rfl (sf_7_2 _ _ _ _).symm
  obtain ⟨V8, eV8⟩ : ∃ z : Mm, z = wr V6 7 2 ((V5 7 2) - r7) := ⟨_, rfl⟩
  rw [← eV8]
  have h := h V8 eV8
  refine ab_aload_n O 0 dX0_cut_38 rfl rfl ?_
  refine ab_dup O dX0_cut_39 rfl ?_
  refine ab_get O fl_X0_20 dX0_cut_40 (at_7 _ _ _) rfl ?_
  refine ab_iconst O 1 dX0_cut_43 rfl ?_
  refine ab_isub O dX0_cut_44 ?_
  refine ab_put O fl_X0_20 cl_X0 dX0_cut_45 (at_7 _ _ _) rfl .int (by decide +kernel) (fun _ => rfl) (fun _ => rfl) (show 3 < 4 by decide) ?_
  refine ab_eq ?_ rfl rfl rfl (sf_7_3 _ _ _ _).symm
  obtain ⟨V9, eV9⟩ : ∃ z : Mm, z = wr V8 7 3 ((V8 7 3) - 1) := ⟨_, rfl⟩
  rw [← eV9]
  have h := h V9 eV9
  exact ab_return O I dX0_cut_48 (by decide) (by decide) ⟨_, rfl, h⟩

def wp_X0_edgeSum (V : Mm) (post : Int32 → Mm → Prop) : Prop := post (V 7 3) V
set_option maxHeartbeats 4000000 in
theorem c_X0_edgeSum (d : Nat) (hd : 0 ≤ d) (l : Launch) (hl : l.stackTraces = false) (g : ab_G) (o : Nat → Int64) (D : Nat → UInt64) {V : Mm} {post : Int32 → Mm → Prop} (h : wp_X0_edgeSum V post) : Ct l g tk_strs False d 0 0 yX0_edgeSum cX0_edgeSum 1 (some .int) [.ref 7] (SW V o D) (tk_I g (fun r u => ∃ V : Mm, u = SW V o D ∧ post r V)) (fun _ _ => False) := by
  refine ct_in (by decide +kernel) (show 1 ≤ 1 by decide) (by simp [Value.category]) hl (fun X I O _ => ?_)
  show Ab X g 0 0 _ 0 [some (.ref (7))] [] _
  refine ab_aload_n O 0 dX0_edgeSum_0 rfl rfl ?_
  refine ab_get O fl_X0_20 dX0_edgeSum_1 (at_7 _ _ _) rfl ?_
  exact ab_ireturn O I dX0_edgeSum_4 (by decide) (by decide) (by rfl) ⟨_, rfl, h⟩

def wp_X0_holds (V : Mm) (a0 : Int32) (post : Int32 → Mm → Prop) : Prop := (wp_X3_hasEdge V (a0) (fun (r2 : Int32) (V1 : Mm) => ((r2 = 0 → post 0 V1) ∧ (¬ r2 = 0 → (wp_X3_firstEnd V1 (a0) (fun (r5 : Int32) (V4 : Mm) => (wp_X3_secondEnd V4 (a0) (fun (r7 : Int32) (V6 : Mm) => (wp_X0_edgeJoining V6 (r5) (r7) (fun (r9 : Int32) (V8 : Mm) => ((r9 = a0 → post 1 V8) ∧ (¬ r9 = a0 → post 0 V8))))))))))))
set_option maxHeartbeats 4000000 in
theorem c_X0_holds (d : Nat) (hd : 2 ≤ d) (l : Launch) (hl : l.stackTraces = false) (g : ab_G) (o : Nat → Int64) (D : Nat → UInt64) (a0 : Int32) {V : Mm} {post : Int32 → Mm → Prop} (h : wp_X0_holds V a0 post) : Ct l g tk_strs False d 0 0 yX0_holds cX0_holds 2 (some .boolean) [.ref 7, .int a0] (SW V o D) (tk_I g (fun r u => ∃ V : Mm, u = SW V o D ∧ post r V)) (fun _ _ => False) := by
  refine ct_in (by decide +kernel) (show 2 ≤ 2 by decide) (by simp [Value.category]) hl (fun X I O _ => ?_)
  show Ab X g 0 0 _ 0 [some (.ref (7)), some (.int (a0))] [] _
  refine ab_aload_n O 0 dX0_holds_0 rfl rfl ?_
  refine ab_get O fl_X0_23 dX0_holds_1 (at_7 _ _ _) rfl ?_
  refine ab_iload_n O 1 dX0_holds_4 rfl rfl ?_
  refine ab_callvI O I.2.2.2.2.2.2 (fr := False) (st := []) lk_X0_39 rfl (at_1 _ _ _) dX0_holds_5 (c_X3_hasEdge (d - 1) (by omega) _ O.2.2.2.2.2.2.1 _ _ _ _ h) rfl rfl ⟨by rw [I.2.1]; show d - 1 + 1 ≤ d; omega, by rw [I.2.1]; show 8 + (_ + 11) + 36 * (d - 1) ≤ 36 * d; omega⟩ (show 0 ≤ 8 by decide) ⟨by rw [I.2.1]; show 0 + 0 ≤ 0; decide, by rw [I.2.1]; show 0 + 0 ≤ 0; decide⟩ (fun q => q.elim) (fun E u q => q.elim) (fun r2 u hu => ?_)
  obtain ⟨V1, rfl, h⟩ := hu
  refine ab_if_eq O 39 dX0_holds_8 rfl (fun q3 => ?_) (fun q3 => ?_)
  · have h := h.1 q3
    refine ab_iconst O 0 dX0_holds_39 rfl ?_
    exact ab_ireturn O I dX0_holds_40 (by decide) (by decide) (by rfl) ⟨_, rfl, h⟩
  · have h := h.2 q3
    refine ab_aload_n O 0 dX0_holds_11 rfl rfl ?_
    refine ab_aload_n O 0 dX0_holds_12 rfl rfl ?_
    refine ab_get O fl_X0_23 dX0_holds_13 (at_7 _ _ _) rfl ?_
    refine ab_iload_n O 1 dX0_holds_16 rfl rfl ?_
    refine ab_callvI O I.2.2.2.2.2.2 (fr := False) (st := [.ref (7)]) lk_X0_42 rfl (at_1 _ _ _) dX0_holds_17 (c_X3_firstEnd (d - 1) (by omega) _ O.2.2.2.2.2.2.1 _ _ _ _ h) rfl rfl ⟨by rw [I.2.1]; show d - 1 + 1 ≤ d; omega, by rw [I.2.1]; show 8 + (_ + 11) + 36 * (d - 1) ≤ 36 * d; omega⟩ (show 1 ≤ 8 by decide) ⟨by rw [I.2.1]; show 0 + 0 ≤ 0; decide, by rw [I.2.1]; show 0 + 0 ≤ 0; decide⟩ (fun q => q.elim) (fun E u q => q.elim) (fun r5 u hu => ?_)
    obtain ⟨V4, rfl, h⟩ := hu
    refine ab_aload_n O 0 dX0_holds_20 rfl rfl ?_
    refine ab_get O fl_X0_23 dX0_holds_21 (at_7 _ _ _) rfl ?_
    refine ab_iload_n O 1 dX0_holds_24 rfl rfl ?_
    refine ab_callvI O I.2.2.2.2.2.2 (fr := False) (st := [.int (r5), .ref (7)]) lk_X0_46 rfl (at_1 _ _ _) dX0_holds_25 (c_X3_secondEnd (d - 1) (by omega) _ O.2.2.2.2.2.2.1 _ _ _ _ h) rfl rfl ⟨by rw [I.2.1]; show d - 1 + 1 ≤ d; omega, by rw [I.2.1]; show 8 + (_ + 11) + 36 * (d - 1) ≤ 36 * d; omega⟩ (show 2 ≤ 8 by decide) ⟨by rw [I.2.1]; show 0 + 0 ≤ 0; decide, by rw [I.2.1]; show 0 + 0 ≤ 0; decide⟩ (fun q => q.elim) (fun E u q => q.elim) (fun r7 u hu => ?_)
    obtain ⟨V6, rfl, h⟩ := hu
    refine ab_callvI O I.2.2.2.2.2.2 (fr := False) (st := []) lk_X0_49 rfl (at_7 _ _ _) dX0_holds_28 (c_X0_edgeJoining (d - 1) (by omega) _ O.2.2.2.2.2.2.1 _ _ _ _ _ h) rfl rfl ⟨by rw [I.2.1]; show d - 1 + 1 ≤ d; omega, by rw [I.2.1]; show 8 + (_ + 11) + 36 * (d - 1) ≤ 36 * d; omega⟩ (show 0 ≤ 8 by decide) ⟨by rw [I.2.1]; show 0 + 0 ≤ 0; decide, by rw [I.2.1]; show 0 + 0 ≤ 0; decide⟩ (fun q => q.elim) (fun E u q => q.elim) (fun r9 u hu => ?_)
    obtain ⟨V8, rfl, h⟩ := hu
    refine ab_iload_n O 1 dX0_holds_31 rfl rfl ?_
    refine ab_icmp_ne O 39 dX0_holds_32 rfl (fun q10 => ?_) (fun q10 => ?_)
    · have h := h.2 q10
      refine ab_iconst O 0 dX0_holds_39 rfl ?_
      exact ab_ireturn O I dX0_holds_40 (by decide) (by decide) (by rfl) ⟨_, rfl, h⟩
    · have h := h.1 q10
      refine ab_iconst O 1 dX0_holds_35 rfl ?_
      refine ab_goto O 40 dX0_holds_36 rfl ?_
      exact ab_ireturn O I dX0_holds_40 (by decide) (by decide) (by rfl) ⟨_, rfl, h⟩

def wp_X0_link (V : Mm) (a0 : Int32) (post : Mm → Prop) : Prop := (wp_X3_firstEnd V (a0) (fun (r2 : Int32) (V1 : Mm) => (wp_X3_secondEnd V1 (a0) (fun (r4 : Int32) (V3 : Mm) => (wp_X0_write V3 (r2) (r4) (a0) (fun (V5 : Mm) => (wp_X3_weightOf V5 (a0) (fun (r7 : Int32) (V6 : Mm) => (∀ V8 : Mm, V8 = wr V6 7 2 ((V5 7 2) + r7) → (∀ V9 : Mm, V9 = wr V8 7 3 ((V8 7 3) + 1) → post V9))))))))))
set_option maxHeartbeats 4000000 in
theorem c_X0_link (d : Nat) (hd : 2 ≤ d) (l : Launch) (hl : l.stackTraces = false) (g : ab_G) (o : Nat → Int64) (D : Nat → UInt64) (a0 : Int32) {V : Mm} {post : Mm → Prop} (h : wp_X0_link V a0 post) : Ct l g tk_strs False d 0 0 yX0_link cX0_link 2 none [.ref 7, .int a0] (SW V o D) (tk_V g (fun u => ∃ V : Mm, u = SW V o D ∧ post V)) (fun _ _ => False) := by
  refine ct_in (by decide +kernel) (show 2 ≤ 2 by decide) (by simp [Value.category]) hl (fun X I O _ => ?_)
  show Ab X g 0 0 _ 0 [some (.ref (7)), some (.int (a0))] [] _
  refine ab_aload_n O 0 dX0_link_0 rfl rfl ?_
  refine ab_aload_n O 0 dX0_link_1 rfl rfl ?_
  refine ab_get O fl_X0_23 dX0_link_2 (at_7 _ _ _) rfl ?_
  refine ab_iload_n O 1 dX0_link_5 rfl rfl ?_
  refine ab_callvI O I.2.2.2.2.2.2 (fr := False) (st := [.ref (7)]) lk_X0_42 rfl (at_1 _ _ _) dX0_link_6 (c_X3_firstEnd (d - 1) (by omega) _ O.2.2.2.2.2.2.1 _ _ _ _ h) rfl rfl ⟨by rw [I.2.1]; show d - 1 + 1 ≤ d; omega, by rw [I.2.1]; show 8 + (_ + 11) + 36 * (d - 1) ≤ 36 * d; omega⟩ (show 1 ≤ 8 by decide) ⟨by rw [I.2.1]; show 0 + 0 ≤ 0; decide, by rw [I.2.1]; show 0 + 0 ≤ 0; decide⟩ (fun q => q.elim) (fun E u q => q.elim) (fun r2 u hu => ?_)
  obtain ⟨V1, rfl, h⟩ := hu
  refine ab_aload_n O 0 dX0_link_9 rfl rfl ?_
  refine ab_get O fl_X0_23 dX0_link_10 (at_7 _ _ _) rfl ?_
  refine ab_iload_n O 1 dX0_link_13 rfl rfl ?_
  refine ab_callvI O I.2.2.2.2.2.2 (fr := False) (st := [.int (r2), .ref (7)]) lk_X0_46 rfl (at_1 _ _ _) dX0_link_14 (c_X3_secondEnd (d - 1) (by omega) _ O.2.2.2.2.2.2.1 _ _ _ _ h) rfl rfl ⟨by rw [I.2.1]; show d - 1 + 1 ≤ d; omega, by rw [I.2.1]; show 8 + (_ + 11) + 36 * (d - 1) ≤ 36 * d; omega⟩ (show 2 ≤ 8 by decide) ⟨by rw [I.2.1]; show 0 + 0 ≤ 0; decide, by rw [I.2.1]; show 0 + 0 ≤ 0; decide⟩ (fun q => q.elim) (fun E u q => q.elim) (fun r4 u hu => ?_)
  obtain ⟨V3, rfl, h⟩ := hu
  refine ab_iload_n O 1 dX0_link_17 rfl rfl ?_
  refine ab_callvV O I.2.2.2.2.2.2 (fr := False) (st := []) lk_X0_53 rfl (at_7 _ _ _) dX0_link_18 (c_X0_write (d - 1) (by omega) _ O.2.2.2.2.2.2.1 _ _ _ _ _ _ h) rfl rfl ⟨by rw [I.2.1]; show d - 1 + 1 ≤ d; omega, by rw [I.2.1]; show 8 + (_ + 11) + 36 * (d - 1) ≤ 36 * d; omega⟩ (show 0 ≤ 8 by decide) ⟨by rw [I.2.1]; show 0 + 0 ≤ 0; decide, by rw [I.2.1]; show 0 + 0 ≤ 0; decide⟩ (fun q => q.elim) (fun E u q => q.elim) (fun u hu => ?_)
  obtain ⟨V5, rfl, h⟩ := hu
  refine ab_aload_n O 0 dX0_link_21 rfl rfl ?_
  refine ab_dup O dX0_link_22 rfl ?_
  refine ab_get O fl_X0_16 dX0_link_23 (at_7 _ _ _) rfl ?_
  refine ab_aload_n O 0 dX0_link_26 rfl rfl ?_
  refine ab_get O fl_X0_23 dX0_link_27 (at_7 _ _ _) rfl ?_
  refine ab_iload_n O 1 dX0_link_30 rfl rfl ?_
  refine ab_callvI O I.2.2.2.2.2.2 (fr := False) (st := [.int ((V5 7 2)), .ref (7)]) lk_X0_57 rfl (at_1 _ _ _) dX0_link_31 (c_X3_weightOf (d - 1) (by omega) _ O.2.2.2.2.2.2.1 _ _ _ _ h) rfl rfl ⟨by rw [I.2.1]; show d - 1 + 1 ≤ d; omega, by rw [I.2.1]; show 8 + (_ + 11) + 36 * (d - 1) ≤ 36 * d; omega⟩ (show 2 ≤ 8 by decide) ⟨by rw [I.2.1]; show 0 + 0 ≤ 0; decide, by rw [I.2.1]; show 0 + 0 ≤ 0; decide⟩ (fun q => q.elim) (fun E u q => q.elim) (fun r7 u hu => ?_)
  obtain ⟨V6, rfl, h⟩ := hu
  refine ab_iadd O dX0_link_34 ?_
  refine ab_put O fl_X0_16 cl_X0 dX0_link_35 (at_7 _ _ _) rfl .int (by decide +kernel) (fun _ => rfl) (fun _ => rfl) (show 2 < 4 by decide) ?_
  refine ab_eq ?_ rfl rfl rfl (sf_7_2 _ _ _ _).symm
  obtain ⟨V8, eV8⟩ : ∃ z : Mm, z = wr V6 7 2 ((V5 7 2) + r7) := ⟨_, rfl⟩
  rw [← eV8]
  have h := h V8 eV8
  refine ab_aload_n O 0 dX0_link_38 rfl rfl ?_
  refine ab_dup O dX0_link_39 rfl ?_
  refine ab_get O fl_X0_20 dX0_link_40 (at_7 _ _ _) rfl ?_
  refine ab_iconst O 1 dX0_link_43 rfl ?_
  refine ab_iadd O dX0_link_44 ?_
  refine ab_put O fl_X0_20 cl_X0 dX0_link_45 (at_7 _ _ _) rfl .int (by decide +kernel) (fun _ => rfl) (fun _ => rfl) (show 3 < 4 by decide) ?_
  refine ab_eq ?_ rfl rfl rfl (sf_7_3 _ _ _ _).symm
  obtain ⟨V9, eV9⟩ : ∃ z : Mm, z = wr V8 7 3 ((V8 7 3) + 1) := ⟨_, rfl⟩
  rw [← eV9]
  have h := h V9 eV9
  exact ab_return O I dX0_link_48 (by decide) (by decide) ⟨_, rfl, h⟩

def wp_X0_neighbourAt_L5 (y5_1 y5_2 : Int32) (post : Int32 → Mm → Prop) (kx : Mm → Int32 → Int32 → Prop) : Nat → Mm → Int32 → Int32 → Prop
  | 0, _, _, _ => False
  | n5 + 1, V, x5_3, x5_4 => (wp_X3_vertexCount V (fun (r2 : Int32) (V1 : Mm) => ((r2 ≤ x5_4 → kx (V1) (x5_3) (x5_4)) ∧ (¬ r2 ≤ x5_4 → (wp_X0_edgeJoining V1 (y5_1) (x5_4) (fun (r5 : Int32) (V4 : Mm) => ((r5 = (-1) → wp_X0_neighbourAt_L5 y5_1 y5_2 post kx n5 (V4) (x5_3) ((x5_4 + (1)))) ∧ (¬ r5 = (-1) → ((x5_3 = y5_2 → post x5_4 V4) ∧ (¬ x5_3 = y5_2 → wp_X0_neighbourAt_L5 y5_1 y5_2 post kx n5 (V4) ((x5_3 + (1))) ((x5_4 + (1)))))))))))))

def wp_X0_neighbourAt (V : Mm) (a0 a1 : Int32) (post : Int32 → Mm → Prop) : Prop := (∃ m5 : Nat, wp_X0_neighbourAt_L5 (a0) (a1) post (fun (V8 : Mm) (x9 : Int32) (x10 : Int32) => post (-1) V8) m5 (V) (0) (0))
set_option maxHeartbeats 4000000 in
theorem cl_X0_neighbourAt_L5 {X : ab_M} {g : ab_G} {l : Launch} {d : Nat} (hd : 2 ≤ d) (y5_1 y5_2 : Int32) {post : Int32 → Mm → Prop} {kx : Mm → Int32 → Int32 → Prop} {o : Nat → Int64} {D : Nat → UInt64} (O : ab_Ok X g cX0_neighbourAt RX0) (I : ab_I X l tk_strs 5 (some .int) yX0_neighbourAt.name d 0 0) (hk : ∀ (V : Mm) (x5_3 : Int32) (x5_4 : Int32), kx V x5_3 x5_4 → Ab X g 0 0 (tk_Q X g (tk_I g (fun r u => ∃ V : Mm, u = SW V o D ∧ post r V)) (fun _ _ => False) 0 0) 45 [none, none, none, none, none] [] (SW V o D)) : ∀ (n : Nat) (V : Mm) (x5_3 : Int32) (x5_4 : Int32), wp_X0_neighbourAt_L5 y5_1 y5_2 post kx n V x5_3 x5_4 → Ab X g 0 0 (tk_Q X g (tk_I g (fun r u => ∃ V : Mm, u = SW V o D ∧ post r V)) (fun _ _ => False) 0 0) 5 [some (.ref (7)), some (.int (y5_1)), some (.int (y5_2)), some (.int (x5_3)), some (.int (x5_4))] [] (SW V o D) := by
  intro n
  induction n with
  | zero => intro V x5_3 x5_4 h; exact h.elim
  | succ n ih =>
    intro V x5_3 x5_4 h
    refine ab_iload O dX0_neighbourAt_5 rfl ?_
    refine ab_aload_n O 0 dX0_neighbourAt_7 rfl rfl ?_
    refine ab_get O fl_X0_23 dX0_neighbourAt_8 (at_7 _ _ _) rfl ?_
    refine ab_callvI O I.2.2.2.2.2.2 (fr := False) (st := [.int (x5_4)]) lk_X0_60 rfl (at_1 _ _ _) dX0_neighbourAt_11 (c_X3_vertexCount (d - 1) (by omega) _ O.2.2.2.2.2.2.1 _ _ _ h) rfl rfl ⟨by rw [I.2.1]; show d - 1 + 1 ≤ d; omega, by rw [I.2.1]; show 8 + (_ + 11) + 36 * (d - 1) ≤ 36 * d; omega⟩ (show 1 ≤ 8 by decide) ⟨by rw [I.2.1]; show 0 + 0 ≤ 0; decide, by rw [I.2.1]; show 0 + 0 ≤ 0; decide⟩ (fun q => q.elim) (fun E u q => q.elim) (fun r2 u hu => ?_)
    obtain ⟨V1, rfl, h⟩ := hu
    refine ab_icmp_ge O 45 dX0_neighbourAt_14 rfl (fun q3 => ?_) (fun q3 => ?_)
    · have h := h.1 q3
      exact ab_less (hk (V1) (x5_3) (x5_4) h) (ab_le_n (ab_le_n (ab_le_n (ab_le_n (ab_le_n ab_le_0)))))
    · have h := h.2 q3
      refine ab_aload_n O 0 dX0_neighbourAt_17 rfl rfl ?_
      refine ab_iload_n O 1 dX0_neighbourAt_18 rfl rfl ?_
      refine ab_iload O dX0_neighbourAt_19 rfl ?_
      refine ab_callvI O I.2.2.2.2.2.2 (fr := False) (st := []) lk_X0_49 rfl (at_7 _ _ _) dX0_neighbourAt_21 (c_X0_edgeJoining (d - 1) (by omega) _ O.2.2.2.2.2.2.1 _ _ _ _ _ h) rfl rfl ⟨by rw [I.2.1]; show d - 1 + 1 ≤ d; omega, by rw [I.2.1]; show 8 + (_ + 11) + 36 * (d - 1) ≤ 36 * d; omega⟩ (show 0 ≤ 8 by decide) ⟨by rw [I.2.1]; show 0 + 0 ≤ 0; decide, by rw [I.2.1]; show 0 + 0 ≤ 0; decide⟩ (fun q => q.elim) (fun E u q => q.elim) (fun r5 u hu => ?_)
      obtain ⟨V4, rfl, h⟩ := hu
      refine ab_iconst O (-1) dX0_neighbourAt_24 rfl ?_
      refine ab_icmp_eq O 39 dX0_neighbourAt_25 rfl (fun q6 => ?_) (fun q6 => ?_)
      · have h := h.1 q6
        refine ab_iinc O ((x5_4 + (1))) dX0_neighbourAt_39 rfl rfl ?_
        refine ab_goto O 5 dX0_neighbourAt_42 rfl ?_
        exact ab_less (ih (V4) (x5_3) ((x5_4 + (1))) h) (ab_le_s (ab_le_s (ab_le_s (ab_le_s (ab_le_s ab_le_0)))))
      · have h := h.2 q6
        refine ab_iload_n O 3 dX0_neighbourAt_28 rfl rfl ?_
        refine ab_iload_n O 2 dX0_neighbourAt_29 rfl rfl ?_
        refine ab_icmp_ne O 36 dX0_neighbourAt_30 rfl (fun q7 => ?_) (fun q7 => ?_)
        · have h := h.2 q7
          refine ab_iinc O ((x5_3 + (1))) dX0_neighbourAt_36 rfl rfl ?_
          refine ab_iinc O ((x5_4 + (1))) dX0_neighbourAt_39 rfl rfl ?_
          refine ab_goto O 5 dX0_neighbourAt_42 rfl ?_
          exact ab_less (ih (V4) ((x5_3 + (1))) ((x5_4 + (1))) h) (ab_le_s (ab_le_s (ab_le_s (ab_le_s (ab_le_s ab_le_0)))))
        · have h := h.1 q7
          refine ab_iload O dX0_neighbourAt_33 rfl ?_
          exact ab_ireturn O I dX0_neighbourAt_35 (by decide) (by decide) (by rfl) ⟨_, rfl, h⟩
set_option maxHeartbeats 4000000 in
theorem c_X0_neighbourAt (d : Nat) (hd : 2 ≤ d) (l : Launch) (hl : l.stackTraces = false) (g : ab_G) (o : Nat → Int64) (D : Nat → UInt64) (a0 : Int32) (a1 : Int32) {V : Mm} {post : Int32 → Mm → Prop} (h : wp_X0_neighbourAt V a0 a1 post) : Ct l g tk_strs False d 0 0 yX0_neighbourAt cX0_neighbourAt 5 (some .int) [.ref 7, .int a0, .int a1] (SW V o D) (tk_I g (fun r u => ∃ V : Mm, u = SW V o D ∧ post r V)) (fun _ _ => False) := by
  refine ct_in (by decide +kernel) (show 3 ≤ 5 by decide) (by simp [Value.category]) hl (fun X I O _ => ?_)
  show Ab X g 0 0 _ 0 [some (.ref (7)), some (.int (a0)), some (.int (a1)), none, none] [] _
  refine ab_iconst O 0 dX0_neighbourAt_0 rfl ?_
  refine ab_istore_n O 3 dX0_neighbourAt_1 rfl (show 3 < 5 by decide) ?_
  refine ab_iconst O 0 dX0_neighbourAt_2 rfl ?_
  refine ab_istore O dX0_neighbourAt_3 (show 4 < 5 by decide) ?_
  obtain ⟨n9, h⟩ := h
  refine ab_less (cl_X0_neighbourAt_L5 hd (a0) (a1) O I (fun V8 x9 x10 h => ?_) n9 (V) (0) (0) h) (ab_le_s (ab_le_s (ab_le_s (ab_le_s (ab_le_s ab_le_0)))))
  refine ab_iconst O (-1) dX0_neighbourAt_45 rfl ?_
  exact ab_ireturn O I dX0_neighbourAt_46 (by decide) (by decide) (by rfl) ⟨_, rfl, h⟩

def wp_X0_weightSum (V : Mm) (post : Int32 → Mm → Prop) : Prop := post (V 7 2) V
set_option maxHeartbeats 4000000 in
theorem c_X0_weightSum (d : Nat) (hd : 0 ≤ d) (l : Launch) (hl : l.stackTraces = false) (g : ab_G) (o : Nat → Int64) (D : Nat → UInt64) {V : Mm} {post : Int32 → Mm → Prop} (h : wp_X0_weightSum V post) : Ct l g tk_strs False d 0 0 yX0_weightSum cX0_weightSum 1 (some .int) [.ref 7] (SW V o D) (tk_I g (fun r u => ∃ V : Mm, u = SW V o D ∧ post r V)) (fun _ _ => False) := by
  refine ct_in (by decide +kernel) (show 1 ≤ 1 by decide) (by simp [Value.category]) hl (fun X I O _ => ?_)
  show Ab X g 0 0 _ 0 [some (.ref (7))] [] _
  refine ab_aload_n O 0 dX0_weightSum_0 rfl rfl ?_
  refine ab_get O fl_X0_16 dX0_weightSum_1 (at_7 _ _ _) rfl ?_
  exact ab_ireturn O I dX0_weightSum_4 (by decide) (by decide) (by rfl) ⟨_, rfl, h⟩

def wp_X7_above (V : Mm) (a0 : Int32) (post : Int32 → Mm → Prop) : Prop := (wp_X3_hasVertex V (a0) (fun (r2 : Int32) (V1 : Mm) => ((r2 = 0 → post (-1) V1) ∧ (¬ r2 = 0 → (vp_in a0 20 ∧ post (V1 32 (Int32.toNatClampNeg (a0))) V1)))))
set_option maxHeartbeats 4000000 in
theorem c_X7_above (d : Nat) (hd : 1 ≤ d) (l : Launch) (hl : l.stackTraces = false) (g : ab_G) (o : Nat → Int64) (D : Nat → UInt64) (a0 : Int32) {V : Mm} {post : Int32 → Mm → Prop} (h : wp_X7_above V a0 post) : Ct l g tk_strs False d 0 0 yX7_above cX7_above 2 (some .int) [.ref 29, .int a0] (SW V o D) (tk_I g (fun r u => ∃ V : Mm, u = SW V o D ∧ post r V)) (fun _ _ => False) := by
  refine ct_in (by decide +kernel) (show 2 ≤ 2 by decide) (by simp [Value.category]) hl (fun X I O _ => ?_)
  show Ab X g 0 0 _ 0 [some (.ref (29)), some (.int (a0))] [] _
  refine ab_aload_n O 0 dX7_above_0 rfl rfl ?_
  refine ab_get O fl_X7_31 dX7_above_1 (at_29 _ _ _) rfl ?_
  refine ab_iload_n O 1 dX7_above_4 rfl rfl ?_
  refine ab_callvI O I.2.2.2.2.2.2 (fr := False) (st := []) lk_X7_61 rfl (at_1 _ _ _) dX7_above_5 (c_X3_hasVertex (d - 1) (by omega) _ O.2.2.2.2.2.2.1 _ _ _ _ h) rfl rfl ⟨by rw [I.2.1]; show d - 1 + 1 ≤ d; omega, by rw [I.2.1]; show 8 + (_ + 11) + 36 * (d - 1) ≤ 36 * d; omega⟩ (show 0 ≤ 8 by decide) ⟨by rw [I.2.1]; show 0 + 0 ≤ 0; decide, by rw [I.2.1]; show 0 + 0 ≤ 0; decide⟩ (fun q => q.elim) (fun E u q => q.elim) (fun r2 u hu => ?_)
  obtain ⟨V1, rfl, h⟩ := hu
  refine ab_if_eq O 20 dX7_above_8 rfl (fun q3 => ?_) (fun q3 => ?_)
  · have h := h.1 q3
    refine ab_iconst O (-1) dX7_above_20 rfl ?_
    exact ab_ireturn O I dX7_above_21 (by decide) (by decide) (by rfl) ⟨_, rfl, h⟩
  · have h := h.2 q3
    refine ab_aload_n O 0 dX7_above_11 rfl rfl ?_
    refine ab_get O fl_X7_18 dX7_above_12 (at_29 _ _ _) rfl ?_
    refine ab_iload_n O 1 dX7_above_15 rfl rfl ?_
    refine ab_iald O dX7_above_16 (at_32 _ _ _) h.1 ?_
    have h := h.2
    refine ab_goto O 21 dX7_above_17 rfl ?_
    exact ab_ireturn O I dX7_above_21 (by decide) (by decide) (by rfl) ⟨_, rfl, h⟩

def wp_X7_addOnWayToRoot_L5 (y5_2 : Int32) (post : Mm → Prop) (kx : Mm → Int32 → Int32 → Prop) : Nat → Mm → Int32 → Int32 → Prop
  | 0, _, _, _ => False
  | n5 + 1, V, x5_3, x5_4 => ((20 ≤ x5_4 → kx (V) (x5_3) (x5_4)) ∧ (¬ 20 ≤ x5_4 → ((x5_3 = (-1) → kx (V) (x5_3) (x5_4)) ∧ (¬ x5_3 = (-1) → (wp_X3_valueOf V (x5_3) (fun (r4 : Int32) (V3 : Mm) => (wp_X3_putValue V3 (x5_3) ((r4 + y5_2)) (fun (V5 : Mm) => (wp_X7_above V5 (x5_3) (fun (r7 : Int32) (V6 : Mm) => wp_X7_addOnWayToRoot_L5 y5_2 post kx n5 (V6) (r7) ((x5_4 + (1)))))))))))))

def wp_X7_addOnWayToRoot (V : Mm) (a0 a1 : Int32) (post : Mm → Prop) : Prop := (∃ m5 : Nat, wp_X7_addOnWayToRoot_L5 (a1) post (fun (V8 : Mm) (x9 : Int32) (x10 : Int32) => post V8) m5 (V) (a0) (0))
set_option maxHeartbeats 4000000 in
theorem cl_X7_addOnWayToRoot_L5 {X : ab_M} {g : ab_G} {l : Launch} {d : Nat} (hd : 2 ≤ d) (y5_2 : Int32) {post : Mm → Prop} {kx : Mm → Int32 → Int32 → Prop} {o : Nat → Int64} {D : Nat → UInt64} (O : ab_Ok X g cX7_addOnWayToRoot RX7) (I : ab_I X l tk_strs 5 none yX7_addOnWayToRoot.name d 0 0) (hk : ∀ (V : Mm) (x5_3 : Int32) (x5_4 : Int32), kx V x5_3 x5_4 → Ab X g 0 0 (tk_Q X g (tk_V g (fun u => ∃ V : Mm, u = SW V o D ∧ post V)) (fun _ _ => False) 0 0) 47 [none, none, none, none, none] [] (SW V o D)) : ∀ (n : Nat) (V : Mm) (x5_3 : Int32) (x5_4 : Int32), wp_X7_addOnWayToRoot_L5 y5_2 post kx n V x5_3 x5_4 → Ab X g 0 0 (tk_Q X g (tk_V g (fun u => ∃ V : Mm, u = SW V o D ∧ post V)) (fun _ _ => False) 0 0) 5 [some (.ref (29)), none, some (.int (y5_2)), some (.int (x5_3)), some (.int (x5_4))] [] (SW V o D) := by
  intro n
  induction n with
  | zero => intro V x5_3 x5_4 h; exact h.elim
  | succ n ih =>
    intro V x5_3 x5_4 h
    refine ab_iload O dX7_addOnWayToRoot_5 rfl ?_
    refine ab_bipush O 20 dX7_addOnWayToRoot_7 rfl ?_
    refine ab_icmp_ge O 47 dX7_addOnWayToRoot_9 rfl (fun q1 => ?_) (fun q1 => ?_)
    · have h := h.1 q1
      exact ab_less (hk (V) (x5_3) (x5_4) h) (ab_le_n (ab_le_n (ab_le_n (ab_le_n (ab_le_n ab_le_0)))))
    · have h := h.2 q1
      refine ab_iload_n O 3 dX7_addOnWayToRoot_12 rfl rfl ?_
      refine ab_iconst O (-1) dX7_addOnWayToRoot_13 rfl ?_
      refine ab_icmp_eq O 47 dX7_addOnWayToRoot_14 rfl (fun q2 => ?_) (fun q2 => ?_)
      · have h := h.1 q2
        exact ab_less (hk (V) (x5_3) (x5_4) h) (ab_le_n (ab_le_n (ab_le_n (ab_le_n (ab_le_n ab_le_0)))))
      · have h := h.2 q2
        refine ab_aload_n O 0 dX7_addOnWayToRoot_17 rfl rfl ?_
        refine ab_get O fl_X7_31 dX7_addOnWayToRoot_18 (at_29 _ _ _) rfl ?_
        refine ab_iload_n O 3 dX7_addOnWayToRoot_21 rfl rfl ?_
        refine ab_aload_n O 0 dX7_addOnWayToRoot_22 rfl rfl ?_
        refine ab_get O fl_X7_31 dX7_addOnWayToRoot_23 (at_29 _ _ _) rfl ?_
        refine ab_iload_n O 3 dX7_addOnWayToRoot_26 rfl rfl ?_
        refine ab_callvI O I.2.2.2.2.2.2 (fr := False) (st := [.int (x5_3), .ref (1)]) lk_X7_65 rfl (at_1 _ _ _) dX7_addOnWayToRoot_27 (c_X3_valueOf (d - 1) (by omega) _ O.2.2.2.2.2.2.1 _ _ _ _ h) rfl rfl ⟨by rw [I.2.1]; show d - 1 + 1 ≤ d; omega, by rw [I.2.1]; show 8 + (_ + 11) + 36 * (d - 1) ≤ 36 * d; omega⟩ (show 2 ≤ 8 by decide) ⟨by rw [I.2.1]; show 0 + 0 ≤ 0; decide, by rw [I.2.1]; show 0 + 0 ≤ 0; decide⟩ (fun q => q.elim) (fun E u q => q.elim) (fun r4 u hu => ?_)
        obtain ⟨V3, rfl, h⟩ := hu
        refine ab_iload_n O 2 dX7_addOnWayToRoot_30 rfl rfl ?_
        refine ab_iadd O dX7_addOnWayToRoot_31 ?_
        refine ab_callvV O I.2.2.2.2.2.2 (fr := False) (st := []) lk_X7_85 rfl (at_1 _ _ _) dX7_addOnWayToRoot_32 (c_X3_putValue (d - 1) (by omega) _ O.2.2.2.2.2.2.1 _ _ _ _ _ h) rfl rfl ⟨by rw [I.2.1]; show d - 1 + 1 ≤ d; omega, by rw [I.2.1]; show 8 + (_ + 11) + 36 * (d - 1) ≤ 36 * d; omega⟩ (show 0 ≤ 8 by decide) ⟨by rw [I.2.1]; show 0 + 0 ≤ 0; decide, by rw [I.2.1]; show 0 + 0 ≤ 0; decide⟩ (fun q => q.elim) (fun E u q => q.elim) (fun u hu => ?_)
        obtain ⟨V5, rfl, h⟩ := hu
        refine ab_aload_n O 0 dX7_addOnWayToRoot_35 rfl rfl ?_
        refine ab_iload_n O 3 dX7_addOnWayToRoot_36 rfl rfl ?_
        refine ab_callvI O I.2.2.2.2.2.2 (fr := False) (st := []) lk_X7_82 rfl (at_29 _ _ _) dX7_addOnWayToRoot_37 (c_X7_above (d - 1) (by omega) _ O.2.2.2.2.2.2.1 _ _ _ _ h) rfl rfl ⟨by rw [I.2.1]; show d - 1 + 1 ≤ d; omega, by rw [I.2.1]; show 8 + (_ + 11) + 36 * (d - 1) ≤ 36 * d; omega⟩ (show 0 ≤ 8 by decide) ⟨by rw [I.2.1]; show 0 + 0 ≤ 0; decide, by rw [I.2.1]; show 0 + 0 ≤ 0; decide⟩ (fun q => q.elim) (fun E u q => q.elim) (fun r7 u hu => ?_)
        obtain ⟨V6, rfl, h⟩ := hu
        refine ab_istore_n O 3 dX7_addOnWayToRoot_40 rfl (show 3 < 5 by decide) ?_
        refine ab_iinc O ((x5_4 + (1))) dX7_addOnWayToRoot_41 rfl rfl ?_
        refine ab_goto O 5 dX7_addOnWayToRoot_44 rfl ?_
        exact ab_less (ih (V6) (r7) ((x5_4 + (1))) h) (ab_le_s (ab_le_n (ab_le_s (ab_le_s (ab_le_s ab_le_0)))))
set_option maxHeartbeats 4000000 in
theorem c_X7_addOnWayToRoot (d : Nat) (hd : 2 ≤ d) (l : Launch) (hl : l.stackTraces = false) (g : ab_G) (o : Nat → Int64) (D : Nat → UInt64) (a0 : Int32) (a1 : Int32) {V : Mm} {post : Mm → Prop} (h : wp_X7_addOnWayToRoot V a0 a1 post) : Ct l g tk_strs False d 0 0 yX7_addOnWayToRoot cX7_addOnWayToRoot 5 none [.ref 29, .int a0, .int a1] (SW V o D) (tk_V g (fun u => ∃ V : Mm, u = SW V o D ∧ post V)) (fun _ _ => False) := by
  refine ct_in (by decide +kernel) (show 3 ≤ 5 by decide) (by simp [Value.category]) hl (fun X I O _ => ?_)
  show Ab X g 0 0 _ 0 [some (.ref (29)), some (.int (a0)), some (.int (a1)), none, none] [] _
  refine ab_iload_n O 1 dX7_addOnWayToRoot_0 rfl rfl ?_
  refine ab_istore_n O 3 dX7_addOnWayToRoot_1 rfl (show 3 < 5 by decide) ?_
  refine ab_iconst O 0 dX7_addOnWayToRoot_2 rfl ?_
  refine ab_istore O dX7_addOnWayToRoot_3 (show 4 < 5 by decide) ?_
  obtain ⟨n9, h⟩ := h
  refine ab_less (cl_X7_addOnWayToRoot_L5 hd (a1) O I (fun V8 x9 x10 h => ?_) n9 (V) (a0) (0) h) (ab_le_s (ab_le_n (ab_le_s (ab_le_s (ab_le_s ab_le_0)))))
  exact ab_return O I dX7_addOnWayToRoot_47 (by decide) (by decide) ⟨_, rfl, h⟩

def wp_X7_climb_L5 (y5_2 : Int32) (post : Int32 → Mm → Prop) (kx : Mm → Int32 → Int32 → Prop) : Nat → Mm → Int32 → Int32 → Prop
  | 0, _, _, _ => False
  | n5 + 1, V, x5_3, x5_4 => ((y5_2 ≤ x5_4 → kx (V) (x5_3) (x5_4)) ∧ (¬ y5_2 ≤ x5_4 → ((20 ≤ x5_4 → kx (V) (x5_3) (x5_4)) ∧ (¬ 20 ≤ x5_4 → (wp_X7_above V (x5_3) (fun (r4 : Int32) (V3 : Mm) => wp_X7_climb_L5 y5_2 post kx n5 (V3) (r4) ((x5_4 + (1)))))))))

def wp_X7_climb (V : Mm) (a0 a1 : Int32) (post : Int32 → Mm → Prop) : Prop := (∃ m5 : Nat, wp_X7_climb_L5 (a1) post (fun (V5 : Mm) (x6 : Int32) (x7 : Int32) => post x6 V5) m5 (V) (a0) (0))
set_option maxHeartbeats 4000000 in
theorem cl_X7_climb_L5 {X : ab_M} {g : ab_G} {l : Launch} {d : Nat} (hd : 2 ≤ d) (y5_2 : Int32) {post : Int32 → Mm → Prop} {kx : Mm → Int32 → Int32 → Prop} {o : Nat → Int64} {D : Nat → UInt64} (O : ab_Ok X g cX7_climb RX7) (I : ab_I X l tk_strs 5 (some .int) yX7_climb.name d 0 0) (hk : ∀ (V : Mm) (x5_3 : Int32) (x5_4 : Int32), kx V x5_3 x5_4 → Ab X g 0 0 (tk_Q X g (tk_I g (fun r u => ∃ V : Mm, u = SW V o D ∧ post r V)) (fun _ _ => False) 0 0) 30 [none, none, none, some (.int (x5_3)), none] [] (SW V o D)) : ∀ (n : Nat) (V : Mm) (x5_3 : Int32) (x5_4 : Int32), wp_X7_climb_L5 y5_2 post kx n V x5_3 x5_4 → Ab X g 0 0 (tk_Q X g (tk_I g (fun r u => ∃ V : Mm, u = SW V o D ∧ post r V)) (fun _ _ => False) 0 0) 5 [some (.ref (29)), none, some (.int (y5_2)), some (.int (x5_3)), some (.int (x5_4))] [] (SW V o D) := by
  intro n
  induction n with
  | zero => intro V x5_3 x5_4 h; exact h.elim
  | succ n ih =>
    intro V x5_3 x5_4 h
    refine ab_iload O dX7_climb_5 rfl ?_
    refine ab_iload_n O 2 dX7_climb_7 rfl rfl ?_
    refine ab_icmp_ge O 30 dX7_climb_8 rfl (fun q1 => ?_) (fun q1 => ?_)
    · have h := h.1 q1
      exact ab_less (hk (V) (x5_3) (x5_4) h) (ab_le_n (ab_le_n (ab_le_n (ab_le_s (ab_le_n ab_le_0)))))
    · have h := h.2 q1
      refine ab_iload O dX7_climb_11 rfl ?_
      refine ab_bipush O 20 dX7_climb_13 rfl ?_
      refine ab_icmp_ge O 30 dX7_climb_15 rfl (fun q2 => ?_) (fun q2 => ?_)
      · have h := h.1 q2
        exact ab_less (hk (V) (x5_3) (x5_4) h) (ab_le_n (ab_le_n (ab_le_n (ab_le_s (ab_le_n ab_le_0)))))
      · have h := h.2 q2
        refine ab_aload_n O 0 dX7_climb_18 rfl rfl ?_
        refine ab_iload_n O 3 dX7_climb_19 rfl rfl ?_
        refine ab_callvI O I.2.2.2.2.2.2 (fr := False) (st := []) lk_X7_82 rfl (at_29 _ _ _) dX7_climb_20 (c_X7_above (d - 1) (by omega) _ O.2.2.2.2.2.2.1 _ _ _ _ h) rfl rfl ⟨by rw [I.2.1]; show d - 1 + 1 ≤ d; omega, by rw [I.2.1]; show 8 + (_ + 11) + 36 * (d - 1) ≤ 36 * d; omega⟩ (show 0 ≤ 8 by decide) ⟨by rw [I.2.1]; show 0 + 0 ≤ 0; decide, by rw [I.2.1]; show 0 + 0 ≤ 0; decide⟩ (fun q => q.elim) (fun E u q => q.elim) (fun r4 u hu => ?_)
        obtain ⟨V3, rfl, h⟩ := hu
        refine ab_istore_n O 3 dX7_climb_23 rfl (show 3 < 5 by decide) ?_
        refine ab_iinc O ((x5_4 + (1))) dX7_climb_24 rfl rfl ?_
        refine ab_goto O 5 dX7_climb_27 rfl ?_
        exact ab_less (ih (V3) (r4) ((x5_4 + (1))) h) (ab_le_s (ab_le_n (ab_le_s (ab_le_s (ab_le_s ab_le_0)))))
set_option maxHeartbeats 4000000 in
theorem c_X7_climb (d : Nat) (hd : 2 ≤ d) (l : Launch) (hl : l.stackTraces = false) (g : ab_G) (o : Nat → Int64) (D : Nat → UInt64) (a0 : Int32) (a1 : Int32) {V : Mm} {post : Int32 → Mm → Prop} (h : wp_X7_climb V a0 a1 post) : Ct l g tk_strs False d 0 0 yX7_climb cX7_climb 5 (some .int) [.ref 29, .int a0, .int a1] (SW V o D) (tk_I g (fun r u => ∃ V : Mm, u = SW V o D ∧ post r V)) (fun _ _ => False) := by
  refine ct_in (by decide +kernel) (show 3 ≤ 5 by decide) (by simp [Value.category]) hl (fun X I O _ => ?_)
  show Ab X g 0 0 _ 0 [some (.ref (29)), some (.int (a0)), some (.int (a1)), none, none] [] _
  refine ab_iload_n O 1 dX7_climb_0 rfl rfl ?_
  refine ab_istore_n O 3 dX7_climb_1 rfl (show 3 < 5 by decide) ?_
  refine ab_iconst O 0 dX7_climb_2 rfl ?_
  refine ab_istore O dX7_climb_3 (show 4 < 5 by decide) ?_
  obtain ⟨n9, h⟩ := h
  refine ab_less (cl_X7_climb_L5 hd (a1) O I (fun V5 x6 x7 h => ?_) n9 (V) (a0) (0) h) (ab_le_s (ab_le_n (ab_le_s (ab_le_s (ab_le_s ab_le_0)))))
  refine ab_iload_n O 3 dX7_climb_30 rfl rfl ?_
  exact ab_ireturn O I dX7_climb_31 (by decide) (by decide) (by rfl) ⟨_, rfl, h⟩

def wp_X7_count (V : Mm) (post : Int32 → Mm → Prop) : Prop := post (V 29 7) V
set_option maxHeartbeats 4000000 in
theorem c_X7_count (d : Nat) (hd : 0 ≤ d) (l : Launch) (hl : l.stackTraces = false) (g : ab_G) (o : Nat → Int64) (D : Nat → UInt64) {V : Mm} {post : Int32 → Mm → Prop} (h : wp_X7_count V post) : Ct l g tk_strs False d 0 0 yX7_count cX7_count 1 (some .int) [.ref 29] (SW V o D) (tk_I g (fun r u => ∃ V : Mm, u = SW V o D ∧ post r V)) (fun _ _ => False) := by
  refine ct_in (by decide +kernel) (show 1 ≤ 1 by decide) (by simp [Value.category]) hl (fun X I O _ => ?_)
  show Ab X g 0 0 _ 0 [some (.ref (29))] [] _
  refine ab_aload_n O 0 dX7_count_0 rfl rfl ?_
  refine ab_get O fl_X7_27 dX7_count_1 (at_29 _ _ _) rfl ?_
  exact ab_ireturn O I dX7_count_4 (by decide) (by decide) (by rfl) ⟨_, rfl, h⟩

def wp_X7_vertexAt (V : Mm) (a0 : Int32) (post : Int32 → Mm → Prop) : Prop := ((a0 < 0 → post (-1) V) ∧ (¬ a0 < 0 → (((V 29 7) ≤ a0 → post (-1) V) ∧ (¬ (V 29 7) ≤ a0 → ((20 ≤ a0 → post (-1) V) ∧ (¬ 20 ≤ a0 → (vp_in a0 20 ∧ post (V 30 (Int32.toNatClampNeg (a0))) V)))))))
set_option maxHeartbeats 4000000 in
theorem c_X7_vertexAt (d : Nat) (hd : 0 ≤ d) (l : Launch) (hl : l.stackTraces = false) (g : ab_G) (o : Nat → Int64) (D : Nat → UInt64) (a0 : Int32) {V : Mm} {post : Int32 → Mm → Prop} (h : wp_X7_vertexAt V a0 post) : Ct l g tk_strs False d 0 0 yX7_vertexAt cX7_vertexAt 2 (some .int) [.ref 29, .int a0] (SW V o D) (tk_I g (fun r u => ∃ V : Mm, u = SW V o D ∧ post r V)) (fun _ _ => False) := by
  refine ct_in (by decide +kernel) (show 2 ≤ 2 by decide) (by simp [Value.category]) hl (fun X I O _ => ?_)
  show Ab X g 0 0 _ 0 [some (.ref (29)), some (.int (a0))] [] _
  refine ab_iload_n O 1 dX7_vertexAt_0 rfl rfl ?_
  refine ab_if_lt O 27 dX7_vertexAt_1 rfl (fun q1 => ?_) (fun q1 => ?_)
  · have h := h.1 q1
    refine ab_iconst O (-1) dX7_vertexAt_27 rfl ?_
    exact ab_ireturn O I dX7_vertexAt_28 (by decide) (by decide) (by rfl) ⟨_, rfl, h⟩
  · have h := h.2 q1
    refine ab_iload_n O 1 dX7_vertexAt_4 rfl rfl ?_
    refine ab_aload_n O 0 dX7_vertexAt_5 rfl rfl ?_
    refine ab_get O fl_X7_27 dX7_vertexAt_6 (at_29 _ _ _) rfl ?_
    refine ab_icmp_ge O 27 dX7_vertexAt_9 rfl (fun q2 => ?_) (fun q2 => ?_)
    · have h := h.1 q2
      refine ab_iconst O (-1) dX7_vertexAt_27 rfl ?_
      exact ab_ireturn O I dX7_vertexAt_28 (by decide) (by decide) (by rfl) ⟨_, rfl, h⟩
    · have h := h.2 q2
      refine ab_iload_n O 1 dX7_vertexAt_12 rfl rfl ?_
      refine ab_bipush O 20 dX7_vertexAt_13 rfl ?_
      refine ab_icmp_ge O 27 dX7_vertexAt_15 rfl (fun q3 => ?_) (fun q3 => ?_)
      · have h := h.1 q3
        refine ab_iconst O (-1) dX7_vertexAt_27 rfl ?_
        exact ab_ireturn O I dX7_vertexAt_28 (by decide) (by decide) (by rfl) ⟨_, rfl, h⟩
      · have h := h.2 q3
        refine ab_aload_n O 0 dX7_vertexAt_18 rfl rfl ?_
        refine ab_get O fl_X7_9 dX7_vertexAt_19 (at_29 _ _ _) rfl ?_
        refine ab_iload_n O 1 dX7_vertexAt_22 rfl rfl ?_
        refine ab_iald O dX7_vertexAt_23 (at_30 _ _ _) h.1 ?_
        have h := h.2
        refine ab_goto O 28 dX7_vertexAt_24 rfl ?_
        exact ab_ireturn O I dX7_vertexAt_28 (by decide) (by decide) (by rfl) ⟨_, rfl, h⟩

def wp_X7_deepest (V : Mm) (post : Int32 → Mm → Prop) : Prop := (wp_X7_vertexAt V (((V 29 7) - 1)) (fun (r2 : Int32) (V1 : Mm) => post r2 V1))
set_option maxHeartbeats 4000000 in
theorem c_X7_deepest (d : Nat) (hd : 1 ≤ d) (l : Launch) (hl : l.stackTraces = false) (g : ab_G) (o : Nat → Int64) (D : Nat → UInt64) {V : Mm} {post : Int32 → Mm → Prop} (h : wp_X7_deepest V post) : Ct l g tk_strs False d 0 0 yX7_deepest cX7_deepest 1 (some .int) [.ref 29] (SW V o D) (tk_I g (fun r u => ∃ V : Mm, u = SW V o D ∧ post r V)) (fun _ _ => False) := by
  refine ct_in (by decide +kernel) (show 1 ≤ 1 by decide) (by simp [Value.category]) hl (fun X I O _ => ?_)
  show Ab X g 0 0 _ 0 [some (.ref (29))] [] _
  refine ab_aload_n O 0 dX7_deepest_0 rfl rfl ?_
  refine ab_aload_n O 0 dX7_deepest_1 rfl rfl ?_
  refine ab_get O fl_X7_27 dX7_deepest_2 (at_29 _ _ _) rfl ?_
  refine ab_iconst O 1 dX7_deepest_5 rfl ?_
  refine ab_isub O dX7_deepest_6 ?_
  refine ab_callvI O I.2.2.2.2.2.2 (fr := False) (st := []) lk_X7_73 rfl (at_29 _ _ _) dX7_deepest_7 (c_X7_vertexAt (d - 1) (by omega) _ O.2.2.2.2.2.2.1 _ _ _ _ h) rfl rfl ⟨by rw [I.2.1]; show d - 1 + 1 ≤ d; omega, by rw [I.2.1]; show 8 + (_ + 11) + 36 * (d - 1) ≤ 36 * d; omega⟩ (show 0 ≤ 8 by decide) ⟨by rw [I.2.1]; show 0 + 0 ≤ 0; decide, by rw [I.2.1]; show 0 + 0 ≤ 0; decide⟩ (fun q => q.elim) (fun E u q => q.elim) (fun r2 u hu => ?_)
  obtain ⟨V1, rfl, h⟩ := hu
  exact ab_ireturn O I dX7_deepest_10 (by decide) (by decide) (by rfl) ⟨_, rfl, h⟩

def wp_X7_depthOf (V : Mm) (a0 : Int32) (post : Int32 → Mm → Prop) : Prop := (wp_X3_hasVertex V (a0) (fun (r2 : Int32) (V1 : Mm) => ((r2 = 0 → post (-1) V1) ∧ (¬ r2 = 0 → (vp_in a0 20 ∧ post (V1 31 (Int32.toNatClampNeg (a0))) V1)))))
set_option maxHeartbeats 4000000 in
theorem c_X7_depthOf (d : Nat) (hd : 1 ≤ d) (l : Launch) (hl : l.stackTraces = false) (g : ab_G) (o : Nat → Int64) (D : Nat → UInt64) (a0 : Int32) {V : Mm} {post : Int32 → Mm → Prop} (h : wp_X7_depthOf V a0 post) : Ct l g tk_strs False d 0 0 yX7_depthOf cX7_depthOf 2 (some .int) [.ref 29, .int a0] (SW V o D) (tk_I g (fun r u => ∃ V : Mm, u = SW V o D ∧ post r V)) (fun _ _ => False) := by
  refine ct_in (by decide +kernel) (show 2 ≤ 2 by decide) (by simp [Value.category]) hl (fun X I O _ => ?_)
  show Ab X g 0 0 _ 0 [some (.ref (29)), some (.int (a0))] [] _
  refine ab_aload_n O 0 dX7_depthOf_0 rfl rfl ?_
  refine ab_get O fl_X7_31 dX7_depthOf_1 (at_29 _ _ _) rfl ?_
  refine ab_iload_n O 1 dX7_depthOf_4 rfl rfl ?_
  refine ab_callvI O I.2.2.2.2.2.2 (fr := False) (st := []) lk_X7_61 rfl (at_1 _ _ _) dX7_depthOf_5 (c_X3_hasVertex (d - 1) (by omega) _ O.2.2.2.2.2.2.1 _ _ _ _ h) rfl rfl ⟨by rw [I.2.1]; show d - 1 + 1 ≤ d; omega, by rw [I.2.1]; show 8 + (_ + 11) + 36 * (d - 1) ≤ 36 * d; omega⟩ (show 0 ≤ 8 by decide) ⟨by rw [I.2.1]; show 0 + 0 ≤ 0; decide, by rw [I.2.1]; show 0 + 0 ≤ 0; decide⟩ (fun q => q.elim) (fun E u q => q.elim) (fun r2 u hu => ?_)
  obtain ⟨V1, rfl, h⟩ := hu
  refine ab_if_eq O 20 dX7_depthOf_8 rfl (fun q3 => ?_) (fun q3 => ?_)
  · have h := h.1 q3
    refine ab_iconst O (-1) dX7_depthOf_20 rfl ?_
    exact ab_ireturn O I dX7_depthOf_21 (by decide) (by decide) (by rfl) ⟨_, rfl, h⟩
  · have h := h.2 q3
    refine ab_aload_n O 0 dX7_depthOf_11 rfl rfl ?_
    refine ab_get O fl_X7_15 dX7_depthOf_12 (at_29 _ _ _) rfl ?_
    refine ab_iload_n O 1 dX7_depthOf_15 rfl rfl ?_
    refine ab_iald O dX7_depthOf_16 (at_31 _ _ _) h.1 ?_
    have h := h.2
    refine ab_goto O 21 dX7_depthOf_17 rfl ?_
    exact ab_ireturn O I dX7_depthOf_21 (by decide) (by decide) (by rfl) ⟨_, rfl, h⟩

def wp_X7_holds (V : Mm) (a0 : Int32) (post : Int32 → Mm → Prop) : Prop := (wp_X7_depthOf V (a0) (fun (r2 : Int32) (V1 : Mm) => ((r2 = (-1) → post 0 V1) ∧ (¬ r2 = (-1) → post 1 V1))))
set_option maxHeartbeats 4000000 in
theorem c_X7_holds (d : Nat) (hd : 2 ≤ d) (l : Launch) (hl : l.stackTraces = false) (g : ab_G) (o : Nat → Int64) (D : Nat → UInt64) (a0 : Int32) {V : Mm} {post : Int32 → Mm → Prop} (h : wp_X7_holds V a0 post) : Ct l g tk_strs False d 0 0 yX7_holds cX7_holds 2 (some .boolean) [.ref 29, .int a0] (SW V o D) (tk_I g (fun r u => ∃ V : Mm, u = SW V o D ∧ post r V)) (fun _ _ => False) := by
  refine ct_in (by decide +kernel) (show 2 ≤ 2 by decide) (by simp [Value.category]) hl (fun X I O _ => ?_)
  show Ab X g 0 0 _ 0 [some (.ref (29)), some (.int (a0))] [] _
  refine ab_aload_n O 0 dX7_holds_0 rfl rfl ?_
  refine ab_iload_n O 1 dX7_holds_1 rfl rfl ?_
  refine ab_callvI O I.2.2.2.2.2.2 (fr := False) (st := []) lk_X7_76 rfl (at_29 _ _ _) dX7_holds_2 (c_X7_depthOf (d - 1) (by omega) _ O.2.2.2.2.2.2.1 _ _ _ _ h) rfl rfl ⟨by rw [I.2.1]; show d - 1 + 1 ≤ d; omega, by rw [I.2.1]; show 8 + (_ + 11) + 36 * (d - 1) ≤ 36 * d; omega⟩ (show 0 ≤ 8 by decide) ⟨by rw [I.2.1]; show 0 + 0 ≤ 0; decide, by rw [I.2.1]; show 0 + 0 ≤ 0; decide⟩ (fun q => q.elim) (fun E u q => q.elim) (fun r2 u hu => ?_)
  obtain ⟨V1, rfl, h⟩ := hu
  refine ab_iconst O (-1) dX7_holds_5 rfl ?_
  refine ab_icmp_eq O 13 dX7_holds_6 rfl (fun q3 => ?_) (fun q3 => ?_)
  · have h := h.1 q3
    refine ab_iconst O 0 dX7_holds_13 rfl ?_
    exact ab_ireturn O I dX7_holds_14 (by decide) (by decide) (by rfl) ⟨_, rfl, h⟩
  · have h := h.2 q3
    refine ab_iconst O 1 dX7_holds_9 rfl ?_
    refine ab_goto O 14 dX7_holds_10 rfl ?_
    exact ab_ireturn O I dX7_holds_14 (by decide) (by decide) (by rfl) ⟨_, rfl, h⟩

def wp_X7_lastByClimbing_L7 (post : Int32 → Mm → Prop) (kx : Mm → Int32 → Int32 → Int32 → Prop) : Nat → Mm → Int32 → Int32 → Int32 → Prop
  | 0, _, _, _, _ => False
  | n7 + 1, V, x7_2, x7_3, x7_4 => ((20 ≤ x7_4 → kx (V) (x7_2) (x7_3) (x7_4)) ∧ (¬ 20 ≤ x7_4 → (wp_X7_above V (x7_3) (fun (r3 : Int32) (V2 : Mm) => ((r3 = (-1) → kx (V2) (x7_2) (x7_3) (x7_4)) ∧ (¬ r3 = (-1) → (wp_X7_above V2 (x7_3) (fun (r6 : Int32) (V5 : Mm) => (wp_X0_edgeJoining V5 (x7_3) (r6) (fun (r8 : Int32) (V7 : Mm) => ((x7_2 = (-1) → (wp_X7_above V7 (x7_3) (fun (r11 : Int32) (V10 : Mm) => wp_X7_lastByClimbing_L7 post kx n7 (V10) (r8) (r11) ((x7_4 + (1)))))) ∧ (¬ x7_2 = (-1) → (wp_X3_comesBefore V7 (x7_2) (r8) (fun (r13 : Int32) (V12 : Mm) => ((r13 = 0 → (wp_X7_above V12 (x7_3) (fun (r16 : Int32) (V15 : Mm) => wp_X7_lastByClimbing_L7 post kx n7 (V15) (x7_2) (r16) ((x7_4 + (1)))))) ∧ (¬ r13 = 0 → (wp_X7_above V12 (x7_3) (fun (r18 : Int32) (V17 : Mm) => wp_X7_lastByClimbing_L7 post kx n7 (V17) (r8) (r18) ((x7_4 + (1)))))))))))))))))))))

def wp_X7_lastByClimbing (V : Mm) (a0 : Int32) (post : Int32 → Mm → Prop) : Prop := (∃ m7 : Nat, wp_X7_lastByClimbing_L7 post (fun (V19 : Mm) (x20 : Int32) (x21 : Int32) (x22 : Int32) => post x20 V19) m7 (V) ((-1)) (a0) (0))
set_option maxHeartbeats 4000000 in
theorem cl_X7_lastByClimbing_L7 {X : ab_M} {g : ab_G} {l : Launch} {d : Nat} (hd : 2 ≤ d) {post : Int32 → Mm → Prop} {kx : Mm → Int32 → Int32 → Int32 → Prop} {o : Nat → Int64} {D : Nat → UInt64} (O : ab_Ok X g cX7_lastByClimbing RX7) (I : ab_I X l tk_strs 6 (some .int) yX7_lastByClimbing.name d 0 0) (hk : ∀ (V : Mm) (x7_2 : Int32) (x7_3 : Int32) (x7_4 : Int32), kx V x7_2 x7_3 x7_4 → Ab X g 0 0 (tk_Q X g (tk_I g (fun r u => ∃ V : Mm, u = SW V o D ∧ post r V)) (fun _ _ => False) 0 0) 71 [none, none, some (.int (x7_2)), none, none, none] [] (SW V o D)) : ∀ (n : Nat) (V : Mm) (x7_2 : Int32) (x7_3 : Int32) (x7_4 : Int32), wp_X7_lastByClimbing_L7 post kx n V x7_2 x7_3 x7_4 → Ab X g 0 0 (tk_Q X g (tk_I g (fun r u => ∃ V : Mm, u = SW V o D ∧ post r V)) (fun _ _ => False) 0 0) 7 [some (.ref (29)), none, some (.int (x7_2)), some (.int (x7_3)), some (.int (x7_4)), none] [] (SW V o D) := by
  intro n
  induction n with
  | zero => intro V x7_2 x7_3 x7_4 h; exact h.elim
  | succ n ih =>
    intro V x7_2 x7_3 x7_4 h
    refine ab_iload O dX7_lastByClimbing_7 rfl ?_
    refine ab_bipush O 20 dX7_lastByClimbing_9 rfl ?_
    refine ab_icmp_ge O 71 dX7_lastByClimbing_11 rfl (fun q1 => ?_) (fun q1 => ?_)
    · have h := h.1 q1
      exact ab_less (hk (V) (x7_2) (x7_3) (x7_4) h) (ab_le_n (ab_le_n (ab_le_s (ab_le_n (ab_le_n (ab_le_n ab_le_0))))))
    · have h := h.2 q1
      refine ab_aload_n O 0 dX7_lastByClimbing_14 rfl rfl ?_
      refine ab_iload_n O 3 dX7_lastByClimbing_15 rfl rfl ?_
      refine ab_callvI O I.2.2.2.2.2.2 (fr := False) (st := []) lk_X7_82 rfl (at_29 _ _ _) dX7_lastByClimbing_16 (c_X7_above (d - 1) (by omega) _ O.2.2.2.2.2.2.1 _ _ _ _ h) rfl rfl ⟨by rw [I.2.1]; show d - 1 + 1 ≤ d; omega, by rw [I.2.1]; show 8 + (_ + 11) + 36 * (d - 1) ≤ 36 * d; omega⟩ (show 0 ≤ 8 by decide) ⟨by rw [I.2.1]; show 0 + 0 ≤ 0; decide, by rw [I.2.1]; show 0 + 0 ≤ 0; decide⟩ (fun q => q.elim) (fun E u q => q.elim) (fun r3 u hu => ?_)
      obtain ⟨V2, rfl, h⟩ := hu
      refine ab_iconst O (-1) dX7_lastByClimbing_19 rfl ?_
      refine ab_icmp_eq O 71 dX7_lastByClimbing_20 rfl (fun q4 => ?_) (fun q4 => ?_)
      · have h := h.1 q4
        exact ab_less (hk (V2) (x7_2) (x7_3) (x7_4) h) (ab_le_n (ab_le_n (ab_le_s (ab_le_n (ab_le_n (ab_le_n ab_le_0))))))
      · have h := h.2 q4
        refine ab_aload_n O 0 dX7_lastByClimbing_23 rfl rfl ?_
        refine ab_get O fl_X7_35 dX7_lastByClimbing_24 (at_29 _ _ _) rfl ?_
        refine ab_iload_n O 3 dX7_lastByClimbing_27 rfl rfl ?_
        refine ab_aload_n O 0 dX7_lastByClimbing_28 rfl rfl ?_
        refine ab_iload_n O 3 dX7_lastByClimbing_29 rfl rfl ?_
        refine ab_callvI O I.2.2.2.2.2.2 (fr := False) (st := [.int (x7_3), .ref (7)]) lk_X7_82 rfl (at_29 _ _ _) dX7_lastByClimbing_30 (c_X7_above (d - 1) (by omega) _ O.2.2.2.2.2.2.1 _ _ _ _ h) rfl rfl ⟨by rw [I.2.1]; show d - 1 + 1 ≤ d; omega, by rw [I.2.1]; show 8 + (_ + 11) + 36 * (d - 1) ≤ 36 * d; omega⟩ (show 2 ≤ 8 by decide) ⟨by rw [I.2.1]; show 0 + 0 ≤ 0; decide, by rw [I.2.1]; show 0 + 0 ≤ 0; decide⟩ (fun q => q.elim) (fun E u q => q.elim) (fun r6 u hu => ?_)
        obtain ⟨V5, rfl, h⟩ := hu
        refine ab_callvI O I.2.2.2.2.2.2 (fr := False) (st := []) lk_X7_55 rfl (at_7 _ _ _) dX7_lastByClimbing_33 (c_X0_edgeJoining (d - 1) (by omega) _ O.2.2.2.2.2.2.1 _ _ _ _ _ h) rfl rfl ⟨by rw [I.2.1]; show d - 1 + 1 ≤ d; omega, by rw [I.2.1]; show 8 + (_ + 11) + 36 * (d - 1) ≤ 36 * d; omega⟩ (show 0 ≤ 8 by decide) ⟨by rw [I.2.1]; show 0 + 0 ≤ 0; decide, by rw [I.2.1]; show 0 + 0 ≤ 0; decide⟩ (fun q => q.elim) (fun E u q => q.elim) (fun r8 u hu => ?_)
        obtain ⟨V7, rfl, h⟩ := hu
        refine ab_istore O dX7_lastByClimbing_36 (show 5 < 6 by decide) ?_
        refine ab_iload_n O 2 dX7_lastByClimbing_38 rfl rfl ?_
        refine ab_iconst O (-1) dX7_lastByClimbing_39 rfl ?_
        refine ab_icmp_eq O 56 dX7_lastByClimbing_40 rfl (fun q9 => ?_) (fun q9 => ?_)
        · have h := h.1 q9
          refine ab_iload O dX7_lastByClimbing_56 rfl ?_
          refine ab_istore_n O 2 dX7_lastByClimbing_58 rfl (show 2 < 6 by decide) ?_
          refine ab_aload_n O 0 dX7_lastByClimbing_59 rfl rfl ?_
          refine ab_iload_n O 3 dX7_lastByClimbing_60 rfl rfl ?_
          refine ab_callvI O I.2.2.2.2.2.2 (fr := False) (st := []) lk_X7_82 rfl (at_29 _ _ _) dX7_lastByClimbing_61 (c_X7_above (d - 1) (by omega) _ O.2.2.2.2.2.2.1 _ _ _ _ h) rfl rfl ⟨by rw [I.2.1]; show d - 1 + 1 ≤ d; omega, by rw [I.2.1]; show 8 + (_ + 11) + 36 * (d - 1) ≤ 36 * d; omega⟩ (show 0 ≤ 8 by decide) ⟨by rw [I.2.1]; show 0 + 0 ≤ 0; decide, by rw [I.2.1]; show 0 + 0 ≤ 0; decide⟩ (fun q => q.elim) (fun E u q => q.elim) (fun r11 u hu => ?_)
          obtain ⟨V10, rfl, h⟩ := hu
          refine ab_istore_n O 3 dX7_lastByClimbing_64 rfl (show 3 < 6 by decide) ?_
          refine ab_iinc O ((x7_4 + (1))) dX7_lastByClimbing_65 rfl rfl ?_
          refine ab_goto O 7 dX7_lastByClimbing_68 rfl ?_
          exact ab_less (ih (V10) (r8) (r11) ((x7_4 + (1))) h) (ab_le_s (ab_le_n (ab_le_s (ab_le_s (ab_le_s (ab_le_n ab_le_0))))))
        · have h := h.2 q9
          refine ab_aload_n O 0 dX7_lastByClimbing_43 rfl rfl ?_
          refine ab_get O fl_X7_31 dX7_lastByClimbing_44 (at_29 _ _ _) rfl ?_
          refine ab_iload_n O 2 dX7_lastByClimbing_47 rfl rfl ?_
          refine ab_iload O dX7_lastByClimbing_48 rfl ?_
          refine ab_callvI O I.2.2.2.2.2.2 (fr := False) (st := []) lk_X7_69 rfl (at_1 _ _ _) dX7_lastByClimbing_50 (c_X3_comesBefore (d - 1) (by omega) _ O.2.2.2.2.2.2.1 _ _ _ _ _ h) rfl rfl ⟨by rw [I.2.1]; show d - 1 + 1 ≤ d; omega, by rw [I.2.1]; show 8 + (_ + 11) + 36 * (d - 1) ≤ 36 * d; omega⟩ (show 0 ≤ 8 by decide) ⟨by rw [I.2.1]; show 0 + 0 ≤ 0; decide, by rw [I.2.1]; show 0 + 0 ≤ 0; decide⟩ (fun q => q.elim) (fun E u q => q.elim) (fun r13 u hu => ?_)
          obtain ⟨V12, rfl, h⟩ := hu
          refine ab_if_eq O 59 dX7_lastByClimbing_53 rfl (fun q14 => ?_) (fun q14 => ?_)
          · have h := h.1 q14
            refine ab_aload_n O 0 dX7_lastByClimbing_59 rfl rfl ?_
            refine ab_iload_n O 3 dX7_lastByClimbing_60 rfl rfl ?_
            refine ab_callvI O I.2.2.2.2.2.2 (fr := False) (st := []) lk_X7_82 rfl (at_29 _ _ _) dX7_lastByClimbing_61 (c_X7_above (d - 1) (by omega) _ O.2.2.2.2.2.2.1 _ _ _ _ h) rfl rfl ⟨by rw [I.2.1]; show d - 1 + 1 ≤ d; omega, by rw [I.2.1]; show 8 + (_ + 11) + 36 * (d - 1) ≤ 36 * d; omega⟩ (show 0 ≤ 8 by decide) ⟨by rw [I.2.1]; show 0 + 0 ≤ 0; decide, by rw [I.2.1]; show 0 + 0 ≤ 0; decide⟩ (fun q => q.elim) (fun E u q => q.elim) (fun r16 u hu => ?_)
            obtain ⟨V15, rfl, h⟩ := hu
            refine ab_istore_n O 3 dX7_lastByClimbing_64 rfl (show 3 < 6 by decide) ?_
            refine ab_iinc O ((x7_4 + (1))) dX7_lastByClimbing_65 rfl rfl ?_
            refine ab_goto O 7 dX7_lastByClimbing_68 rfl ?_
            exact ab_less (ih (V15) (x7_2) (r16) ((x7_4 + (1))) h) (ab_le_s (ab_le_n (ab_le_s (ab_le_s (ab_le_s (ab_le_n ab_le_0))))))
          · have h := h.2 q14
            refine ab_iload O dX7_lastByClimbing_56 rfl ?_
            refine ab_istore_n O 2 dX7_lastByClimbing_58 rfl (show 2 < 6 by decide) ?_
            refine ab_aload_n O 0 dX7_lastByClimbing_59 rfl rfl ?_
            refine ab_iload_n O 3 dX7_lastByClimbing_60 rfl rfl ?_
            refine ab_callvI O I.2.2.2.2.2.2 (fr := False) (st := []) lk_X7_82 rfl (at_29 _ _ _) dX7_lastByClimbing_61 (c_X7_above (d - 1) (by omega) _ O.2.2.2.2.2.2.1 _ _ _ _ h) rfl rfl ⟨by rw [I.2.1]; show d - 1 + 1 ≤ d; omega, by rw [I.2.1]; show 8 + (_ + 11) + 36 * (d - 1) ≤ 36 * d; omega⟩ (show 0 ≤ 8 by decide) ⟨by rw [I.2.1]; show 0 + 0 ≤ 0; decide, by rw [I.2.1]; show 0 + 0 ≤ 0; decide⟩ (fun q => q.elim) (fun E u q => q.elim) (fun r18 u hu => ?_)
            obtain ⟨V17, rfl, h⟩ := hu
            refine ab_istore_n O 3 dX7_lastByClimbing_64 rfl (show 3 < 6 by decide) ?_
            refine ab_iinc O ((x7_4 + (1))) dX7_lastByClimbing_65 rfl rfl ?_
            refine ab_goto O 7 dX7_lastByClimbing_68 rfl ?_
            exact ab_less (ih (V17) (r8) (r18) ((x7_4 + (1))) h) (ab_le_s (ab_le_n (ab_le_s (ab_le_s (ab_le_s (ab_le_n ab_le_0))))))
set_option maxHeartbeats 4000000 in
theorem c_X7_lastByClimbing (d : Nat) (hd : 2 ≤ d) (l : Launch) (hl : l.stackTraces = false) (g : ab_G) (o : Nat → Int64) (D : Nat → UInt64) (a0 : Int32) {V : Mm} {post : Int32 → Mm → Prop} (h : wp_X7_lastByClimbing V a0 post) : Ct l g tk_strs False d 0 0 yX7_lastByClimbing cX7_lastByClimbing 6 (some .int) [.ref 29, .int a0] (SW V o D) (tk_I g (fun r u => ∃ V : Mm, u = SW V o D ∧ post r V)) (fun _ _ => False) := by
  refine ct_in (by decide +kernel) (show 2 ≤ 6 by decide) (by simp [Value.category]) hl (fun X I O _ => ?_)
  show Ab X g 0 0 _ 0 [some (.ref (29)), some (.int (a0)), none, none, none, none] [] _
  refine ab_iconst O (-1) dX7_lastByClimbing_0 rfl ?_
  refine ab_istore_n O 2 dX7_lastByClimbing_1 rfl (show 2 < 6 by decide) ?_
  refine ab_iload_n O 1 dX7_lastByClimbing_2 rfl rfl ?_
  refine ab_istore_n O 3 dX7_lastByClimbing_3 rfl (show 3 < 6 by decide) ?_
  refine ab_iconst O 0 dX7_lastByClimbing_4 rfl ?_
  refine ab_istore O dX7_lastByClimbing_5 (show 4 < 6 by decide) ?_
  obtain ⟨n9, h⟩ := h
  refine ab_less (cl_X7_lastByClimbing_L7 hd O I (fun V19 x20 x21 x22 h => ?_) n9 (V) ((-1)) (a0) (0) h) (ab_le_s (ab_le_n (ab_le_s (ab_le_s (ab_le_s (ab_le_n ab_le_0))))))
  refine ab_iload_n O 2 dX7_lastByClimbing_71 rfl rfl ?_
  exact ab_ireturn O I dX7_lastByClimbing_72 (by decide) (by decide) (by rfl) ⟨_, rfl, h⟩

def wp_X7_lastFromRoot (V : Mm) (a0 : Int32) (post : Int32 → Mm → Prop) : Prop := (wp_X7_holds V (a0) (fun (r2 : Int32) (V1 : Mm) => ((r2 = 0 → post (-1) V1) ∧ (¬ r2 = 0 → (vp_in a0 20 ∧ post (V1 34 (Int32.toNatClampNeg (a0))) V1)))))
set_option maxHeartbeats 4000000 in
theorem c_X7_lastFromRoot (d : Nat) (hd : 3 ≤ d) (l : Launch) (hl : l.stackTraces = false) (g : ab_G) (o : Nat → Int64) (D : Nat → UInt64) (a0 : Int32) {V : Mm} {post : Int32 → Mm → Prop} (h : wp_X7_lastFromRoot V a0 post) : Ct l g tk_strs False d 0 0 yX7_lastFromRoot cX7_lastFromRoot 2 (some .int) [.ref 29, .int a0] (SW V o D) (tk_I g (fun r u => ∃ V : Mm, u = SW V o D ∧ post r V)) (fun _ _ => False) := by
  refine ct_in (by decide +kernel) (show 2 ≤ 2 by decide) (by simp [Value.category]) hl (fun X I O _ => ?_)
  show Ab X g 0 0 _ 0 [some (.ref (29)), some (.int (a0))] [] _
  refine ab_aload_n O 0 dX7_lastFromRoot_0 rfl rfl ?_
  refine ab_iload_n O 1 dX7_lastFromRoot_1 rfl rfl ?_
  refine ab_callvI O I.2.2.2.2.2.2 (fr := False) (st := []) lk_X7_79 rfl (at_29 _ _ _) dX7_lastFromRoot_2 (c_X7_holds (d - 1) (by omega) _ O.2.2.2.2.2.2.1 _ _ _ _ h) rfl rfl ⟨by rw [I.2.1]; show d - 1 + 1 ≤ d; omega, by rw [I.2.1]; show 8 + (_ + 11) + 36 * (d - 1) ≤ 36 * d; omega⟩ (show 0 ≤ 8 by decide) ⟨by rw [I.2.1]; show 0 + 0 ≤ 0; decide, by rw [I.2.1]; show 0 + 0 ≤ 0; decide⟩ (fun q => q.elim) (fun E u q => q.elim) (fun r2 u hu => ?_)
  obtain ⟨V1, rfl, h⟩ := hu
  refine ab_if_eq O 17 dX7_lastFromRoot_5 rfl (fun q3 => ?_) (fun q3 => ?_)
  · have h := h.1 q3
    refine ab_iconst O (-1) dX7_lastFromRoot_17 rfl ?_
    exact ab_ireturn O I dX7_lastFromRoot_18 (by decide) (by decide) (by rfl) ⟨_, rfl, h⟩
  · have h := h.2 q3
    refine ab_aload_n O 0 dX7_lastFromRoot_8 rfl rfl ?_
    refine ab_get O fl_X7_24 dX7_lastFromRoot_9 (at_29 _ _ _) rfl ?_
    refine ab_iload_n O 1 dX7_lastFromRoot_12 rfl rfl ?_
    refine ab_iald O dX7_lastFromRoot_13 (at_34 _ _ _) h.1 ?_
    have h := h.2
    refine ab_goto O 18 dX7_lastFromRoot_14 rfl ?_
    exact ab_ireturn O I dX7_lastFromRoot_18 (by decide) (by decide) (by rfl) ⟨_, rfl, h⟩

def wp_X7_meetByClimbing_L8 (post : Int32 → Mm → Prop) (kx : Mm → Int32 → Int32 → Int32 → Prop) : Nat → Mm → Int32 → Int32 → Int32 → Prop
  | 0, _, _, _, _ => False
  | n8 + 1, V, x8_3, x8_4, x8_5 => ((40 ≤ x8_5 → kx (V) (x8_3) (x8_4) (x8_5)) ∧ (¬ 40 ≤ x8_5 → ((x8_3 = x8_4 → kx (V) (x8_3) (x8_4) (x8_5)) ∧ (¬ x8_3 = x8_4 → (wp_X7_depthOf V (x8_3) (fun (r4 : Int32) (V3 : Mm) => (wp_X7_depthOf V3 (x8_4) (fun (r6 : Int32) (V5 : Mm) => ((r4 < r6 → (wp_X7_above V5 (x8_4) (fun (r9 : Int32) (V8 : Mm) => wp_X7_meetByClimbing_L8 post kx n8 (V8) (x8_3) (r9) ((x8_5 + (1)))))) ∧ (¬ r4 < r6 → (wp_X7_above V5 (x8_3) (fun (r11 : Int32) (V10 : Mm) => wp_X7_meetByClimbing_L8 post kx n8 (V10) (r11) (x8_4) ((x8_5 + (1)))))))))))))))

def wp_X7_meetByClimbing (V : Mm) (a0 a1 : Int32) (post : Int32 → Mm → Prop) : Prop := (∃ m8 : Nat, wp_X7_meetByClimbing_L8 post (fun (V12 : Mm) (x13 : Int32) (x14 : Int32) (x15 : Int32) => post x13 V12) m8 (V) (a0) (a1) (0))
set_option maxHeartbeats 4000000 in
theorem cl_X7_meetByClimbing_L8 {X : ab_M} {g : ab_G} {l : Launch} {d : Nat} (hd : 2 ≤ d) {post : Int32 → Mm → Prop} {kx : Mm → Int32 → Int32 → Int32 → Prop} {o : Nat → Int64} {D : Nat → UInt64} (O : ab_Ok X g cX7_meetByClimbing RX7) (I : ab_I X l tk_strs 6 (some .int) yX7_meetByClimbing.name d 0 0) (hk : ∀ (V : Mm) (x8_3 : Int32) (x8_4 : Int32) (x8_5 : Int32), kx V x8_3 x8_4 x8_5 → Ab X g 0 0 (tk_Q X g (tk_I g (fun r u => ∃ V : Mm, u = SW V o D ∧ post r V)) (fun _ _ => False) 0 0) 58 [none, none, none, some (.int (x8_3)), none, none] [] (SW V o D)) : ∀ (n : Nat) (V : Mm) (x8_3 : Int32) (x8_4 : Int32) (x8_5 : Int32), wp_X7_meetByClimbing_L8 post kx n V x8_3 x8_4 x8_5 → Ab X g 0 0 (tk_Q X g (tk_I g (fun r u => ∃ V : Mm, u = SW V o D ∧ post r V)) (fun _ _ => False) 0 0) 8 [some (.ref (29)), none, none, some (.int (x8_3)), some (.int (x8_4)), some (.int (x8_5))] [] (SW V o D) := by
  intro n
  induction n with
  | zero => intro V x8_3 x8_4 x8_5 h; exact h.elim
  | succ n ih =>
    intro V x8_3 x8_4 x8_5 h
    refine ab_iload O dX7_meetByClimbing_8 rfl ?_
    refine ab_bipush O 40 dX7_meetByClimbing_10 rfl ?_
    refine ab_icmp_ge O 58 dX7_meetByClimbing_12 rfl (fun q1 => ?_) (fun q1 => ?_)
    · have h := h.1 q1
      exact ab_less (hk (V) (x8_3) (x8_4) (x8_5) h) (ab_le_n (ab_le_n (ab_le_n (ab_le_s (ab_le_n (ab_le_n ab_le_0))))))
    · have h := h.2 q1
      refine ab_iload_n O 3 dX7_meetByClimbing_15 rfl rfl ?_
      refine ab_iload O dX7_meetByClimbing_16 rfl ?_
      refine ab_icmp_eq O 58 dX7_meetByClimbing_18 rfl (fun q2 => ?_) (fun q2 => ?_)
      · have h := h.1 q2
        exact ab_less (hk (V) (x8_3) (x8_4) (x8_5) h) (ab_le_n (ab_le_n (ab_le_n (ab_le_s (ab_le_n (ab_le_n ab_le_0))))))
      · have h := h.2 q2
        refine ab_aload_n O 0 dX7_meetByClimbing_21 rfl rfl ?_
        refine ab_iload_n O 3 dX7_meetByClimbing_22 rfl rfl ?_
        refine ab_callvI O I.2.2.2.2.2.2 (fr := False) (st := []) lk_X7_76 rfl (at_29 _ _ _) dX7_meetByClimbing_23 (c_X7_depthOf (d - 1) (by omega) _ O.2.2.2.2.2.2.1 _ _ _ _ h) rfl rfl ⟨by rw [I.2.1]; show d - 1 + 1 ≤ d; omega, by rw [I.2.1]; show 8 + (_ + 11) + 36 * (d - 1) ≤ 36 * d; omega⟩ (show 0 ≤ 8 by decide) ⟨by rw [I.2.1]; show 0 + 0 ≤ 0; decide, by rw [I.2.1]; show 0 + 0 ≤ 0; decide⟩ (fun q => q.elim) (fun E u q => q.elim) (fun r4 u hu => ?_)
        obtain ⟨V3, rfl, h⟩ := hu
        refine ab_aload_n O 0 dX7_meetByClimbing_26 rfl rfl ?_
        refine ab_iload O dX7_meetByClimbing_27 rfl ?_
        refine ab_callvI O I.2.2.2.2.2.2 (fr := False) (st := [.int (r4)]) lk_X7_76 rfl (at_29 _ _ _) dX7_meetByClimbing_29 (c_X7_depthOf (d - 1) (by omega) _ O.2.2.2.2.2.2.1 _ _ _ _ h) rfl rfl ⟨by rw [I.2.1]; show d - 1 + 1 ≤ d; omega, by rw [I.2.1]; show 8 + (_ + 11) + 36 * (d - 1) ≤ 36 * d; omega⟩ (show 1 ≤ 8 by decide) ⟨by rw [I.2.1]; show 0 + 0 ≤ 0; decide, by rw [I.2.1]; show 0 + 0 ≤ 0; decide⟩ (fun q => q.elim) (fun E u q => q.elim) (fun r6 u hu => ?_)
        obtain ⟨V5, rfl, h⟩ := hu
        refine ab_icmp_lt O 44 dX7_meetByClimbing_32 rfl (fun q7 => ?_) (fun q7 => ?_)
        · have h := h.1 q7
          refine ab_aload_n O 0 dX7_meetByClimbing_44 rfl rfl ?_
          refine ab_iload O dX7_meetByClimbing_45 rfl ?_
          refine ab_callvI O I.2.2.2.2.2.2 (fr := False) (st := []) lk_X7_82 rfl (at_29 _ _ _) dX7_meetByClimbing_47 (c_X7_above (d - 1) (by omega) _ O.2.2.2.2.2.2.1 _ _ _ _ h) rfl rfl ⟨by rw [I.2.1]; show d - 1 + 1 ≤ d; omega, by rw [I.2.1]; show 8 + (_ + 11) + 36 * (d - 1) ≤ 36 * d; omega⟩ (show 0 ≤ 8 by decide) ⟨by rw [I.2.1]; show 0 + 0 ≤ 0; decide, by rw [I.2.1]; show 0 + 0 ≤ 0; decide⟩ (fun q => q.elim) (fun E u q => q.elim) (fun r9 u hu => ?_)
          obtain ⟨V8, rfl, h⟩ := hu
          refine ab_istore O dX7_meetByClimbing_50 (show 4 < 6 by decide) ?_
          refine ab_iinc O ((x8_5 + (1))) dX7_meetByClimbing_52 rfl rfl ?_
          refine ab_goto O 8 dX7_meetByClimbing_55 rfl ?_
          exact ab_less (ih (V8) (x8_3) (r9) ((x8_5 + (1))) h) (ab_le_s (ab_le_n (ab_le_n (ab_le_s (ab_le_s (ab_le_s ab_le_0))))))
        · have h := h.2 q7
          refine ab_aload_n O 0 dX7_meetByClimbing_35 rfl rfl ?_
          refine ab_iload_n O 3 dX7_meetByClimbing_36 rfl rfl ?_
          refine ab_callvI O I.2.2.2.2.2.2 (fr := False) (st := []) lk_X7_82 rfl (at_29 _ _ _) dX7_meetByClimbing_37 (c_X7_above (d - 1) (by omega) _ O.2.2.2.2.2.2.1 _ _ _ _ h) rfl rfl ⟨by rw [I.2.1]; show d - 1 + 1 ≤ d; omega, by rw [I.2.1]; show 8 + (_ + 11) + 36 * (d - 1) ≤ 36 * d; omega⟩ (show 0 ≤ 8 by decide) ⟨by rw [I.2.1]; show 0 + 0 ≤ 0; decide, by rw [I.2.1]; show 0 + 0 ≤ 0; decide⟩ (fun q => q.elim) (fun E u q => q.elim) (fun r11 u hu => ?_)
          obtain ⟨V10, rfl, h⟩ := hu
          refine ab_istore_n O 3 dX7_meetByClimbing_40 rfl (show 3 < 6 by decide) ?_
          refine ab_goto O 52 dX7_meetByClimbing_41 rfl ?_
          refine ab_iinc O ((x8_5 + (1))) dX7_meetByClimbing_52 rfl rfl ?_
          refine ab_goto O 8 dX7_meetByClimbing_55 rfl ?_
          exact ab_less (ih (V10) (r11) (x8_4) ((x8_5 + (1))) h) (ab_le_s (ab_le_n (ab_le_n (ab_le_s (ab_le_s (ab_le_s ab_le_0))))))
set_option maxHeartbeats 4000000 in
theorem c_X7_meetByClimbing (d : Nat) (hd : 2 ≤ d) (l : Launch) (hl : l.stackTraces = false) (g : ab_G) (o : Nat → Int64) (D : Nat → UInt64) (a0 : Int32) (a1 : Int32) {V : Mm} {post : Int32 → Mm → Prop} (h : wp_X7_meetByClimbing V a0 a1 post) : Ct l g tk_strs False d 0 0 yX7_meetByClimbing cX7_meetByClimbing 6 (some .int) [.ref 29, .int a0, .int a1] (SW V o D) (tk_I g (fun r u => ∃ V : Mm, u = SW V o D ∧ post r V)) (fun _ _ => False) := by
  refine ct_in (by decide +kernel) (show 3 ≤ 6 by decide) (by simp [Value.category]) hl (fun X I O _ => ?_)
  show Ab X g 0 0 _ 0 [some (.ref (29)), some (.int (a0)), some (.int (a1)), none, none, none] [] _
  refine ab_iload_n O 1 dX7_meetByClimbing_0 rfl rfl ?_
  refine ab_istore_n O 3 dX7_meetByClimbing_1 rfl (show 3 < 6 by decide) ?_
  refine ab_iload_n O 2 dX7_meetByClimbing_2 rfl rfl ?_
  refine ab_istore O dX7_meetByClimbing_3 (show 4 < 6 by decide) ?_
  refine ab_iconst O 0 dX7_meetByClimbing_5 rfl ?_
  refine ab_istore O dX7_meetByClimbing_6 (show 5 < 6 by decide) ?_
  obtain ⟨n9, h⟩ := h
  refine ab_less (cl_X7_meetByClimbing_L8 hd O I (fun V12 x13 x14 x15 h => ?_) n9 (V) (a0) (a1) (0) h) (ab_le_s (ab_le_n (ab_le_n (ab_le_s (ab_le_s (ab_le_s ab_le_0))))))
  refine ab_iload_n O 3 dX7_meetByClimbing_58 rfl rfl ?_
  exact ab_ireturn O I dX7_meetByClimbing_59 (by decide) (by decide) (by rfl) ⟨_, rfl, h⟩

def wp_X7_reach (V : Mm) (a0 a1 a2 : Int32) (post : Mm → Prop) : Prop := (wp_X3_hasVertex V (a0) (fun (r2 : Int32) (V1 : Mm) => ((r2 = 0 → post V1) ∧ (¬ r2 = 0 → (vp_in a0 20 ∧ (((V1 31 (Int32.toNatClampNeg (a0))) = (-1) → (((V1 29 7) < 20 → (vp_in (V1 29 7) 20 ∧ ∀ V6 : Mm, V6 = wr V1 30 (Int32.toNatClampNeg ((V1 29 7))) a0 → (∀ V7 : Mm, V7 = wr V6 29 7 ((V6 29 7) + 1) → (vp_in a0 20 ∧ ∀ V8 : Mm, V8 = wr V7 31 (Int32.toNatClampNeg (a0)) 0 → (vp_in a0 20 ∧ ∀ V9 : Mm, V9 = wr V8 32 (Int32.toNatClampNeg (a0)) a1 → (wp_X3_valueOf V9 (a0) (fun (r11 : Int32) (V10 : Mm) => (vp_in a0 20 ∧ ∀ V12 : Mm, V12 = wr V10 33 (Int32.toNatClampNeg (a0)) r11 → (vp_in a0 20 ∧ ∀ V13 : Mm, V13 = wr V12 34 (Int32.toNatClampNeg (a0)) a2 → (wp_X3_hasVertex V13 (a1) (fun (r15 : Int32) (V14 : Mm) => ((r15 = 0 → post V14) ∧ (¬ r15 = 0 → (vp_in a1 20 ∧ (vp_in a1 20 ∧ (vp_in a0 20 ∧ ∀ V17 : Mm, V17 = wr V14 31 (Int32.toNatClampNeg (a0)) ((V14 31 (Int32.toNatClampNeg (a1))) + 1) → (vp_in a0 20 ∧ (vp_in a1 20 ∧ (vp_in a0 20 ∧ ∀ V18 : Mm, V18 = wr V17 33 (Int32.toNatClampNeg (a0)) ((V17 33 (Int32.toNatClampNeg (a0))) + (V17 33 (Int32.toNatClampNeg (a1)))) → (((V14 34 (Int32.toNatClampNeg (a1))) = (-1) → post V18) ∧ (¬ (V14 34 (Int32.toNatClampNeg (a1))) = (-1) → (wp_X3_comesBefore V18 (a2) ((V14 34 (Int32.toNatClampNeg (a1)))) (fun (r21 : Int32) (V20 : Mm) => ((r21 = 0 → post V20) ∧ (¬ r21 = 0 → (vp_in a0 20 ∧ ∀ V23 : Mm, V23 = wr V20 34 (Int32.toNatClampNeg (a0)) (V14 34 (Int32.toNatClampNeg (a1))) → post V23)))))))))))))))))))))))))) ∧ (¬ (V1 29 7) < 20 → post V1))) ∧ (¬ (V1 31 (Int32.toNatClampNeg (a0))) = (-1) → post V1)))))))
set_option maxHeartbeats 4000000 in
theorem c_X7_reach (d : Nat) (hd : 2 ≤ d) (l : Launch) (hl : l.stackTraces = false) (g : ab_G) (o : Nat → Int64) (D : Nat → UInt64) (a0 : Int32) (a1 : Int32) (a2 : Int32) {V : Mm} {post : Mm → Prop} (h : wp_X7_reach V a0 a1 a2 post) : Ct l g tk_strs False d 0 0 yX7_reach cX7_reach 5 none [.ref 29, .int a0, .int a1, .int a2] (SW V o D) (tk_V g (fun u => ∃ V : Mm, u = SW V o D ∧ post V)) (fun _ _ => False) := by
  refine ct_in (by decide +kernel) (show 4 ≤ 5 by decide) (by simp [Value.category]) hl (fun X I O _ => ?_)
  show Ab X g 0 0 _ 0 [some (.ref (29)), some (.int (a0)), some (.int (a1)), some (.int (a2)), none] [] _
  refine ab_aload_n O 0 dX7_reach_0 rfl rfl ?_
  refine ab_get O fl_X7_31 dX7_reach_1 (at_29 _ _ _) rfl ?_
  refine ab_iload_n O 1 dX7_reach_4 rfl rfl ?_
  refine ab_callvI O I.2.2.2.2.2.2 (fr := False) (st := []) lk_X7_61 rfl (at_1 _ _ _) dX7_reach_5 (c_X3_hasVertex (d - 1) (by omega) _ O.2.2.2.2.2.2.1 _ _ _ _ h) rfl rfl ⟨by rw [I.2.1]; show d - 1 + 1 ≤ d; omega, by rw [I.2.1]; show 8 + (_ + 11) + 36 * (d - 1) ≤ 36 * d; omega⟩ (show 0 ≤ 8 by decide) ⟨by rw [I.2.1]; show 0 + 0 ≤ 0; decide, by rw [I.2.1]; show 0 + 0 ≤ 0; decide⟩ (fun q => q.elim) (fun E u q => q.elim) (fun r2 u hu => ?_)
  obtain ⟨V1, rfl, h⟩ := hu
  refine ab_if_eq O 30 dX7_reach_8 rfl (fun q3 => ?_) (fun q3 => ?_)
  · have h := h.1 q3
    exact ab_return O I dX7_reach_30 (by decide) (by decide) ⟨_, rfl, h⟩
  · have h := h.2 q3
    refine ab_aload_n O 0 dX7_reach_11 rfl rfl ?_
    refine ab_get O fl_X7_15 dX7_reach_12 (at_29 _ _ _) rfl ?_
    refine ab_iload_n O 1 dX7_reach_15 rfl rfl ?_
    refine ab_iald O dX7_reach_16 (at_31 _ _ _) h.1 ?_
    have h := h.2
    refine ab_iconst O (-1) dX7_reach_17 rfl ?_
    refine ab_icmp_ne O 30 dX7_reach_18 rfl (fun q4 => ?_) (fun q4 => ?_)
    · have h := h.2 q4
      exact ab_return O I dX7_reach_30 (by decide) (by decide) ⟨_, rfl, h⟩
    · have h := h.1 q4
      refine ab_aload_n O 0 dX7_reach_21 rfl rfl ?_
      refine ab_get O fl_X7_27 dX7_reach_22 (at_29 _ _ _) rfl ?_
      refine ab_bipush O 20 dX7_reach_25 rfl ?_
      refine ab_icmp_lt O 31 dX7_reach_27 rfl (fun q5 => ?_) (fun q5 => ?_)
      · have h := h.1 q5
        refine ab_aload_n O 0 dX7_reach_31 rfl rfl ?_
        refine ab_get O fl_X7_9 dX7_reach_32 (at_29 _ _ _) rfl ?_
        refine ab_aload_n O 0 dX7_reach_35 rfl rfl ?_
        refine ab_get O fl_X7_27 dX7_reach_36 (at_29 _ _ _) rfl ?_
        refine ab_iload_n O 1 dX7_reach_39 rfl rfl ?_
        refine ab_iast O dX7_reach_40 (at_30 _ _ _) h.1 ?_
        have h := h.2
        refine ab_eq ?_ rfl rfl rfl (sa_30 _ _ _ _ _).symm
        obtain ⟨V6, eV6⟩ : ∃ z : Mm, z = wr V1 30 (Int32.toNatClampNeg ((V1 29 7))) a0 := ⟨_, rfl⟩
        rw [← eV6]
        have h := h V6 eV6
        refine ab_aload_n O 0 dX7_reach_41 rfl rfl ?_
        refine ab_dup O dX7_reach_42 rfl ?_
        refine ab_get O fl_X7_27 dX7_reach_43 (at_29 _ _ _) rfl ?_
        refine ab_iconst O 1 dX7_reach_46 rfl ?_
        refine ab_iadd O dX7_reach_47 ?_
        refine ab_put O fl_X7_27 cl_X7 dX7_reach_48 (at_29 _ _ _) rfl .int (by decide +kernel) (fun _ => rfl) (fun _ => rfl) (show 7 < 8 by decide) ?_
        refine ab_eq ?_ rfl rfl rfl (sf_29_7 _ _ _ _).symm
        obtain ⟨V7, eV7⟩ : ∃ z : Mm, z = wr V6 29 7 ((V6 29 7) + 1) := ⟨_, rfl⟩
        rw [← eV7]
        have h := h V7 eV7
        refine ab_aload_n O 0 dX7_reach_51 rfl rfl ?_
        refine ab_get O fl_X7_15 dX7_reach_52 (at_29 _ _ _) rfl ?_
        refine ab_iload_n O 1 dX7_reach_55 rfl rfl ?_
        refine ab_iconst O 0 dX7_reach_56 rfl ?_
        refine ab_iast O dX7_reach_57 (at_31 _ _ _) h.1 ?_
        have h := h.2
        refine ab_eq ?_ rfl rfl rfl (sa_31 _ _ _ _ _).symm
        obtain ⟨V8, eV8⟩ : ∃ z : Mm, z = wr V7 31 (Int32.toNatClampNeg (a0)) 0 := ⟨_, rfl⟩
        rw [← eV8]
        have h := h V8 eV8
        refine ab_aload_n O 0 dX7_reach_58 rfl rfl ?_
        refine ab_get O fl_X7_18 dX7_reach_59 (at_29 _ _ _) rfl ?_
        refine ab_iload_n O 1 dX7_reach_62 rfl rfl ?_
        refine ab_iload_n O 2 dX7_reach_63 rfl rfl ?_
        refine ab_iast O dX7_reach_64 (at_32 _ _ _) h.1 ?_
        have h := h.2
        refine ab_eq ?_ rfl rfl rfl (sa_32 _ _ _ _ _).symm
        obtain ⟨V9, eV9⟩ : ∃ z : Mm, z = wr V8 32 (Int32.toNatClampNeg (a0)) a1 := ⟨_, rfl⟩
        rw [← eV9]
        have h := h V9 eV9
        refine ab_aload_n O 0 dX7_reach_65 rfl rfl ?_
        refine ab_get O fl_X7_21 dX7_reach_66 (at_29 _ _ _) rfl ?_
        refine ab_iload_n O 1 dX7_reach_69 rfl rfl ?_
        refine ab_aload_n O 0 dX7_reach_70 rfl rfl ?_
        refine ab_get O fl_X7_31 dX7_reach_71 (at_29 _ _ _) rfl ?_
        refine ab_iload_n O 1 dX7_reach_74 rfl rfl ?_
        refine ab_callvI O I.2.2.2.2.2.2 (fr := False) (st := [.int (a0), .ref (33)]) lk_X7_65 rfl (at_1 _ _ _) dX7_reach_75 (c_X3_valueOf (d - 1) (by omega) _ O.2.2.2.2.2.2.1 _ _ _ _ h) rfl rfl ⟨by rw [I.2.1]; show d - 1 + 1 ≤ d; omega, by rw [I.2.1]; show 8 + (_ + 11) + 36 * (d - 1) ≤ 36 * d; omega⟩ (show 2 ≤ 8 by decide) ⟨by rw [I.2.1]; show 0 + 0 ≤ 0; decide, by rw [I.2.1]; show 0 + 0 ≤ 0; decide⟩ (fun q => q.elim) (fun E u q => q.elim) (fun r11 u hu => ?_)
        obtain ⟨V10, rfl, h⟩ := hu
        refine ab_iast O dX7_reach_78 (at_33 _ _ _) h.1 ?_
        have h := h.2
        refine ab_eq ?_ rfl rfl rfl (sa_33 _ _ _ _ _).symm
        obtain ⟨V12, eV12⟩ : ∃ z : Mm, z = wr V10 33 (Int32.toNatClampNeg (a0)) r11 := ⟨_, rfl⟩
        rw [← eV12]
        have h := h V12 eV12
        refine ab_aload_n O 0 dX7_reach_79 rfl rfl ?_
        refine ab_get O fl_X7_24 dX7_reach_80 (at_29 _ _ _) rfl ?_
        refine ab_iload_n O 1 dX7_reach_83 rfl rfl ?_
        refine ab_iload_n O 3 dX7_reach_84 rfl rfl ?_
        refine ab_iast O dX7_reach_85 (at_34 _ _ _) h.1 ?_
        have h := h.2
        refine ab_eq ?_ rfl rfl rfl (sa_34 _ _ _ _ _).symm
        obtain ⟨V13, eV13⟩ : ∃ z : Mm, z = wr V12 34 (Int32.toNatClampNeg (a0)) a2 := ⟨_, rfl⟩
        rw [← eV13]
        have h := h V13 eV13
        refine ab_aload_n O 0 dX7_reach_86 rfl rfl ?_
        refine ab_get O fl_X7_31 dX7_reach_87 (at_29 _ _ _) rfl ?_
        refine ab_iload_n O 2 dX7_reach_90 rfl rfl ?_
        refine ab_callvI O I.2.2.2.2.2.2 (fr := False) (st := []) lk_X7_61 rfl (at_1 _ _ _) dX7_reach_91 (c_X3_hasVertex (d - 1) (by omega) _ O.2.2.2.2.2.2.1 _ _ _ _ h) rfl rfl ⟨by rw [I.2.1]; show d - 1 + 1 ≤ d; omega, by rw [I.2.1]; show 8 + (_ + 11) + 36 * (d - 1) ≤ 36 * d; omega⟩ (show 0 ≤ 8 by decide) ⟨by rw [I.2.1]; show 0 + 0 ≤ 0; decide, by rw [I.2.1]; show 0 + 0 ≤ 0; decide⟩ (fun q => q.elim) (fun E u q => q.elim) (fun r15 u hu => ?_)
        obtain ⟨V14, rfl, h⟩ := hu
        refine ab_if_eq O 161 dX7_reach_94 rfl (fun q16 => ?_) (fun q16 => ?_)
        · have h := h.1 q16
          exact ab_return O I dX7_reach_161 (by decide) (by decide) ⟨_, rfl, h⟩
        · have h := h.2 q16
          refine ab_aload_n O 0 dX7_reach_97 rfl rfl ?_
          refine ab_get O fl_X7_24 dX7_reach_98 (at_29 _ _ _) rfl ?_
          refine ab_iload_n O 2 dX7_reach_101 rfl rfl ?_
          refine ab_iald O dX7_reach_102 (at_34 _ _ _) h.1 ?_
          have h := h.2
          refine ab_istore O dX7_reach_103 (show 4 < 5 by decide) ?_
          refine ab_aload_n O 0 dX7_reach_105 rfl rfl ?_
          refine ab_get O fl_X7_15 dX7_reach_106 (at_29 _ _ _) rfl ?_
          refine ab_iload_n O 1 dX7_reach_109 rfl rfl ?_
          refine ab_aload_n O 0 dX7_reach_110 rfl rfl ?_
          refine ab_get O fl_X7_15 dX7_reach_111 (at_29 _ _ _) rfl ?_
          refine ab_iload_n O 2 dX7_reach_114 rfl rfl ?_
          refine ab_iald O dX7_reach_115 (at_31 _ _ _) h.1 ?_
          have h := h.2
          refine ab_iconst O 1 dX7_reach_116 rfl ?_
          refine ab_iadd O dX7_reach_117 ?_
          refine ab_iast O dX7_reach_118 (at_31 _ _ _) h.1 ?_
          have h := h.2
          refine ab_eq ?_ rfl rfl rfl (sa_31 _ _ _ _ _).symm
          obtain ⟨V17, eV17⟩ : ∃ z : Mm, z = wr V14 31 (Int32.toNatClampNeg (a0)) ((V14 31 (Int32.toNatClampNeg (a1))) + 1) := ⟨_, rfl⟩
          rw [← eV17]
          have h := h V17 eV17
          refine ab_aload_n O 0 dX7_reach_119 rfl rfl ?_
          refine ab_get O fl_X7_21 dX7_reach_120 (at_29 _ _ _) rfl ?_
          refine ab_iload_n O 1 dX7_reach_123 rfl rfl ?_
          refine ab_dup2 O dX7_reach_124 rfl rfl ?_
          refine ab_iald O dX7_reach_125 (at_33 _ _ _) h.1 ?_
          have h := h.2
          refine ab_aload_n O 0 dX7_reach_126 rfl rfl ?_
          refine ab_get O fl_X7_21 dX7_reach_127 (at_29 _ _ _) rfl ?_
          refine ab_iload_n O 2 dX7_reach_130 rfl rfl ?_
          refine ab_iald O dX7_reach_131 (at_33 _ _ _) h.1 ?_
          have h := h.2
          refine ab_iadd O dX7_reach_132 ?_
          refine ab_iast O dX7_reach_133 (at_33 _ _ _) h.1 ?_
          have h := h.2
          refine ab_eq ?_ rfl rfl rfl (sa_33 _ _ _ _ _).symm
          obtain ⟨V18, eV18⟩ : ∃ z : Mm, z = wr V17 33 (Int32.toNatClampNeg (a0)) ((V17 33 (Int32.toNatClampNeg (a0))) + (V17 33 (Int32.toNatClampNeg (a1)))) := ⟨_, rfl⟩
          rw [← eV18]
          have h := h V18 eV18
          refine ab_iload O dX7_reach_134 rfl ?_
          refine ab_iconst O (-1) dX7_reach_136 rfl ?_
          refine ab_icmp_eq O 161 dX7_reach_137 rfl (fun q19 => ?_) (fun q19 => ?_)
          · have h := h.1 q19
            exact ab_return O I dX7_reach_161 (by decide) (by decide) ⟨_, rfl, h⟩
          · have h := h.2 q19
            refine ab_aload_n O 0 dX7_reach_140 rfl rfl ?_
            refine ab_get O fl_X7_31 dX7_reach_141 (at_29 _ _ _) rfl ?_
            refine ab_iload_n O 3 dX7_reach_144 rfl rfl ?_
            refine ab_iload O dX7_reach_145 rfl ?_
            refine ab_callvI O I.2.2.2.2.2.2 (fr := False) (st := []) lk_X7_69 rfl (at_1 _ _ _) dX7_reach_147 (c_X3_comesBefore (d - 1) (by omega) _ O.2.2.2.2.2.2.1 _ _ _ _ _ h) rfl rfl ⟨by rw [I.2.1]; show d - 1 + 1 ≤ d; omega, by rw [I.2.1]; show 8 + (_ + 11) + 36 * (d - 1) ≤ 36 * d; omega⟩ (show 0 ≤ 8 by decide) ⟨by rw [I.2.1]; show 0 + 0 ≤ 0; decide, by rw [I.2.1]; show 0 + 0 ≤ 0; decide⟩ (fun q => q.elim) (fun E u q => q.elim) (fun r21 u hu => ?_)
            obtain ⟨V20, rfl, h⟩ := hu
            refine ab_if_eq O 161 dX7_reach_150 rfl (fun q22 => ?_) (fun q22 => ?_)
            · have h := h.1 q22
              exact ab_return O I dX7_reach_161 (by decide) (by decide) ⟨_, rfl, h⟩
            · have h := h.2 q22
              refine ab_aload_n O 0 dX7_reach_153 rfl rfl ?_
              refine ab_get O fl_X7_24 dX7_reach_154 (at_29 _ _ _) rfl ?_
              refine ab_iload_n O 1 dX7_reach_157 rfl rfl ?_
              refine ab_iload O dX7_reach_158 rfl ?_
              refine ab_iast O dX7_reach_160 (at_34 _ _ _) h.1 ?_
              have h := h.2
              refine ab_eq ?_ rfl rfl rfl (sa_34 _ _ _ _ _).symm
              obtain ⟨V23, eV23⟩ : ∃ z : Mm, z = wr V20 34 (Int32.toNatClampNeg (a0)) (V14 34 (Int32.toNatClampNeg (a1))) := ⟨_, rfl⟩
              rw [← eV23]
              have h := h V23 eV23
              exact ab_return O I dX7_reach_161 (by decide) (by decide) ⟨_, rfl, h⟩
      · have h := h.2 q5
        exact ab_return O I dX7_reach_30 (by decide) (by decide) ⟨_, rfl, h⟩

def wp_X7_plant_L47 (y47_2 y47_3 : Int32) (post : Mm → Prop) (kx : Mm → Int32 → Prop) : Nat → Mm → Int32 → Prop
  | 0, _, _ => False
  | n47 + 1, V, x47_4 => (wp_X3_vertexCount V (fun (r8 : Int32) (V7 : Mm) => ((r8 ≤ x47_4 → kx (V7) (x47_4)) ∧ (¬ r8 ≤ x47_4 → (vp_in y47_3 20 ∧ (wp_X0_edgeJoining V7 ((V7 30 (Int32.toNatClampNeg (y47_3)))) (x47_4) (fun (r11 : Int32) (V10 : Mm) => ((r11 = (-1) → wp_X7_plant_L47 y47_2 y47_3 post kx n47 (V10) ((x47_4 + (1)))) ∧ (¬ r11 = (-1) → ((r11 = y47_2 → wp_X7_plant_L47 y47_2 y47_3 post kx n47 (V10) ((x47_4 + (1)))) ∧ (¬ r11 = y47_2 → (vp_in y47_3 20 ∧ (wp_X7_reach V10 (x47_4) ((V10 30 (Int32.toNatClampNeg (y47_3)))) (r11) (fun (V14 : Mm) => wp_X7_plant_L47 y47_2 y47_3 post kx n47 (V14) ((x47_4 + (1)))))))))))))))))

def wp_X7_plant_L30 (y30_2 : Int32) (post : Mm → Prop) (kx : Mm → Int32 → Prop) : Nat → Mm → Int32 → Prop
  | 0, _, _ => False
  | n30 + 1, V, x30_3 => ((20 ≤ x30_3 → kx (V) (x30_3)) ∧ (¬ 20 ≤ x30_3 → (((V 29 7) ≤ x30_3 → kx (V) (x30_3)) ∧ (¬ (V 29 7) ≤ x30_3 → (∃ m47 : Nat, wp_X7_plant_L47 (y30_2) (x30_3) post (fun (V15 : Mm) (x16 : Int32) => wp_X7_plant_L30 y30_2 post kx n30 (V15) ((x30_3 + (1)))) m47 (V) (0))))))

def wp_X7_plant (V : Mm) (a0 a1 : Int32) (post : Mm → Prop) : Prop := (∀ V1 : Mm, V1 = wr V 29 7 0 → (∀ V2 : Mm, V2 = wfill V1 31 20 (-1) → (∀ V3 : Mm, V3 = wfill V2 32 20 (-1) → (wp_X7_reach V3 (a0) ((-1)) ((-1)) (fun (V4 : Mm) => (∃ m30 : Nat, wp_X7_plant_L30 (a1) post (fun (V17 : Mm) (x18 : Int32) => post V17) m30 (V4) (0)))))))
set_option maxHeartbeats 4000000 in
theorem cl_X7_plant_L47 {X : ab_M} {g : ab_G} {l : Launch} {d : Nat} (hd : 3 ≤ d) (y47_2 y47_3 : Int32) {post : Mm → Prop} {kx : Mm → Int32 → Prop} {o : Nat → Int64} {D : Nat → UInt64} (O : ab_Ok X g cX7_plant RX7) (I : ab_I X l tk_strs 6 none yX7_plant.name d 0 0) (hk : ∀ (V : Mm) (x47_4 : Int32), kx V x47_4 → Ab X g 0 0 (tk_Q X g (tk_V g (fun u => ∃ V : Mm, u = SW V o D ∧ post V)) (fun _ _ => False) 0 0) 108 [some (.ref (29)), none, some (.int (y47_2)), some (.int (y47_3)), none, none] [] (SW V o D)) : ∀ (n : Nat) (V : Mm) (x47_4 : Int32), wp_X7_plant_L47 y47_2 y47_3 post kx n V x47_4 → Ab X g 0 0 (tk_Q X g (tk_V g (fun u => ∃ V : Mm, u = SW V o D ∧ post V)) (fun _ _ => False) 0 0) 47 [some (.ref (29)), none, some (.int (y47_2)), some (.int (y47_3)), some (.int (x47_4)), none] [] (SW V o D) := by
  intro n
  induction n with
  | zero => intro V x47_4 h; exact h.elim
  | succ n ih =>
    intro V x47_4 h
    refine ab_iload O dX7_plant_47 rfl ?_
    refine ab_aload_n O 0 dX7_plant_49 rfl rfl ?_
    refine ab_get O fl_X7_31 dX7_plant_50 (at_29 _ _ _) rfl ?_
    refine ab_callvI O I.2.2.2.2.2.2 (fr := False) (st := [.int (x47_4)]) lk_X7_49 rfl (at_1 _ _ _) dX7_plant_53 (c_X3_vertexCount (d - 1) (by omega) _ O.2.2.2.2.2.2.1 _ _ _ h) rfl rfl ⟨by rw [I.2.1]; show d - 1 + 1 ≤ d; omega, by rw [I.2.1]; show 8 + (_ + 11) + 36 * (d - 1) ≤ 36 * d; omega⟩ (show 1 ≤ 8 by decide) ⟨by rw [I.2.1]; show 0 + 0 ≤ 0; decide, by rw [I.2.1]; show 0 + 0 ≤ 0; decide⟩ (fun q => q.elim) (fun E u q => q.elim) (fun r8 u hu => ?_)
    obtain ⟨V7, rfl, h⟩ := hu
    refine ab_icmp_ge O 108 dX7_plant_56 rfl (fun q9 => ?_) (fun q9 => ?_)
    · have h := h.1 q9
      exact ab_less (hk (V7) (x47_4) h) (ab_le_s (ab_le_n (ab_le_s (ab_le_s (ab_le_n (ab_le_n ab_le_0))))))
    · have h := h.2 q9
      refine ab_aload_n O 0 dX7_plant_59 rfl rfl ?_
      refine ab_get O fl_X7_35 dX7_plant_60 (at_29 _ _ _) rfl ?_
      refine ab_aload_n O 0 dX7_plant_63 rfl rfl ?_
      refine ab_get O fl_X7_9 dX7_plant_64 (at_29 _ _ _) rfl ?_
      refine ab_iload_n O 3 dX7_plant_67 rfl rfl ?_
      refine ab_iald O dX7_plant_68 (at_30 _ _ _) h.1 ?_
      have h := h.2
      refine ab_iload O dX7_plant_69 rfl ?_
      refine ab_callvI O I.2.2.2.2.2.2 (fr := False) (st := []) lk_X7_55 rfl (at_7 _ _ _) dX7_plant_71 (c_X0_edgeJoining (d - 1) (by omega) _ O.2.2.2.2.2.2.1 _ _ _ _ _ h) rfl rfl ⟨by rw [I.2.1]; show d - 1 + 1 ≤ d; omega, by rw [I.2.1]; show 8 + (_ + 11) + 36 * (d - 1) ≤ 36 * d; omega⟩ (show 0 ≤ 8 by decide) ⟨by rw [I.2.1]; show 0 + 0 ≤ 0; decide, by rw [I.2.1]; show 0 + 0 ≤ 0; decide⟩ (fun q => q.elim) (fun E u q => q.elim) (fun r11 u hu => ?_)
      obtain ⟨V10, rfl, h⟩ := hu
      refine ab_istore O dX7_plant_74 (show 5 < 6 by decide) ?_
      refine ab_iload O dX7_plant_76 rfl ?_
      refine ab_iconst O (-1) dX7_plant_78 rfl ?_
      refine ab_icmp_eq O 102 dX7_plant_79 rfl (fun q12 => ?_) (fun q12 => ?_)
      · have h := h.1 q12
        refine ab_iinc O ((x47_4 + (1))) dX7_plant_102 rfl rfl ?_
        refine ab_goto O 47 dX7_plant_105 rfl ?_
        exact ab_less (ih (V10) ((x47_4 + (1))) h) (ab_le_s (ab_le_n (ab_le_s (ab_le_s (ab_le_s (ab_le_n ab_le_0))))))
      · have h := h.2 q12
        refine ab_iload O dX7_plant_82 rfl ?_
        refine ab_iload_n O 2 dX7_plant_84 rfl rfl ?_
        refine ab_icmp_eq O 102 dX7_plant_85 rfl (fun q13 => ?_) (fun q13 => ?_)
        · have h := h.1 q13
          refine ab_iinc O ((x47_4 + (1))) dX7_plant_102 rfl rfl ?_
          refine ab_goto O 47 dX7_plant_105 rfl ?_
          exact ab_less (ih (V10) ((x47_4 + (1))) h) (ab_le_s (ab_le_n (ab_le_s (ab_le_s (ab_le_s (ab_le_n ab_le_0))))))
        · have h := h.2 q13
          refine ab_aload_n O 0 dX7_plant_88 rfl rfl ?_
          refine ab_iload O dX7_plant_89 rfl ?_
          refine ab_aload_n O 0 dX7_plant_91 rfl rfl ?_
          refine ab_get O fl_X7_9 dX7_plant_92 (at_29 _ _ _) rfl ?_
          refine ab_iload_n O 3 dX7_plant_95 rfl rfl ?_
          refine ab_iald O dX7_plant_96 (at_30 _ _ _) h.1 ?_
          have h := h.2
          refine ab_iload O dX7_plant_97 rfl ?_
          refine ab_callvV O I.2.2.2.2.2.2 (fr := False) (st := []) lk_X7_45 rfl (at_29 _ _ _) dX7_plant_99 (c_X7_reach (d - 1) (by omega) _ O.2.2.2.2.2.2.1 _ _ _ _ _ _ h) rfl rfl ⟨by rw [I.2.1]; show d - 1 + 1 ≤ d; omega, by rw [I.2.1]; show 8 + (_ + 11) + 36 * (d - 1) ≤ 36 * d; omega⟩ (show 0 ≤ 8 by decide) ⟨by rw [I.2.1]; show 0 + 0 ≤ 0; decide, by rw [I.2.1]; show 0 + 0 ≤ 0; decide⟩ (fun q => q.elim) (fun E u q => q.elim) (fun u hu => ?_)
          obtain ⟨V14, rfl, h⟩ := hu
          refine ab_iinc O ((x47_4 + (1))) dX7_plant_102 rfl rfl ?_
          refine ab_goto O 47 dX7_plant_105 rfl ?_
          exact ab_less (ih (V14) ((x47_4 + (1))) h) (ab_le_s (ab_le_n (ab_le_s (ab_le_s (ab_le_s (ab_le_n ab_le_0))))))
set_option maxHeartbeats 4000000 in
theorem cl_X7_plant_L30 {X : ab_M} {g : ab_G} {l : Launch} {d : Nat} (hd : 3 ≤ d) (y30_2 : Int32) {post : Mm → Prop} {kx : Mm → Int32 → Prop} {o : Nat → Int64} {D : Nat → UInt64} (O : ab_Ok X g cX7_plant RX7) (I : ab_I X l tk_strs 6 none yX7_plant.name d 0 0) (hk : ∀ (V : Mm) (x30_3 : Int32), kx V x30_3 → Ab X g 0 0 (tk_Q X g (tk_V g (fun u => ∃ V : Mm, u = SW V o D ∧ post V)) (fun _ _ => False) 0 0) 114 [none, none, none, none, none, none] [] (SW V o D)) : ∀ (n : Nat) (V : Mm) (x30_3 : Int32), wp_X7_plant_L30 y30_2 post kx n V x30_3 → Ab X g 0 0 (tk_Q X g (tk_V g (fun u => ∃ V : Mm, u = SW V o D ∧ post V)) (fun _ _ => False) 0 0) 30 [some (.ref (29)), none, some (.int (y30_2)), some (.int (x30_3)), none, none] [] (SW V o D) := by
  intro n
  induction n with
  | zero => intro V x30_3 h; exact h.elim
  | succ n ih =>
    intro V x30_3 h
    refine ab_iload_n O 3 dX7_plant_30 rfl rfl ?_
    refine ab_bipush O 20 dX7_plant_31 rfl ?_
    refine ab_icmp_ge O 114 dX7_plant_33 rfl (fun q5 => ?_) (fun q5 => ?_)
    · have h := h.1 q5
      exact ab_less (hk (V) (x30_3) h) (ab_le_n (ab_le_n (ab_le_n (ab_le_n (ab_le_n (ab_le_n ab_le_0))))))
    · have h := h.2 q5
      refine ab_iload_n O 3 dX7_plant_36 rfl rfl ?_
      refine ab_aload_n O 0 dX7_plant_37 rfl rfl ?_
      refine ab_get O fl_X7_27 dX7_plant_38 (at_29 _ _ _) rfl ?_
      refine ab_icmp_ge O 114 dX7_plant_41 rfl (fun q6 => ?_) (fun q6 => ?_)
      · have h := h.1 q6
        exact ab_less (hk (V) (x30_3) h) (ab_le_n (ab_le_n (ab_le_n (ab_le_n (ab_le_n (ab_le_n ab_le_0))))))
      · have h := h.2 q6
        refine ab_iconst O 0 dX7_plant_44 rfl ?_
        refine ab_istore O dX7_plant_45 (show 4 < 6 by decide) ?_
        obtain ⟨n9, h⟩ := h
        refine ab_less (cl_X7_plant_L47 hd (y30_2) (x30_3) O I (fun V15 x16 h => ?_) n9 (V) (0) h) (ab_le_s (ab_le_n (ab_le_s (ab_le_s (ab_le_s (ab_le_n ab_le_0))))))
        refine ab_iinc O ((x30_3 + (1))) dX7_plant_108 rfl rfl ?_
        refine ab_goto O 30 dX7_plant_111 rfl ?_
        exact ab_less (ih (V15) ((x30_3 + (1))) h) (ab_le_s (ab_le_n (ab_le_s (ab_le_s (ab_le_n (ab_le_n ab_le_0))))))
set_option maxHeartbeats 4000000 in
theorem c_X7_plant (d : Nat) (hd : 3 ≤ d) (l : Launch) (hl : l.stackTraces = false) (g : ab_G) (o : Nat → Int64) (D : Nat → UInt64) (a0 : Int32) (a1 : Int32) {V : Mm} {post : Mm → Prop} (h : wp_X7_plant V a0 a1 post) : Ct l g tk_strs False d 0 0 yX7_plant cX7_plant 6 none [.ref 29, .int a0, .int a1] (SW V o D) (tk_V g (fun u => ∃ V : Mm, u = SW V o D ∧ post V)) (fun _ _ => False) := by
  refine ct_in (by decide +kernel) (show 3 ≤ 6 by decide) (by simp [Value.category]) hl (fun X I O _ => ?_)
  show Ab X g 0 0 _ 0 [some (.ref (29)), some (.int (a0)), some (.int (a1)), none, none, none] [] _
  refine ab_aload_n O 0 dX7_plant_0 rfl rfl ?_
  refine ab_iconst O 0 dX7_plant_1 rfl ?_
  refine ab_put O fl_X7_27 cl_X7 dX7_plant_2 (at_29 _ _ _) rfl .int (by decide +kernel) (fun _ => rfl) (fun _ => rfl) (show 7 < 8 by decide) ?_
  refine ab_eq ?_ rfl rfl rfl (sf_29_7 _ _ _ _).symm
  obtain ⟨V1, eV1⟩ : ∃ z : Mm, z = wr V 29 7 0 := ⟨_, rfl⟩
  rw [← eV1]
  have h := h V1 eV1
  refine ab_aload_n O 0 dX7_plant_5 rfl rfl ?_
  refine ab_get O fl_X7_15 dX7_plant_6 (at_29 _ _ _) rfl ?_
  refine ab_iconst O (-1) dX7_plant_9 rfl ?_
  refine ab_callsV O I.2.2.2.2.2.2 (fr := False) (st := []) lk_X7_39 dX7_plant_10 (c_fill _ O.2.2.2.2.2.2.1 _ False (d - 1) _ 31 20 ((-1)) _ (at_31 _ _ _) (by decide)) rfl rfl ⟨by rw [I.2.1]; show d - 1 + 1 ≤ d; omega, by rw [I.2.1]; show 8 + (_ + 11) + 36 * (d - 1) ≤ 36 * d; omega⟩ (show 0 ≤ 8 by decide) ⟨by rw [I.2.1]; show 0 + 0 ≤ 0; decide, by rw [I.2.1]; show 0 + 0 ≤ 0; decide⟩ (fun q => q.elim) (fun E u q => q.elim) (fun u hu => ?_)
  subst hu
  refine ab_eq ?_ rfl rfl rfl (sw_fill_31 _ _ _ _).symm
  obtain ⟨V2, eV2⟩ : ∃ z : Mm, z = wfill V1 31 20 (-1) := ⟨_, rfl⟩
  rw [← eV2]
  have h := h V2 eV2
  refine ab_aload_n O 0 dX7_plant_13 rfl rfl ?_
  refine ab_get O fl_X7_18 dX7_plant_14 (at_29 _ _ _) rfl ?_
  refine ab_iconst O (-1) dX7_plant_17 rfl ?_
  refine ab_callsV O I.2.2.2.2.2.2 (fr := False) (st := []) lk_X7_39 dX7_plant_18 (c_fill _ O.2.2.2.2.2.2.1 _ False (d - 1) _ 32 20 ((-1)) _ (at_32 _ _ _) (by decide)) rfl rfl ⟨by rw [I.2.1]; show d - 1 + 1 ≤ d; omega, by rw [I.2.1]; show 8 + (_ + 11) + 36 * (d - 1) ≤ 36 * d; omega⟩ (show 0 ≤ 8 by decide) ⟨by rw [I.2.1]; show 0 + 0 ≤ 0; decide, by rw [I.2.1]; show 0 + 0 ≤ 0; decide⟩ (fun q => q.elim) (fun E u q => q.elim) (fun u hu => ?_)
  subst hu
  refine ab_eq ?_ rfl rfl rfl (sw_fill_32 _ _ _ _).symm
  obtain ⟨V3, eV3⟩ : ∃ z : Mm, z = wfill V2 32 20 (-1) := ⟨_, rfl⟩
  rw [← eV3]
  have h := h V3 eV3
  refine ab_aload_n O 0 dX7_plant_21 rfl rfl ?_
  refine ab_iload_n O 1 dX7_plant_22 rfl rfl ?_
  refine ab_iconst O (-1) dX7_plant_23 rfl ?_
  refine ab_iconst O (-1) dX7_plant_24 rfl ?_
  refine ab_callvV O I.2.2.2.2.2.2 (fr := False) (st := []) lk_X7_45 rfl (at_29 _ _ _) dX7_plant_25 (c_X7_reach (d - 1) (by omega) _ O.2.2.2.2.2.2.1 _ _ _ _ _ _ h) rfl rfl ⟨by rw [I.2.1]; show d - 1 + 1 ≤ d; omega, by rw [I.2.1]; show 8 + (_ + 11) + 36 * (d - 1) ≤ 36 * d; omega⟩ (show 0 ≤ 8 by decide) ⟨by rw [I.2.1]; show 0 + 0 ≤ 0; decide, by rw [I.2.1]; show 0 + 0 ≤ 0; decide⟩ (fun q => q.elim) (fun E u q => q.elim) (fun u hu => ?_)
  obtain ⟨V4, rfl, h⟩ := hu
  refine ab_iconst O 0 dX7_plant_28 rfl ?_
  refine ab_istore_n O 3 dX7_plant_29 rfl (show 3 < 6 by decide) ?_
  obtain ⟨n9, h⟩ := h
  refine ab_less (cl_X7_plant_L30 hd (a1) O I (fun V17 x18 h => ?_) n9 (V4) (0) h) (ab_le_s (ab_le_n (ab_le_s (ab_le_s (ab_le_n (ab_le_n ab_le_0))))))
  exact ab_return O I dX7_plant_114 (by decide) (by decide) ⟨_, rfl, h⟩

def wp_X7_sumByClimbing_L7 (post : Int32 → Mm → Prop) (kx : Mm → Int32 → Int32 → Int32 → Prop) : Nat → Mm → Int32 → Int32 → Int32 → Prop
  | 0, _, _, _, _ => False
  | n7 + 1, V, x7_2, x7_3, x7_4 => ((20 ≤ x7_4 → kx (V) (x7_2) (x7_3) (x7_4)) ∧ (¬ 20 ≤ x7_4 → ((x7_3 = (-1) → kx (V) (x7_2) (x7_3) (x7_4)) ∧ (¬ x7_3 = (-1) → (wp_X3_valueOf V (x7_3) (fun (r4 : Int32) (V3 : Mm) => (wp_X7_above V3 (x7_3) (fun (r6 : Int32) (V5 : Mm) => wp_X7_sumByClimbing_L7 post kx n7 (V5) ((x7_2 + r4)) (r6) ((x7_4 + (1)))))))))))

def wp_X7_sumByClimbing (V : Mm) (a0 : Int32) (post : Int32 → Mm → Prop) : Prop := (∃ m7 : Nat, wp_X7_sumByClimbing_L7 post (fun (V7 : Mm) (x8 : Int32) (x9 : Int32) (x10 : Int32) => post x8 V7) m7 (V) (0) (a0) (0))
set_option maxHeartbeats 4000000 in
theorem cl_X7_sumByClimbing_L7 {X : ab_M} {g : ab_G} {l : Launch} {d : Nat} (hd : 2 ≤ d) {post : Int32 → Mm → Prop} {kx : Mm → Int32 → Int32 → Int32 → Prop} {o : Nat → Int64} {D : Nat → UInt64} (O : ab_Ok X g cX7_sumByClimbing RX7) (I : ab_I X l tk_strs 5 (some .int) yX7_sumByClimbing.name d 0 0) (hk : ∀ (V : Mm) (x7_2 : Int32) (x7_3 : Int32) (x7_4 : Int32), kx V x7_2 x7_3 x7_4 → Ab X g 0 0 (tk_Q X g (tk_I g (fun r u => ∃ V : Mm, u = SW V o D ∧ post r V)) (fun _ _ => False) 0 0) 42 [none, none, some (.int (x7_2)), none, none] [] (SW V o D)) : ∀ (n : Nat) (V : Mm) (x7_2 : Int32) (x7_3 : Int32) (x7_4 : Int32), wp_X7_sumByClimbing_L7 post kx n V x7_2 x7_3 x7_4 → Ab X g 0 0 (tk_Q X g (tk_I g (fun r u => ∃ V : Mm, u = SW V o D ∧ post r V)) (fun _ _ => False) 0 0) 7 [some (.ref (29)), none, some (.int (x7_2)), some (.int (x7_3)), some (.int (x7_4))] [] (SW V o D) := by
  intro n
  induction n with
  | zero => intro V x7_2 x7_3 x7_4 h; exact h.elim
  | succ n ih =>
    intro V x7_2 x7_3 x7_4 h
    refine ab_iload O dX7_sumByClimbing_7 rfl ?_
    refine ab_bipush O 20 dX7_sumByClimbing_9 rfl ?_
    refine ab_icmp_ge O 42 dX7_sumByClimbing_11 rfl (fun q1 => ?_) (fun q1 => ?_)
    · have h := h.1 q1
      exact ab_less (hk (V) (x7_2) (x7_3) (x7_4) h) (ab_le_n (ab_le_n (ab_le_s (ab_le_n (ab_le_n ab_le_0)))))
    · have h := h.2 q1
      refine ab_iload_n O 3 dX7_sumByClimbing_14 rfl rfl ?_
      refine ab_iconst O (-1) dX7_sumByClimbing_15 rfl ?_
      refine ab_icmp_eq O 42 dX7_sumByClimbing_16 rfl (fun q2 => ?_) (fun q2 => ?_)
      · have h := h.1 q2
        exact ab_less (hk (V) (x7_2) (x7_3) (x7_4) h) (ab_le_n (ab_le_n (ab_le_s (ab_le_n (ab_le_n ab_le_0)))))
      · have h := h.2 q2
        refine ab_iload_n O 2 dX7_sumByClimbing_19 rfl rfl ?_
        refine ab_aload_n O 0 dX7_sumByClimbing_20 rfl rfl ?_
        refine ab_get O fl_X7_31 dX7_sumByClimbing_21 (at_29 _ _ _) rfl ?_
        refine ab_iload_n O 3 dX7_sumByClimbing_24 rfl rfl ?_
        refine ab_callvI O I.2.2.2.2.2.2 (fr := False) (st := [.int (x7_2)]) lk_X7_65 rfl (at_1 _ _ _) dX7_sumByClimbing_25 (c_X3_valueOf (d - 1) (by omega) _ O.2.2.2.2.2.2.1 _ _ _ _ h) rfl rfl ⟨by rw [I.2.1]; show d - 1 + 1 ≤ d; omega, by rw [I.2.1]; show 8 + (_ + 11) + 36 * (d - 1) ≤ 36 * d; omega⟩ (show 1 ≤ 8 by decide) ⟨by rw [I.2.1]; show 0 + 0 ≤ 0; decide, by rw [I.2.1]; show 0 + 0 ≤ 0; decide⟩ (fun q => q.elim) (fun E u q => q.elim) (fun r4 u hu => ?_)
        obtain ⟨V3, rfl, h⟩ := hu
        refine ab_iadd O dX7_sumByClimbing_28 ?_
        refine ab_istore_n O 2 dX7_sumByClimbing_29 rfl (show 2 < 5 by decide) ?_
        refine ab_aload_n O 0 dX7_sumByClimbing_30 rfl rfl ?_
        refine ab_iload_n O 3 dX7_sumByClimbing_31 rfl rfl ?_
        refine ab_callvI O I.2.2.2.2.2.2 (fr := False) (st := []) lk_X7_82 rfl (at_29 _ _ _) dX7_sumByClimbing_32 (c_X7_above (d - 1) (by omega) _ O.2.2.2.2.2.2.1 _ _ _ _ h) rfl rfl ⟨by rw [I.2.1]; show d - 1 + 1 ≤ d; omega, by rw [I.2.1]; show 8 + (_ + 11) + 36 * (d - 1) ≤ 36 * d; omega⟩ (show 0 ≤ 8 by decide) ⟨by rw [I.2.1]; show 0 + 0 ≤ 0; decide, by rw [I.2.1]; show 0 + 0 ≤ 0; decide⟩ (fun q => q.elim) (fun E u q => q.elim) (fun r6 u hu => ?_)
        obtain ⟨V5, rfl, h⟩ := hu
        refine ab_istore_n O 3 dX7_sumByClimbing_35 rfl (show 3 < 5 by decide) ?_
        refine ab_iinc O ((x7_4 + (1))) dX7_sumByClimbing_36 rfl rfl ?_
        refine ab_goto O 7 dX7_sumByClimbing_39 rfl ?_
        exact ab_less (ih (V5) ((x7_2 + r4)) (r6) ((x7_4 + (1))) h) (ab_le_s (ab_le_n (ab_le_s (ab_le_s (ab_le_s ab_le_0)))))
set_option maxHeartbeats 4000000 in
theorem c_X7_sumByClimbing (d : Nat) (hd : 2 ≤ d) (l : Launch) (hl : l.stackTraces = false) (g : ab_G) (o : Nat → Int64) (D : Nat → UInt64) (a0 : Int32) {V : Mm} {post : Int32 → Mm → Prop} (h : wp_X7_sumByClimbing V a0 post) : Ct l g tk_strs False d 0 0 yX7_sumByClimbing cX7_sumByClimbing 5 (some .int) [.ref 29, .int a0] (SW V o D) (tk_I g (fun r u => ∃ V : Mm, u = SW V o D ∧ post r V)) (fun _ _ => False) := by
  refine ct_in (by decide +kernel) (show 2 ≤ 5 by decide) (by simp [Value.category]) hl (fun X I O _ => ?_)
  show Ab X g 0 0 _ 0 [some (.ref (29)), some (.int (a0)), none, none, none] [] _
  refine ab_iconst O 0 dX7_sumByClimbing_0 rfl ?_
  refine ab_istore_n O 2 dX7_sumByClimbing_1 rfl (show 2 < 5 by decide) ?_
  refine ab_iload_n O 1 dX7_sumByClimbing_2 rfl rfl ?_
  refine ab_istore_n O 3 dX7_sumByClimbing_3 rfl (show 3 < 5 by decide) ?_
  refine ab_iconst O 0 dX7_sumByClimbing_4 rfl ?_
  refine ab_istore O dX7_sumByClimbing_5 (show 4 < 5 by decide) ?_
  obtain ⟨n9, h⟩ := h
  refine ab_less (cl_X7_sumByClimbing_L7 hd O I (fun V7 x8 x9 x10 h => ?_) n9 (V) (0) (a0) (0) h) (ab_le_s (ab_le_n (ab_le_s (ab_le_s (ab_le_s ab_le_0)))))
  refine ab_iload_n O 2 dX7_sumByClimbing_42 rfl rfl ?_
  exact ab_ireturn O I dX7_sumByClimbing_43 (by decide) (by decide) (by rfl) ⟨_, rfl, h⟩

def wp_X7_sumFromRoot (V : Mm) (a0 : Int32) (post : Int32 → Mm → Prop) : Prop := (wp_X7_holds V (a0) (fun (r2 : Int32) (V1 : Mm) => ((r2 = 0 → post 0 V1) ∧ (¬ r2 = 0 → (vp_in a0 20 ∧ post (V1 33 (Int32.toNatClampNeg (a0))) V1)))))
set_option maxHeartbeats 4000000 in
theorem c_X7_sumFromRoot (d : Nat) (hd : 3 ≤ d) (l : Launch) (hl : l.stackTraces = false) (g : ab_G) (o : Nat → Int64) (D : Nat → UInt64) (a0 : Int32) {V : Mm} {post : Int32 → Mm → Prop} (h : wp_X7_sumFromRoot V a0 post) : Ct l g tk_strs False d 0 0 yX7_sumFromRoot cX7_sumFromRoot 2 (some .int) [.ref 29, .int a0] (SW V o D) (tk_I g (fun r u => ∃ V : Mm, u = SW V o D ∧ post r V)) (fun _ _ => False) := by
  refine ct_in (by decide +kernel) (show 2 ≤ 2 by decide) (by simp [Value.category]) hl (fun X I O _ => ?_)
  show Ab X g 0 0 _ 0 [some (.ref (29)), some (.int (a0))] [] _
  refine ab_aload_n O 0 dX7_sumFromRoot_0 rfl rfl ?_
  refine ab_iload_n O 1 dX7_sumFromRoot_1 rfl rfl ?_
  refine ab_callvI O I.2.2.2.2.2.2 (fr := False) (st := []) lk_X7_79 rfl (at_29 _ _ _) dX7_sumFromRoot_2 (c_X7_holds (d - 1) (by omega) _ O.2.2.2.2.2.2.1 _ _ _ _ h) rfl rfl ⟨by rw [I.2.1]; show d - 1 + 1 ≤ d; omega, by rw [I.2.1]; show 8 + (_ + 11) + 36 * (d - 1) ≤ 36 * d; omega⟩ (show 0 ≤ 8 by decide) ⟨by rw [I.2.1]; show 0 + 0 ≤ 0; decide, by rw [I.2.1]; show 0 + 0 ≤ 0; decide⟩ (fun q => q.elim) (fun E u q => q.elim) (fun r2 u hu => ?_)
  obtain ⟨V1, rfl, h⟩ := hu
  refine ab_if_eq O 17 dX7_sumFromRoot_5 rfl (fun q3 => ?_) (fun q3 => ?_)
  · have h := h.1 q3
    refine ab_iconst O 0 dX7_sumFromRoot_17 rfl ?_
    exact ab_ireturn O I dX7_sumFromRoot_18 (by decide) (by decide) (by rfl) ⟨_, rfl, h⟩
  · have h := h.2 q3
    refine ab_aload_n O 0 dX7_sumFromRoot_8 rfl rfl ?_
    refine ab_get O fl_X7_21 dX7_sumFromRoot_9 (at_29 _ _ _) rfl ?_
    refine ab_iload_n O 1 dX7_sumFromRoot_12 rfl rfl ?_
    refine ab_iald O dX7_sumFromRoot_13 (at_33 _ _ _) h.1 ?_
    have h := h.2
    refine ab_goto O 18 dX7_sumFromRoot_14 rfl ?_
    exact ab_ireturn O I dX7_sumFromRoot_18 (by decide) (by decide) (by rfl) ⟨_, rfl, h⟩

def wp_X2_admit (V : Mm) (a0 : Int32) (post : Mm → Prop) : Prop := (wp_X3_firstEnd V (a0) (fun (r2 : Int32) (V1 : Mm) => (wp_X7_plant V1 (r2) ((-1)) (fun (V3 : Mm) => (wp_X3_secondEnd V3 (a0) (fun (r5 : Int32) (V4 : Mm) => (wp_X7_holds V4 (r5) (fun (r7 : Int32) (V6 : Mm) => ((r7 = 0 → (wp_X0_link V6 (a0) (fun (V19 : Mm) => post V19))) ∧ (¬ r7 = 0 → (wp_X3_secondEnd V6 (a0) (fun (r10 : Int32) (V9 : Mm) => (wp_X7_lastFromRoot V9 (r10) (fun (r12 : Int32) (V11 : Mm) => ((r12 = (-1) → post V11) ∧ (¬ r12 = (-1) → (wp_X3_comesBefore V11 (a0) (r12) (fun (r15 : Int32) (V14 : Mm) => ((r15 = 0 → post V14) ∧ (¬ r15 = 0 → (wp_X0_cut V14 (r12) (fun (V17 : Mm) => (wp_X0_link V17 (a0) (fun (V18 : Mm) => post V18))))))))))))))))))))))))
set_option maxHeartbeats 4000000 in
theorem c_X2_admit (d : Nat) (hd : 4 ≤ d) (l : Launch) (hl : l.stackTraces = false) (g : ab_G) (o : Nat → Int64) (D : Nat → UInt64) (a0 : Int32) {V : Mm} {post : Mm → Prop} (h : wp_X2_admit V a0 post) : Ct l g tk_strs False d 0 0 yX2_admit cX2_admit 3 none [.ref 35, .int a0] (SW V o D) (tk_V g (fun u => ∃ V : Mm, u = SW V o D ∧ post V)) (fun _ _ => False) := by
  refine ct_in (by decide +kernel) (show 2 ≤ 3 by decide) (by simp [Value.category]) hl (fun X I O _ => ?_)
  show Ab X g 0 0 _ 0 [some (.ref (35)), some (.int (a0)), none] [] _
  refine ab_aload_n O 0 dX2_admit_0 rfl rfl ?_
  refine ab_get O fl_X2_19 dX2_admit_1 (at_35 _ _ _) rfl ?_
  refine ab_aload_n O 0 dX2_admit_4 rfl rfl ?_
  refine ab_get O fl_X2_9 dX2_admit_5 (at_35 _ _ _) rfl ?_
  refine ab_iload_n O 1 dX2_admit_8 rfl rfl ?_
  refine ab_callvI O I.2.2.2.2.2.2 (fr := False) (st := [.ref (29)]) lk_X2_23 rfl (at_1 _ _ _) dX2_admit_9 (c_X3_firstEnd (d - 1) (by omega) _ O.2.2.2.2.2.2.1 _ _ _ _ h) rfl rfl ⟨by rw [I.2.1]; show d - 1 + 1 ≤ d; omega, by rw [I.2.1]; show 8 + (_ + 11) + 36 * (d - 1) ≤ 36 * d; omega⟩ (show 1 ≤ 8 by decide) ⟨by rw [I.2.1]; show 0 + 0 ≤ 0; decide, by rw [I.2.1]; show 0 + 0 ≤ 0; decide⟩ (fun q => q.elim) (fun E u q => q.elim) (fun r2 u hu => ?_)
  obtain ⟨V1, rfl, h⟩ := hu
  refine ab_iconst O (-1) dX2_admit_12 rfl ?_
  refine ab_callvV O I.2.2.2.2.2.2 (fr := False) (st := []) lk_X2_29 rfl (at_29 _ _ _) dX2_admit_13 (c_X7_plant (d - 1) (by omega) _ O.2.2.2.2.2.2.1 _ _ _ _ _ h) rfl rfl ⟨by rw [I.2.1]; show d - 1 + 1 ≤ d; omega, by rw [I.2.1]; show 8 + (_ + 11) + 36 * (d - 1) ≤ 36 * d; omega⟩ (show 0 ≤ 8 by decide) ⟨by rw [I.2.1]; show 0 + 0 ≤ 0; decide, by rw [I.2.1]; show 0 + 0 ≤ 0; decide⟩ (fun q => q.elim) (fun E u q => q.elim) (fun u hu => ?_)
  obtain ⟨V3, rfl, h⟩ := hu
  refine ab_aload_n O 0 dX2_admit_16 rfl rfl ?_
  refine ab_get O fl_X2_19 dX2_admit_17 (at_35 _ _ _) rfl ?_
  refine ab_aload_n O 0 dX2_admit_20 rfl rfl ?_
  refine ab_get O fl_X2_9 dX2_admit_21 (at_35 _ _ _) rfl ?_
  refine ab_iload_n O 1 dX2_admit_24 rfl rfl ?_
  refine ab_callvI O I.2.2.2.2.2.2 (fr := False) (st := [.ref (29)]) lk_X2_35 rfl (at_1 _ _ _) dX2_admit_25 (c_X3_secondEnd (d - 1) (by omega) _ O.2.2.2.2.2.2.1 _ _ _ _ h) rfl rfl ⟨by rw [I.2.1]; show d - 1 + 1 ≤ d; omega, by rw [I.2.1]; show 8 + (_ + 11) + 36 * (d - 1) ≤ 36 * d; omega⟩ (show 1 ≤ 8 by decide) ⟨by rw [I.2.1]; show 0 + 0 ≤ 0; decide, by rw [I.2.1]; show 0 + 0 ≤ 0; decide⟩ (fun q => q.elim) (fun E u q => q.elim) (fun r5 u hu => ?_)
  obtain ⟨V4, rfl, h⟩ := hu
  refine ab_callvI O I.2.2.2.2.2.2 (fr := False) (st := []) lk_X2_38 rfl (at_29 _ _ _) dX2_admit_28 (c_X7_holds (d - 1) (by omega) _ O.2.2.2.2.2.2.1 _ _ _ _ h) rfl rfl ⟨by rw [I.2.1]; show d - 1 + 1 ≤ d; omega, by rw [I.2.1]; show 8 + (_ + 11) + 36 * (d - 1) ≤ 36 * d; omega⟩ (show 0 ≤ 8 by decide) ⟨by rw [I.2.1]; show 0 + 0 ≤ 0; decide, by rw [I.2.1]; show 0 + 0 ≤ 0; decide⟩ (fun q => q.elim) (fun E u q => q.elim) (fun r7 u hu => ?_)
  obtain ⟨V6, rfl, h⟩ := hu
  refine ab_if_ne O 43 dX2_admit_31 rfl (fun q8 => ?_) (fun q8 => ?_)
  · have h := h.2 q8
    refine ab_aload_n O 0 dX2_admit_43 rfl rfl ?_
    refine ab_get O fl_X2_19 dX2_admit_44 (at_35 _ _ _) rfl ?_
    refine ab_aload_n O 0 dX2_admit_47 rfl rfl ?_
    refine ab_get O fl_X2_9 dX2_admit_48 (at_35 _ _ _) rfl ?_
    refine ab_iload_n O 1 dX2_admit_51 rfl rfl ?_
    refine ab_callvI O I.2.2.2.2.2.2 (fr := False) (st := [.ref (29)]) lk_X2_35 rfl (at_1 _ _ _) dX2_admit_52 (c_X3_secondEnd (d - 1) (by omega) _ O.2.2.2.2.2.2.1 _ _ _ _ h) rfl rfl ⟨by rw [I.2.1]; show d - 1 + 1 ≤ d; omega, by rw [I.2.1]; show 8 + (_ + 11) + 36 * (d - 1) ≤ 36 * d; omega⟩ (show 1 ≤ 8 by decide) ⟨by rw [I.2.1]; show 0 + 0 ≤ 0; decide, by rw [I.2.1]; show 0 + 0 ≤ 0; decide⟩ (fun q => q.elim) (fun E u q => q.elim) (fun r10 u hu => ?_)
    obtain ⟨V9, rfl, h⟩ := hu
    refine ab_callvI O I.2.2.2.2.2.2 (fr := False) (st := []) lk_X2_48 rfl (at_29 _ _ _) dX2_admit_55 (c_X7_lastFromRoot (d - 1) (by omega) _ O.2.2.2.2.2.2.1 _ _ _ _ h) rfl rfl ⟨by rw [I.2.1]; show d - 1 + 1 ≤ d; omega, by rw [I.2.1]; show 8 + (_ + 11) + 36 * (d - 1) ≤ 36 * d; omega⟩ (show 0 ≤ 8 by decide) ⟨by rw [I.2.1]; show 0 + 0 ≤ 0; decide, by rw [I.2.1]; show 0 + 0 ≤ 0; decide⟩ (fun q => q.elim) (fun E u q => q.elim) (fun r12 u hu => ?_)
    obtain ⟨V11, rfl, h⟩ := hu
    refine ab_istore_n O 2 dX2_admit_58 rfl (show 2 < 3 by decide) ?_
    refine ab_iload_n O 2 dX2_admit_59 rfl rfl ?_
    refine ab_iconst O (-1) dX2_admit_60 rfl ?_
    refine ab_icmp_eq O 92 dX2_admit_61 rfl (fun q13 => ?_) (fun q13 => ?_)
    · have h := h.1 q13
      exact ab_return O I dX2_admit_92 (by decide) (by decide) ⟨_, rfl, h⟩
    · have h := h.2 q13
      refine ab_aload_n O 0 dX2_admit_64 rfl rfl ?_
      refine ab_get O fl_X2_9 dX2_admit_65 (at_35 _ _ _) rfl ?_
      refine ab_iload_n O 1 dX2_admit_68 rfl rfl ?_
      refine ab_iload_n O 2 dX2_admit_69 rfl rfl ?_
      refine ab_callvI O I.2.2.2.2.2.2 (fr := False) (st := []) lk_X2_51 rfl (at_1 _ _ _) dX2_admit_70 (c_X3_comesBefore (d - 1) (by omega) _ O.2.2.2.2.2.2.1 _ _ _ _ _ h) rfl rfl ⟨by rw [I.2.1]; show d - 1 + 1 ≤ d; omega, by rw [I.2.1]; show 8 + (_ + 11) + 36 * (d - 1) ≤ 36 * d; omega⟩ (show 0 ≤ 8 by decide) ⟨by rw [I.2.1]; show 0 + 0 ≤ 0; decide, by rw [I.2.1]; show 0 + 0 ≤ 0; decide⟩ (fun q => q.elim) (fun E u q => q.elim) (fun r15 u hu => ?_)
      obtain ⟨V14, rfl, h⟩ := hu
      refine ab_if_eq O 92 dX2_admit_73 rfl (fun q16 => ?_) (fun q16 => ?_)
      · have h := h.1 q16
        exact ab_return O I dX2_admit_92 (by decide) (by decide) ⟨_, rfl, h⟩
      · have h := h.2 q16
        refine ab_aload_n O 0 dX2_admit_76 rfl rfl ?_
        refine ab_get O fl_X2_15 dX2_admit_77 (at_35 _ _ _) rfl ?_
        refine ab_iload_n O 2 dX2_admit_80 rfl rfl ?_
        refine ab_callvV O I.2.2.2.2.2.2 (fr := False) (st := []) lk_X2_55 rfl (at_7 _ _ _) dX2_admit_81 (c_X0_cut (d - 1) (by omega) _ O.2.2.2.2.2.2.1 _ _ _ _ h) rfl rfl ⟨by rw [I.2.1]; show d - 1 + 1 ≤ d; omega, by rw [I.2.1]; show 8 + (_ + 11) + 36 * (d - 1) ≤ 36 * d; omega⟩ (show 0 ≤ 8 by decide) ⟨by rw [I.2.1]; show 0 + 0 ≤ 0; decide, by rw [I.2.1]; show 0 + 0 ≤ 0; decide⟩ (fun q => q.elim) (fun E u q => q.elim) (fun u hu => ?_)
        obtain ⟨V17, rfl, h⟩ := hu
        refine ab_aload_n O 0 dX2_admit_84 rfl rfl ?_
        refine ab_get O fl_X2_15 dX2_admit_85 (at_35 _ _ _) rfl ?_
        refine ab_iload_n O 1 dX2_admit_88 rfl rfl ?_
        refine ab_callvV O I.2.2.2.2.2.2 (fr := False) (st := []) lk_X2_42 rfl (at_7 _ _ _) dX2_admit_89 (c_X0_link (d - 1) (by omega) _ O.2.2.2.2.2.2.1 _ _ _ _ h) rfl rfl ⟨by rw [I.2.1]; show d - 1 + 1 ≤ d; omega, by rw [I.2.1]; show 8 + (_ + 11) + 36 * (d - 1) ≤ 36 * d; omega⟩ (show 0 ≤ 8 by decide) ⟨by rw [I.2.1]; show 0 + 0 ≤ 0; decide, by rw [I.2.1]; show 0 + 0 ≤ 0; decide⟩ (fun q => q.elim) (fun E u q => q.elim) (fun u hu => ?_)
        obtain ⟨V18, rfl, h⟩ := hu
        exact ab_return O I dX2_admit_92 (by decide) (by decide) ⟨_, rfl, h⟩
  · have h := h.1 q8
    refine ab_aload_n O 0 dX2_admit_34 rfl rfl ?_
    refine ab_get O fl_X2_15 dX2_admit_35 (at_35 _ _ _) rfl ?_
    refine ab_iload_n O 1 dX2_admit_38 rfl rfl ?_
    refine ab_callvV O I.2.2.2.2.2.2 (fr := False) (st := []) lk_X2_42 rfl (at_7 _ _ _) dX2_admit_39 (c_X0_link (d - 1) (by omega) _ O.2.2.2.2.2.2.1 _ _ _ _ h) rfl rfl ⟨by rw [I.2.1]; show d - 1 + 1 ≤ d; omega, by rw [I.2.1]; show 8 + (_ + 11) + 36 * (d - 1) ≤ 36 * d; omega⟩ (show 0 ≤ 8 by decide) ⟨by rw [I.2.1]; show 0 + 0 ≤ 0; decide, by rw [I.2.1]; show 0 + 0 ≤ 0; decide⟩ (fun q => q.elim) (fun E u q => q.elim) (fun u hu => ?_)
    obtain ⟨V19, rfl, h⟩ := hu
    exact ab_return O I dX2_admit_42 (by decide) (by decide) ⟨_, rfl, h⟩

def wp_X2_leavesPlanted (V : Mm) (a0 : Int32) (post : Int32 → Mm → Prop) : Prop := (wp_X3_isPresent V (a0) (fun (r2 : Int32) (V1 : Mm) => ((r2 = 0 → post 0 V1) ∧ (¬ r2 = 0 → (wp_X3_firstEnd V1 (a0) (fun (r5 : Int32) (V4 : Mm) => (wp_X7_holds V4 (r5) (fun (r7 : Int32) (V6 : Mm) => (wp_X3_secondEnd V6 (a0) (fun (r9 : Int32) (V8 : Mm) => (wp_X7_holds V8 (r9) (fun (r11 : Int32) (V10 : Mm) => ((r7 = r11 → post 0 V10) ∧ (¬ r7 = r11 → post 1 V10))))))))))))))
set_option maxHeartbeats 4000000 in
theorem c_X2_leavesPlanted (d : Nat) (hd : 3 ≤ d) (l : Launch) (hl : l.stackTraces = false) (g : ab_G) (o : Nat → Int64) (D : Nat → UInt64) (a0 : Int32) {V : Mm} {post : Int32 → Mm → Prop} (h : wp_X2_leavesPlanted V a0 post) : Ct l g tk_strs False d 0 0 yX2_leavesPlanted cX2_leavesPlanted 2 (some .boolean) [.ref 35, .int a0] (SW V o D) (tk_I g (fun r u => ∃ V : Mm, u = SW V o D ∧ post r V)) (fun _ _ => False) := by
  refine ct_in (by decide +kernel) (show 2 ≤ 2 by decide) (by simp [Value.category]) hl (fun X I O _ => ?_)
  show Ab X g 0 0 _ 0 [some (.ref (35)), some (.int (a0))] [] _
  refine ab_aload_n O 0 dX2_leavesPlanted_0 rfl rfl ?_
  refine ab_get O fl_X2_9 dX2_leavesPlanted_1 (at_35 _ _ _) rfl ?_
  refine ab_iload_n O 1 dX2_leavesPlanted_4 rfl rfl ?_
  refine ab_callvI O I.2.2.2.2.2.2 (fr := False) (st := []) lk_X2_78 rfl (at_1 _ _ _) dX2_leavesPlanted_5 (c_X3_isPresent (d - 1) (by omega) _ O.2.2.2.2.2.2.1 _ _ _ _ h) rfl rfl ⟨by rw [I.2.1]; show d - 1 + 1 ≤ d; omega, by rw [I.2.1]; show 8 + (_ + 11) + 36 * (d - 1) ≤ 36 * d; omega⟩ (show 0 ≤ 8 by decide) ⟨by rw [I.2.1]; show 0 + 0 ≤ 0; decide, by rw [I.2.1]; show 0 + 0 ≤ 0; decide⟩ (fun q => q.elim) (fun E u q => q.elim) (fun r2 u hu => ?_)
  obtain ⟨V1, rfl, h⟩ := hu
  refine ab_if_eq O 48 dX2_leavesPlanted_8 rfl (fun q3 => ?_) (fun q3 => ?_)
  · have h := h.1 q3
    refine ab_iconst O 0 dX2_leavesPlanted_48 rfl ?_
    exact ab_ireturn O I dX2_leavesPlanted_49 (by decide) (by decide) (by rfl) ⟨_, rfl, h⟩
  · have h := h.2 q3
    refine ab_aload_n O 0 dX2_leavesPlanted_11 rfl rfl ?_
    refine ab_get O fl_X2_19 dX2_leavesPlanted_12 (at_35 _ _ _) rfl ?_
    refine ab_aload_n O 0 dX2_leavesPlanted_15 rfl rfl ?_
    refine ab_get O fl_X2_9 dX2_leavesPlanted_16 (at_35 _ _ _) rfl ?_
    refine ab_iload_n O 1 dX2_leavesPlanted_19 rfl rfl ?_
    refine ab_callvI O I.2.2.2.2.2.2 (fr := False) (st := [.ref (29)]) lk_X2_23 rfl (at_1 _ _ _) dX2_leavesPlanted_20 (c_X3_firstEnd (d - 1) (by omega) _ O.2.2.2.2.2.2.1 _ _ _ _ h) rfl rfl ⟨by rw [I.2.1]; show d - 1 + 1 ≤ d; omega, by rw [I.2.1]; show 8 + (_ + 11) + 36 * (d - 1) ≤ 36 * d; omega⟩ (show 1 ≤ 8 by decide) ⟨by rw [I.2.1]; show 0 + 0 ≤ 0; decide, by rw [I.2.1]; show 0 + 0 ≤ 0; decide⟩ (fun q => q.elim) (fun E u q => q.elim) (fun r5 u hu => ?_)
    obtain ⟨V4, rfl, h⟩ := hu
    refine ab_callvI O I.2.2.2.2.2.2 (fr := False) (st := []) lk_X2_38 rfl (at_29 _ _ _) dX2_leavesPlanted_23 (c_X7_holds (d - 1) (by omega) _ O.2.2.2.2.2.2.1 _ _ _ _ h) rfl rfl ⟨by rw [I.2.1]; show d - 1 + 1 ≤ d; omega, by rw [I.2.1]; show 8 + (_ + 11) + 36 * (d - 1) ≤ 36 * d; omega⟩ (show 0 ≤ 8 by decide) ⟨by rw [I.2.1]; show 0 + 0 ≤ 0; decide, by rw [I.2.1]; show 0 + 0 ≤ 0; decide⟩ (fun q => q.elim) (fun E u q => q.elim) (fun r7 u hu => ?_)
    obtain ⟨V6, rfl, h⟩ := hu
    refine ab_aload_n O 0 dX2_leavesPlanted_26 rfl rfl ?_
    refine ab_get O fl_X2_19 dX2_leavesPlanted_27 (at_35 _ _ _) rfl ?_
    refine ab_aload_n O 0 dX2_leavesPlanted_30 rfl rfl ?_
    refine ab_get O fl_X2_9 dX2_leavesPlanted_31 (at_35 _ _ _) rfl ?_
    refine ab_iload_n O 1 dX2_leavesPlanted_34 rfl rfl ?_
    refine ab_callvI O I.2.2.2.2.2.2 (fr := False) (st := [.ref (29), .int (r7)]) lk_X2_35 rfl (at_1 _ _ _) dX2_leavesPlanted_35 (c_X3_secondEnd (d - 1) (by omega) _ O.2.2.2.2.2.2.1 _ _ _ _ h) rfl rfl ⟨by rw [I.2.1]; show d - 1 + 1 ≤ d; omega, by rw [I.2.1]; show 8 + (_ + 11) + 36 * (d - 1) ≤ 36 * d; omega⟩ (show 2 ≤ 8 by decide) ⟨by rw [I.2.1]; show 0 + 0 ≤ 0; decide, by rw [I.2.1]; show 0 + 0 ≤ 0; decide⟩ (fun q => q.elim) (fun E u q => q.elim) (fun r9 u hu => ?_)
    obtain ⟨V8, rfl, h⟩ := hu
    refine ab_callvI O I.2.2.2.2.2.2 (fr := False) (st := [.int (r7)]) lk_X2_38 rfl (at_29 _ _ _) dX2_leavesPlanted_38 (c_X7_holds (d - 1) (by omega) _ O.2.2.2.2.2.2.1 _ _ _ _ h) rfl rfl ⟨by rw [I.2.1]; show d - 1 + 1 ≤ d; omega, by rw [I.2.1]; show 8 + (_ + 11) + 36 * (d - 1) ≤ 36 * d; omega⟩ (show 1 ≤ 8 by decide) ⟨by rw [I.2.1]; show 0 + 0 ≤ 0; decide, by rw [I.2.1]; show 0 + 0 ≤ 0; decide⟩ (fun q => q.elim) (fun E u q => q.elim) (fun r11 u hu => ?_)
    obtain ⟨V10, rfl, h⟩ := hu
    refine ab_icmp_eq O 48 dX2_leavesPlanted_41 rfl (fun q12 => ?_) (fun q12 => ?_)
    · have h := h.1 q12
      refine ab_iconst O 0 dX2_leavesPlanted_48 rfl ?_
      exact ab_ireturn O I dX2_leavesPlanted_49 (by decide) (by decide) (by rfl) ⟨_, rfl, h⟩
    · have h := h.2 q12
      refine ab_iconst O 1 dX2_leavesPlanted_44 rfl ?_
      refine ab_goto O 49 dX2_leavesPlanted_45 rfl ?_
      exact ab_ireturn O I dX2_leavesPlanted_49 (by decide) (by decide) (by rfl) ⟨_, rfl, h⟩

def wp_X2_findReplacement_L20 (y20_1 : Int32) (post : Int32 → Mm → Prop) (kx : Mm → Int32 → Int32 → Prop) : Nat → Mm → Int32 → Int32 → Prop
  | 0, _, _, _ => False
  | n20 + 1, V, x20_2, x20_3 => (wp_X3_edgeCount V (fun (r5 : Int32) (V4 : Mm) => ((r5 ≤ x20_3 → kx (V4) (x20_2) (x20_3)) ∧ (¬ r5 ≤ x20_3 → ((x20_3 = y20_1 → wp_X2_findReplacement_L20 y20_1 post kx n20 (V4) (x20_2) ((x20_3 + (1)))) ∧ (¬ x20_3 = y20_1 → (wp_X2_leavesPlanted V4 (x20_3) (fun (r9 : Int32) (V8 : Mm) => ((r9 = 0 → wp_X2_findReplacement_L20 y20_1 post kx n20 (V8) (x20_2) ((x20_3 + (1)))) ∧ (¬ r9 = 0 → (wp_X3_comesBefore V8 (x20_3) (x20_2) (fun (r12 : Int32) (V11 : Mm) => ((r12 = 0 → wp_X2_findReplacement_L20 y20_1 post kx n20 (V11) (x20_2) ((x20_3 + (1)))) ∧ (¬ r12 = 0 → wp_X2_findReplacement_L20 y20_1 post kx n20 (V11) (x20_3) ((x20_3 + (1)))))))))))))))))

def wp_X2_findReplacement (V : Mm) (a0 : Int32) (post : Int32 → Mm → Prop) : Prop := (wp_X3_firstEnd V (a0) (fun (r2 : Int32) (V1 : Mm) => (wp_X7_plant V1 (r2) (a0) (fun (V3 : Mm) => (∃ m20 : Nat, wp_X2_findReplacement_L20 (a0) post (fun (V14 : Mm) (x15 : Int32) (x16 : Int32) => post x15 V14) m20 (V3) ((-1)) (0))))))
set_option maxHeartbeats 4000000 in
theorem cl_X2_findReplacement_L20 {X : ab_M} {g : ab_G} {l : Launch} {d : Nat} (hd : 4 ≤ d) (y20_1 : Int32) {post : Int32 → Mm → Prop} {kx : Mm → Int32 → Int32 → Prop} {o : Nat → Int64} {D : Nat → UInt64} (O : ab_Ok X g cX2_findReplacement RX2) (I : ab_I X l tk_strs 4 (some .int) yX2_findReplacement.name d 0 0) (hk : ∀ (V : Mm) (x20_2 : Int32) (x20_3 : Int32), kx V x20_2 x20_3 → Ab X g 0 0 (tk_Q X g (tk_I g (fun r u => ∃ V : Mm, u = SW V o D ∧ post r V)) (fun _ _ => False) 0 0) 64 [none, none, some (.int (x20_2)), none] [] (SW V o D)) : ∀ (n : Nat) (V : Mm) (x20_2 : Int32) (x20_3 : Int32), wp_X2_findReplacement_L20 y20_1 post kx n V x20_2 x20_3 → Ab X g 0 0 (tk_Q X g (tk_I g (fun r u => ∃ V : Mm, u = SW V o D ∧ post r V)) (fun _ _ => False) 0 0) 20 [some (.ref (35)), some (.int (y20_1)), some (.int (x20_2)), some (.int (x20_3))] [] (SW V o D) := by
  intro n
  induction n with
  | zero => intro V x20_2 x20_3 h; exact h.elim
  | succ n ih =>
    intro V x20_2 x20_3 h
    refine ab_iload_n O 3 dX2_findReplacement_20 rfl rfl ?_
    refine ab_aload_n O 0 dX2_findReplacement_21 rfl rfl ?_
    refine ab_get O fl_X2_9 dX2_findReplacement_22 (at_35 _ _ _) rfl ?_
    refine ab_callvI O I.2.2.2.2.2.2 (fr := False) (st := [.int (x20_3)]) lk_X2_71 rfl (at_1 _ _ _) dX2_findReplacement_25 (c_X3_edgeCount (d - 1) (by omega) _ O.2.2.2.2.2.2.1 _ _ _ h) rfl rfl ⟨by rw [I.2.1]; show d - 1 + 1 ≤ d; omega, by rw [I.2.1]; show 8 + (_ + 11) + 36 * (d - 1) ≤ 36 * d; omega⟩ (show 1 ≤ 8 by decide) ⟨by rw [I.2.1]; show 0 + 0 ≤ 0; decide, by rw [I.2.1]; show 0 + 0 ≤ 0; decide⟩ (fun q => q.elim) (fun E u q => q.elim) (fun r5 u hu => ?_)
    obtain ⟨V4, rfl, h⟩ := hu
    refine ab_icmp_ge O 64 dX2_findReplacement_28 rfl (fun q6 => ?_) (fun q6 => ?_)
    · have h := h.1 q6
      exact ab_less (hk (V4) (x20_2) (x20_3) h) (ab_le_n (ab_le_n (ab_le_s (ab_le_n ab_le_0))))
    · have h := h.2 q6
      refine ab_iload_n O 3 dX2_findReplacement_31 rfl rfl ?_
      refine ab_iload_n O 1 dX2_findReplacement_32 rfl rfl ?_
      refine ab_icmp_eq O 58 dX2_findReplacement_33 rfl (fun q7 => ?_) (fun q7 => ?_)
      · have h := h.1 q7
        refine ab_iinc O ((x20_3 + (1))) dX2_findReplacement_58 rfl rfl ?_
        refine ab_goto O 20 dX2_findReplacement_61 rfl ?_
        exact ab_less (ih (V4) (x20_2) ((x20_3 + (1))) h) (ab_le_s (ab_le_s (ab_le_s (ab_le_s ab_le_0))))
      · have h := h.2 q7
        refine ab_aload_n O 0 dX2_findReplacement_36 rfl rfl ?_
        refine ab_iload_n O 3 dX2_findReplacement_37 rfl rfl ?_
        refine ab_callvI O I.2.2.2.2.2.2 (fr := False) (st := []) lk_X2_75 rfl (at_35 _ _ _) dX2_findReplacement_38 (c_X2_leavesPlanted (d - 1) (by omega) _ O.2.2.2.2.2.2.1 _ _ _ _ h) rfl rfl ⟨by rw [I.2.1]; show d - 1 + 1 ≤ d; omega, by rw [I.2.1]; show 8 + (_ + 11) + 36 * (d - 1) ≤ 36 * d; omega⟩ (show 0 ≤ 8 by decide) ⟨by rw [I.2.1]; show 0 + 0 ≤ 0; decide, by rw [I.2.1]; show 0 + 0 ≤ 0; decide⟩ (fun q => q.elim) (fun E u q => q.elim) (fun r9 u hu => ?_)
        obtain ⟨V8, rfl, h⟩ := hu
        refine ab_if_eq O 58 dX2_findReplacement_41 rfl (fun q10 => ?_) (fun q10 => ?_)
        · have h := h.1 q10
          refine ab_iinc O ((x20_3 + (1))) dX2_findReplacement_58 rfl rfl ?_
          refine ab_goto O 20 dX2_findReplacement_61 rfl ?_
          exact ab_less (ih (V8) (x20_2) ((x20_3 + (1))) h) (ab_le_s (ab_le_s (ab_le_s (ab_le_s ab_le_0))))
        · have h := h.2 q10
          refine ab_aload_n O 0 dX2_findReplacement_44 rfl rfl ?_
          refine ab_get O fl_X2_9 dX2_findReplacement_45 (at_35 _ _ _) rfl ?_
          refine ab_iload_n O 3 dX2_findReplacement_48 rfl rfl ?_
          refine ab_iload_n O 2 dX2_findReplacement_49 rfl rfl ?_
          refine ab_callvI O I.2.2.2.2.2.2 (fr := False) (st := []) lk_X2_51 rfl (at_1 _ _ _) dX2_findReplacement_50 (c_X3_comesBefore (d - 1) (by omega) _ O.2.2.2.2.2.2.1 _ _ _ _ _ h) rfl rfl ⟨by rw [I.2.1]; show d - 1 + 1 ≤ d; omega, by rw [I.2.1]; show 8 + (_ + 11) + 36 * (d - 1) ≤ 36 * d; omega⟩ (show 0 ≤ 8 by decide) ⟨by rw [I.2.1]; show 0 + 0 ≤ 0; decide, by rw [I.2.1]; show 0 + 0 ≤ 0; decide⟩ (fun q => q.elim) (fun E u q => q.elim) (fun r12 u hu => ?_)
          obtain ⟨V11, rfl, h⟩ := hu
          refine ab_if_eq O 58 dX2_findReplacement_53 rfl (fun q13 => ?_) (fun q13 => ?_)
          · have h := h.1 q13
            refine ab_iinc O ((x20_3 + (1))) dX2_findReplacement_58 rfl rfl ?_
            refine ab_goto O 20 dX2_findReplacement_61 rfl ?_
            exact ab_less (ih (V11) (x20_2) ((x20_3 + (1))) h) (ab_le_s (ab_le_s (ab_le_s (ab_le_s ab_le_0))))
          · have h := h.2 q13
            refine ab_iload_n O 3 dX2_findReplacement_56 rfl rfl ?_
            refine ab_istore_n O 2 dX2_findReplacement_57 rfl (show 2 < 4 by decide) ?_
            refine ab_iinc O ((x20_3 + (1))) dX2_findReplacement_58 rfl rfl ?_
            refine ab_goto O 20 dX2_findReplacement_61 rfl ?_
            exact ab_less (ih (V11) (x20_3) ((x20_3 + (1))) h) (ab_le_s (ab_le_s (ab_le_s (ab_le_s ab_le_0))))
set_option maxHeartbeats 4000000 in
theorem c_X2_findReplacement (d : Nat) (hd : 4 ≤ d) (l : Launch) (hl : l.stackTraces = false) (g : ab_G) (o : Nat → Int64) (D : Nat → UInt64) (a0 : Int32) {V : Mm} {post : Int32 → Mm → Prop} (h : wp_X2_findReplacement V a0 post) : Ct l g tk_strs False d 0 0 yX2_findReplacement cX2_findReplacement 4 (some .int) [.ref 35, .int a0] (SW V o D) (tk_I g (fun r u => ∃ V : Mm, u = SW V o D ∧ post r V)) (fun _ _ => False) := by
  refine ct_in (by decide +kernel) (show 2 ≤ 4 by decide) (by simp [Value.category]) hl (fun X I O _ => ?_)
  show Ab X g 0 0 _ 0 [some (.ref (35)), some (.int (a0)), none, none] [] _
  refine ab_aload_n O 0 dX2_findReplacement_0 rfl rfl ?_
  refine ab_get O fl_X2_19 dX2_findReplacement_1 (at_35 _ _ _) rfl ?_
  refine ab_aload_n O 0 dX2_findReplacement_4 rfl rfl ?_
  refine ab_get O fl_X2_9 dX2_findReplacement_5 (at_35 _ _ _) rfl ?_
  refine ab_iload_n O 1 dX2_findReplacement_8 rfl rfl ?_
  refine ab_callvI O I.2.2.2.2.2.2 (fr := False) (st := [.ref (29)]) lk_X2_23 rfl (at_1 _ _ _) dX2_findReplacement_9 (c_X3_firstEnd (d - 1) (by omega) _ O.2.2.2.2.2.2.1 _ _ _ _ h) rfl rfl ⟨by rw [I.2.1]; show d - 1 + 1 ≤ d; omega, by rw [I.2.1]; show 8 + (_ + 11) + 36 * (d - 1) ≤ 36 * d; omega⟩ (show 1 ≤ 8 by decide) ⟨by rw [I.2.1]; show 0 + 0 ≤ 0; decide, by rw [I.2.1]; show 0 + 0 ≤ 0; decide⟩ (fun q => q.elim) (fun E u q => q.elim) (fun r2 u hu => ?_)
  obtain ⟨V1, rfl, h⟩ := hu
  refine ab_iload_n O 1 dX2_findReplacement_12 rfl rfl ?_
  refine ab_callvV O I.2.2.2.2.2.2 (fr := False) (st := []) lk_X2_29 rfl (at_29 _ _ _) dX2_findReplacement_13 (c_X7_plant (d - 1) (by omega) _ O.2.2.2.2.2.2.1 _ _ _ _ _ h) rfl rfl ⟨by rw [I.2.1]; show d - 1 + 1 ≤ d; omega, by rw [I.2.1]; show 8 + (_ + 11) + 36 * (d - 1) ≤ 36 * d; omega⟩ (show 0 ≤ 8 by decide) ⟨by rw [I.2.1]; show 0 + 0 ≤ 0; decide, by rw [I.2.1]; show 0 + 0 ≤ 0; decide⟩ (fun q => q.elim) (fun E u q => q.elim) (fun u hu => ?_)
  obtain ⟨V3, rfl, h⟩ := hu
  refine ab_iconst O (-1) dX2_findReplacement_16 rfl ?_
  refine ab_istore_n O 2 dX2_findReplacement_17 rfl (show 2 < 4 by decide) ?_
  refine ab_iconst O 0 dX2_findReplacement_18 rfl ?_
  refine ab_istore_n O 3 dX2_findReplacement_19 rfl (show 3 < 4 by decide) ?_
  obtain ⟨n9, h⟩ := h
  refine ab_less (cl_X2_findReplacement_L20 hd (a0) O I (fun V14 x15 x16 h => ?_) n9 (V3) ((-1)) (0) h) (ab_le_s (ab_le_s (ab_le_s (ab_le_s ab_le_0))))
  refine ab_iload_n O 2 dX2_findReplacement_64 rfl rfl ?_
  exact ab_ireturn O I dX2_findReplacement_65 (by decide) (by decide) (by rfl) ⟨_, rfl, h⟩

def wp_X2_release (V : Mm) (a0 : Int32) (post : Int32 → Mm → Prop) : Prop := (wp_X0_holds V (a0) (fun (r2 : Int32) (V1 : Mm) => ((r2 = 0 → (wp_X3_markRemoved V1 (a0) (fun (V10 : Mm) => post (-1) V10))) ∧ (¬ r2 = 0 → (wp_X2_findReplacement V1 (a0) (fun (r5 : Int32) (V4 : Mm) => (wp_X0_cut V4 (a0) (fun (V6 : Mm) => (wp_X3_markRemoved V6 (a0) (fun (V7 : Mm) => ((r5 = (-1) → post r5 V7) ∧ (¬ r5 = (-1) → (wp_X0_link V7 (r5) (fun (V9 : Mm) => post r5 V9))))))))))))))
set_option maxHeartbeats 4000000 in
theorem c_X2_release (d : Nat) (hd : 5 ≤ d) (l : Launch) (hl : l.stackTraces = false) (g : ab_G) (o : Nat → Int64) (D : Nat → UInt64) (a0 : Int32) {V : Mm} {post : Int32 → Mm → Prop} (h : wp_X2_release V a0 post) : Ct l g tk_strs False d 0 0 yX2_release cX2_release 3 (some .int) [.ref 35, .int a0] (SW V o D) (tk_I g (fun r u => ∃ V : Mm, u = SW V o D ∧ post r V)) (fun _ _ => False) := by
  refine ct_in (by decide +kernel) (show 2 ≤ 3 by decide) (by simp [Value.category]) hl (fun X I O _ => ?_)
  show Ab X g 0 0 _ 0 [some (.ref (35)), some (.int (a0)), none] [] _
  refine ab_aload_n O 0 dX2_release_0 rfl rfl ?_
  refine ab_get O fl_X2_15 dX2_release_1 (at_35 _ _ _) rfl ?_
  refine ab_iload_n O 1 dX2_release_4 rfl rfl ?_
  refine ab_callvI O I.2.2.2.2.2.2 (fr := False) (st := []) lk_X2_58 rfl (at_7 _ _ _) dX2_release_5 (c_X0_holds (d - 1) (by omega) _ O.2.2.2.2.2.2.1 _ _ _ _ h) rfl rfl ⟨by rw [I.2.1]; show d - 1 + 1 ≤ d; omega, by rw [I.2.1]; show 8 + (_ + 11) + 36 * (d - 1) ≤ 36 * d; omega⟩ (show 0 ≤ 8 by decide) ⟨by rw [I.2.1]; show 0 + 0 ≤ 0; decide, by rw [I.2.1]; show 0 + 0 ≤ 0; decide⟩ (fun q => q.elim) (fun E u q => q.elim) (fun r2 u hu => ?_)
  obtain ⟨V1, rfl, h⟩ := hu
  refine ab_if_ne O 21 dX2_release_8 rfl (fun q3 => ?_) (fun q3 => ?_)
  · have h := h.2 q3
    refine ab_aload_n O 0 dX2_release_21 rfl rfl ?_
    refine ab_iload_n O 1 dX2_release_22 rfl rfl ?_
    refine ab_callvI O I.2.2.2.2.2.2 (fr := False) (st := []) lk_X2_62 rfl (at_35 _ _ _) dX2_release_23 (c_X2_findReplacement (d - 1) (by omega) _ O.2.2.2.2.2.2.1 _ _ _ _ h) rfl rfl ⟨by rw [I.2.1]; show d - 1 + 1 ≤ d; omega, by rw [I.2.1]; show 8 + (_ + 11) + 36 * (d - 1) ≤ 36 * d; omega⟩ (show 0 ≤ 8 by decide) ⟨by rw [I.2.1]; show 0 + 0 ≤ 0; decide, by rw [I.2.1]; show 0 + 0 ≤ 0; decide⟩ (fun q => q.elim) (fun E u q => q.elim) (fun r5 u hu => ?_)
    obtain ⟨V4, rfl, h⟩ := hu
    refine ab_istore_n O 2 dX2_release_26 rfl (show 2 < 3 by decide) ?_
    refine ab_aload_n O 0 dX2_release_27 rfl rfl ?_
    refine ab_get O fl_X2_15 dX2_release_28 (at_35 _ _ _) rfl ?_
    refine ab_iload_n O 1 dX2_release_31 rfl rfl ?_
    refine ab_callvV O I.2.2.2.2.2.2 (fr := False) (st := []) lk_X2_55 rfl (at_7 _ _ _) dX2_release_32 (c_X0_cut (d - 1) (by omega) _ O.2.2.2.2.2.2.1 _ _ _ _ h) rfl rfl ⟨by rw [I.2.1]; show d - 1 + 1 ≤ d; omega, by rw [I.2.1]; show 8 + (_ + 11) + 36 * (d - 1) ≤ 36 * d; omega⟩ (show 0 ≤ 8 by decide) ⟨by rw [I.2.1]; show 0 + 0 ≤ 0; decide, by rw [I.2.1]; show 0 + 0 ≤ 0; decide⟩ (fun q => q.elim) (fun E u q => q.elim) (fun u hu => ?_)
    obtain ⟨V6, rfl, h⟩ := hu
    refine ab_aload_n O 0 dX2_release_35 rfl rfl ?_
    refine ab_get O fl_X2_9 dX2_release_36 (at_35 _ _ _) rfl ?_
    refine ab_iload_n O 1 dX2_release_39 rfl rfl ?_
    refine ab_callvV O I.2.2.2.2.2.2 (fr := False) (st := []) lk_X2_59 rfl (at_1 _ _ _) dX2_release_40 (c_X3_markRemoved (d - 1) (by omega) _ O.2.2.2.2.2.2.1 _ _ _ _ h) rfl rfl ⟨by rw [I.2.1]; show d - 1 + 1 ≤ d; omega, by rw [I.2.1]; show 8 + (_ + 11) + 36 * (d - 1) ≤ 36 * d; omega⟩ (show 0 ≤ 8 by decide) ⟨by rw [I.2.1]; show 0 + 0 ≤ 0; decide, by rw [I.2.1]; show 0 + 0 ≤ 0; decide⟩ (fun q => q.elim) (fun E u q => q.elim) (fun u hu => ?_)
    obtain ⟨V7, rfl, h⟩ := hu
    refine ab_iload_n O 2 dX2_release_43 rfl rfl ?_
    refine ab_iconst O (-1) dX2_release_44 rfl ?_
    refine ab_icmp_eq O 56 dX2_release_45 rfl (fun q8 => ?_) (fun q8 => ?_)
    · have h := h.1 q8
      refine ab_iload_n O 2 dX2_release_56 rfl rfl ?_
      exact ab_ireturn O I dX2_release_57 (by decide) (by decide) (by rfl) ⟨_, rfl, h⟩
    · have h := h.2 q8
      refine ab_aload_n O 0 dX2_release_48 rfl rfl ?_
      refine ab_get O fl_X2_15 dX2_release_49 (at_35 _ _ _) rfl ?_
      refine ab_iload_n O 2 dX2_release_52 rfl rfl ?_
      refine ab_callvV O I.2.2.2.2.2.2 (fr := False) (st := []) lk_X2_42 rfl (at_7 _ _ _) dX2_release_53 (c_X0_link (d - 1) (by omega) _ O.2.2.2.2.2.2.1 _ _ _ _ h) rfl rfl ⟨by rw [I.2.1]; show d - 1 + 1 ≤ d; omega, by rw [I.2.1]; show 8 + (_ + 11) + 36 * (d - 1) ≤ 36 * d; omega⟩ (show 0 ≤ 8 by decide) ⟨by rw [I.2.1]; show 0 + 0 ≤ 0; decide, by rw [I.2.1]; show 0 + 0 ≤ 0; decide⟩ (fun q => q.elim) (fun E u q => q.elim) (fun u hu => ?_)
      obtain ⟨V9, rfl, h⟩ := hu
      refine ab_iload_n O 2 dX2_release_56 rfl rfl ?_
      exact ab_ireturn O I dX2_release_57 (by decide) (by decide) (by rfl) ⟨_, rfl, h⟩
  · have h := h.1 q3
    refine ab_aload_n O 0 dX2_release_11 rfl rfl ?_
    refine ab_get O fl_X2_9 dX2_release_12 (at_35 _ _ _) rfl ?_
    refine ab_iload_n O 1 dX2_release_15 rfl rfl ?_
    refine ab_callvV O I.2.2.2.2.2.2 (fr := False) (st := []) lk_X2_59 rfl (at_1 _ _ _) dX2_release_16 (c_X3_markRemoved (d - 1) (by omega) _ O.2.2.2.2.2.2.1 _ _ _ _ h) rfl rfl ⟨by rw [I.2.1]; show d - 1 + 1 ≤ d; omega, by rw [I.2.1]; show 8 + (_ + 11) + 36 * (d - 1) ≤ 36 * d; omega⟩ (show 0 ≤ 8 by decide) ⟨by rw [I.2.1]; show 0 + 0 ≤ 0; decide, by rw [I.2.1]; show 0 + 0 ≤ 0; decide⟩ (fun q => q.elim) (fun E u q => q.elim) (fun u hu => ?_)
    obtain ⟨V10, rfl, h⟩ := hu
    refine ab_iconst O (-1) dX2_release_19 rfl ?_
    exact ab_ireturn O I dX2_release_20 (by decide) (by decide) (by rfl) ⟨_, rfl, h⟩

def wp_X2_reweigh (V : Mm) (a0 a1 : Int32) (post : Mm → Prop) : Prop := (wp_X0_holds V (a0) (fun (r2 : Int32) (V1 : Mm) => ((r2 = 0 → (wp_X3_putWeight V1 (a0) (a1) (fun (V13 : Mm) => (wp_X2_admit V13 (a0) (fun (V14 : Mm) => post V14))))) ∧ (¬ r2 = 0 → (wp_X2_findReplacement V1 (a0) (fun (r5 : Int32) (V4 : Mm) => (wp_X0_cut V4 (a0) (fun (V6 : Mm) => (wp_X3_putWeight V6 (a0) (a1) (fun (V7 : Mm) => (wp_X3_comesBefore V7 (a0) (r5) (fun (r9 : Int32) (V8 : Mm) => ((r9 = 0 → (wp_X0_link V8 (r5) (fun (V11 : Mm) => post V11))) ∧ (¬ r9 = 0 → (wp_X0_link V8 (a0) (fun (V12 : Mm) => post V12))))))))))))))))
set_option maxHeartbeats 4000000 in
theorem c_X2_reweigh (d : Nat) (hd : 5 ≤ d) (l : Launch) (hl : l.stackTraces = false) (g : ab_G) (o : Nat → Int64) (D : Nat → UInt64) (a0 : Int32) (a1 : Int32) {V : Mm} {post : Mm → Prop} (h : wp_X2_reweigh V a0 a1 post) : Ct l g tk_strs False d 0 0 yX2_reweigh cX2_reweigh 4 none [.ref 35, .int a0, .int a1] (SW V o D) (tk_V g (fun u => ∃ V : Mm, u = SW V o D ∧ post V)) (fun _ _ => False) := by
  refine ct_in (by decide +kernel) (show 3 ≤ 4 by decide) (by simp [Value.category]) hl (fun X I O _ => ?_)
  show Ab X g 0 0 _ 0 [some (.ref (35)), some (.int (a0)), some (.int (a1)), none] [] _
  refine ab_aload_n O 0 dX2_reweigh_0 rfl rfl ?_
  refine ab_get O fl_X2_15 dX2_reweigh_1 (at_35 _ _ _) rfl ?_
  refine ab_iload_n O 1 dX2_reweigh_4 rfl rfl ?_
  refine ab_callvI O I.2.2.2.2.2.2 (fr := False) (st := []) lk_X2_58 rfl (at_7 _ _ _) dX2_reweigh_5 (c_X0_holds (d - 1) (by omega) _ O.2.2.2.2.2.2.1 _ _ _ _ h) rfl rfl ⟨by rw [I.2.1]; show d - 1 + 1 ≤ d; omega, by rw [I.2.1]; show 8 + (_ + 11) + 36 * (d - 1) ≤ 36 * d; omega⟩ (show 0 ≤ 8 by decide) ⟨by rw [I.2.1]; show 0 + 0 ≤ 0; decide, by rw [I.2.1]; show 0 + 0 ≤ 0; decide⟩ (fun q => q.elim) (fun E u q => q.elim) (fun r2 u hu => ?_)
  obtain ⟨V1, rfl, h⟩ := hu
  refine ab_if_ne O 26 dX2_reweigh_8 rfl (fun q3 => ?_) (fun q3 => ?_)
  · have h := h.2 q3
    refine ab_aload_n O 0 dX2_reweigh_26 rfl rfl ?_
    refine ab_iload_n O 1 dX2_reweigh_27 rfl rfl ?_
    refine ab_callvI O I.2.2.2.2.2.2 (fr := False) (st := []) lk_X2_62 rfl (at_35 _ _ _) dX2_reweigh_28 (c_X2_findReplacement (d - 1) (by omega) _ O.2.2.2.2.2.2.1 _ _ _ _ h) rfl rfl ⟨by rw [I.2.1]; show d - 1 + 1 ≤ d; omega, by rw [I.2.1]; show 8 + (_ + 11) + 36 * (d - 1) ≤ 36 * d; omega⟩ (show 0 ≤ 8 by decide) ⟨by rw [I.2.1]; show 0 + 0 ≤ 0; decide, by rw [I.2.1]; show 0 + 0 ≤ 0; decide⟩ (fun q => q.elim) (fun E u q => q.elim) (fun r5 u hu => ?_)
    obtain ⟨V4, rfl, h⟩ := hu
    refine ab_istore_n O 3 dX2_reweigh_31 rfl (show 3 < 4 by decide) ?_
    refine ab_aload_n O 0 dX2_reweigh_32 rfl rfl ?_
    refine ab_get O fl_X2_15 dX2_reweigh_33 (at_35 _ _ _) rfl ?_
    refine ab_iload_n O 1 dX2_reweigh_36 rfl rfl ?_
    refine ab_callvV O I.2.2.2.2.2.2 (fr := False) (st := []) lk_X2_55 rfl (at_7 _ _ _) dX2_reweigh_37 (c_X0_cut (d - 1) (by omega) _ O.2.2.2.2.2.2.1 _ _ _ _ h) rfl rfl ⟨by rw [I.2.1]; show d - 1 + 1 ≤ d; omega, by rw [I.2.1]; show 8 + (_ + 11) + 36 * (d - 1) ≤ 36 * d; omega⟩ (show 0 ≤ 8 by decide) ⟨by rw [I.2.1]; show 0 + 0 ≤ 0; decide, by rw [I.2.1]; show 0 + 0 ≤ 0; decide⟩ (fun q => q.elim) (fun E u q => q.elim) (fun u hu => ?_)
    obtain ⟨V6, rfl, h⟩ := hu
    refine ab_aload_n O 0 dX2_reweigh_40 rfl rfl ?_
    refine ab_get O fl_X2_9 dX2_reweigh_41 (at_35 _ _ _) rfl ?_
    refine ab_iload_n O 1 dX2_reweigh_44 rfl rfl ?_
    refine ab_iload_n O 2 dX2_reweigh_45 rfl rfl ?_
    refine ab_callvV O I.2.2.2.2.2.2 (fr := False) (st := []) lk_X2_65 rfl (at_1 _ _ _) dX2_reweigh_46 (c_X3_putWeight (d - 1) (by omega) _ O.2.2.2.2.2.2.1 _ _ _ _ _ h) rfl rfl ⟨by rw [I.2.1]; show d - 1 + 1 ≤ d; omega, by rw [I.2.1]; show 8 + (_ + 11) + 36 * (d - 1) ≤ 36 * d; omega⟩ (show 0 ≤ 8 by decide) ⟨by rw [I.2.1]; show 0 + 0 ≤ 0; decide, by rw [I.2.1]; show 0 + 0 ≤ 0; decide⟩ (fun q => q.elim) (fun E u q => q.elim) (fun u hu => ?_)
    obtain ⟨V7, rfl, h⟩ := hu
    refine ab_aload_n O 0 dX2_reweigh_49 rfl rfl ?_
    refine ab_get O fl_X2_15 dX2_reweigh_50 (at_35 _ _ _) rfl ?_
    refine ab_aload_n O 0 dX2_reweigh_53 rfl rfl ?_
    refine ab_get O fl_X2_9 dX2_reweigh_54 (at_35 _ _ _) rfl ?_
    refine ab_iload_n O 1 dX2_reweigh_57 rfl rfl ?_
    refine ab_iload_n O 3 dX2_reweigh_58 rfl rfl ?_
    refine ab_callvI O I.2.2.2.2.2.2 (fr := False) (st := [.ref (7)]) lk_X2_51 rfl (at_1 _ _ _) dX2_reweigh_59 (c_X3_comesBefore (d - 1) (by omega) _ O.2.2.2.2.2.2.1 _ _ _ _ _ h) rfl rfl ⟨by rw [I.2.1]; show d - 1 + 1 ≤ d; omega, by rw [I.2.1]; show 8 + (_ + 11) + 36 * (d - 1) ≤ 36 * d; omega⟩ (show 1 ≤ 8 by decide) ⟨by rw [I.2.1]; show 0 + 0 ≤ 0; decide, by rw [I.2.1]; show 0 + 0 ≤ 0; decide⟩ (fun q => q.elim) (fun E u q => q.elim) (fun r9 u hu => ?_)
    obtain ⟨V8, rfl, h⟩ := hu
    refine ab_if_eq O 69 dX2_reweigh_62 rfl (fun q10 => ?_) (fun q10 => ?_)
    · have h := h.1 q10
      refine ab_iload_n O 3 dX2_reweigh_69 rfl rfl ?_
      refine ab_callvV O I.2.2.2.2.2.2 (fr := False) (st := []) lk_X2_42 rfl (at_7 _ _ _) dX2_reweigh_70 (c_X0_link (d - 1) (by omega) _ O.2.2.2.2.2.2.1 _ _ _ _ h) rfl rfl ⟨by rw [I.2.1]; show d - 1 + 1 ≤ d; omega, by rw [I.2.1]; show 8 + (_ + 11) + 36 * (d - 1) ≤ 36 * d; omega⟩ (show 0 ≤ 8 by decide) ⟨by rw [I.2.1]; show 0 + 0 ≤ 0; decide, by rw [I.2.1]; show 0 + 0 ≤ 0; decide⟩ (fun q => q.elim) (fun E u q => q.elim) (fun u hu => ?_)
      obtain ⟨V11, rfl, h⟩ := hu
      exact ab_return O I dX2_reweigh_73 (by decide) (by decide) ⟨_, rfl, h⟩
    · have h := h.2 q10
      refine ab_iload_n O 1 dX2_reweigh_65 rfl rfl ?_
      refine ab_goto O 70 dX2_reweigh_66 rfl ?_
      refine ab_callvV O I.2.2.2.2.2.2 (fr := False) (st := []) lk_X2_42 rfl (at_7 _ _ _) dX2_reweigh_70 (c_X0_link (d - 1) (by omega) _ O.2.2.2.2.2.2.1 _ _ _ _ h) rfl rfl ⟨by rw [I.2.1]; show d - 1 + 1 ≤ d; omega, by rw [I.2.1]; show 8 + (_ + 11) + 36 * (d - 1) ≤ 36 * d; omega⟩ (show 0 ≤ 8 by decide) ⟨by rw [I.2.1]; show 0 + 0 ≤ 0; decide, by rw [I.2.1]; show 0 + 0 ≤ 0; decide⟩ (fun q => q.elim) (fun E u q => q.elim) (fun u hu => ?_)
      obtain ⟨V12, rfl, h⟩ := hu
      exact ab_return O I dX2_reweigh_73 (by decide) (by decide) ⟨_, rfl, h⟩
  · have h := h.1 q3
    refine ab_aload_n O 0 dX2_reweigh_11 rfl rfl ?_
    refine ab_get O fl_X2_9 dX2_reweigh_12 (at_35 _ _ _) rfl ?_
    refine ab_iload_n O 1 dX2_reweigh_15 rfl rfl ?_
    refine ab_iload_n O 2 dX2_reweigh_16 rfl rfl ?_
    refine ab_callvV O I.2.2.2.2.2.2 (fr := False) (st := []) lk_X2_65 rfl (at_1 _ _ _) dX2_reweigh_17 (c_X3_putWeight (d - 1) (by omega) _ O.2.2.2.2.2.2.1 _ _ _ _ _ h) rfl rfl ⟨by rw [I.2.1]; show d - 1 + 1 ≤ d; omega, by rw [I.2.1]; show 8 + (_ + 11) + 36 * (d - 1) ≤ 36 * d; omega⟩ (show 0 ≤ 8 by decide) ⟨by rw [I.2.1]; show 0 + 0 ≤ 0; decide, by rw [I.2.1]; show 0 + 0 ≤ 0; decide⟩ (fun q => q.elim) (fun E u q => q.elim) (fun u hu => ?_)
    obtain ⟨V13, rfl, h⟩ := hu
    refine ab_aload_n O 0 dX2_reweigh_20 rfl rfl ?_
    refine ab_iload_n O 1 dX2_reweigh_21 rfl rfl ?_
    refine ab_callvV O I.2.2.2.2.2.2 (fr := False) (st := []) lk_X2_68 rfl (at_35 _ _ _) dX2_reweigh_22 (c_X2_admit (d - 1) (by omega) _ O.2.2.2.2.2.2.1 _ _ _ _ h) rfl rfl ⟨by rw [I.2.1]; show d - 1 + 1 ≤ d; omega, by rw [I.2.1]; show 8 + (_ + 11) + 36 * (d - 1) ≤ 36 * d; omega⟩ (show 0 ≤ 8 by decide) ⟨by rw [I.2.1]; show 0 + 0 ≤ 0; decide, by rw [I.2.1]; show 0 + 0 ≤ 0; decide⟩ (fun q => q.elim) (fun E u q => q.elim) (fun u hu => ?_)
    obtain ⟨V14, rfl, h⟩ := hu
    exact ab_return O I dX2_reweigh_25 (by decide) (by decide) ⟨_, rfl, h⟩

def wp_X1_clear_L12 (post : Mm → Prop) (kx : Mm → Int32 → Prop) : Nat → Mm → Int32 → Prop
  | 0, _, _ => False
  | n12 + 1, V, x12_1 => ((20 ≤ x12_1 → kx (V) (x12_1)) ∧ (¬ 20 ≤ x12_1 → (vp_in x12_1 20 ∧ ∀ V4 : Mm, V4 = wr V 38 (Int32.toNatClampNeg (x12_1)) x12_1 → wp_X1_clear_L12 post kx n12 (V4) ((x12_1 + (1))))))

def wp_X1_clear_L33 (post : Mm → Prop) (kx : Mm → Int32 → Prop) : Nat → Mm → Int32 → Prop
  | 0, _, _ => False
  | n33 + 1, V, x33_1 => ((60 ≤ x33_1 → kx (V) (x33_1)) ∧ (¬ 60 ≤ x33_1 → (vp_in x33_1 60 ∧ ∀ V8 : Mm, V8 = wr V 39 (Int32.toNatClampNeg (x33_1)) 0 → wp_X1_clear_L33 post kx n33 (V8) ((x33_1 + (1))))))

def wp_X1_clear (V : Mm) (post : Mm → Prop) : Prop := (∀ V1 : Mm, V1 = wr V 36 4 0 → (∀ V2 : Mm, V2 = wr V1 36 5 0 → (∃ m12 : Nat, wp_X1_clear_L12 post (fun (V5 : Mm) (x6 : Int32) => (∃ m33 : Nat, wp_X1_clear_L33 post (fun (V9 : Mm) (x10 : Int32) => post V9) m33 (V5) (0))) m12 (V2) (0))))
set_option maxHeartbeats 4000000 in
theorem cl_X1_clear_L12 {X : ab_M} {g : ab_G} {l : Launch} {d : Nat} (hd : 0 ≤ d) {post : Mm → Prop} {kx : Mm → Int32 → Prop} {o : Nat → Int64} {D : Nat → UInt64} (O : ab_Ok X g cX1_clear RX1) (I : ab_I X l tk_strs 2 none yX1_clear.name d 0 0) (hk : ∀ (V : Mm) (x12_1 : Int32), kx V x12_1 → Ab X g 0 0 (tk_Q X g (tk_V g (fun u => ∃ V : Mm, u = SW V o D ∧ post V)) (fun _ _ => False) 0 0) 31 [some (.ref (36)), none] [] (SW V o D)) : ∀ (n : Nat) (V : Mm) (x12_1 : Int32), wp_X1_clear_L12 post kx n V x12_1 → Ab X g 0 0 (tk_Q X g (tk_V g (fun u => ∃ V : Mm, u = SW V o D ∧ post V)) (fun _ _ => False) 0 0) 12 [some (.ref (36)), some (.int (x12_1))] [] (SW V o D) := by
  intro n
  induction n with
  | zero => intro V x12_1 h; exact h.elim
  | succ n ih =>
    intro V x12_1 h
    refine ab_iload_n O 1 dX1_clear_12 rfl rfl ?_
    refine ab_bipush O 20 dX1_clear_13 rfl ?_
    refine ab_icmp_ge O 31 dX1_clear_15 rfl (fun q3 => ?_) (fun q3 => ?_)
    · have h := h.1 q3
      exact ab_less (hk (V) (x12_1) h) (ab_le_s (ab_le_n ab_le_0))
    · have h := h.2 q3
      refine ab_aload_n O 0 dX1_clear_18 rfl rfl ?_
      refine ab_get O fl_X1_15 dX1_clear_19 (at_36 _ _ _) rfl ?_
      refine ab_iload_n O 1 dX1_clear_22 rfl rfl ?_
      refine ab_iload_n O 1 dX1_clear_23 rfl rfl ?_
      refine ab_iast O dX1_clear_24 (at_38 _ _ _) h.1 ?_
      have h := h.2
      refine ab_eq ?_ rfl rfl rfl (sa_38 _ _ _ _ _).symm
      obtain ⟨V4, eV4⟩ : ∃ z : Mm, z = wr V 38 (Int32.toNatClampNeg (x12_1)) x12_1 := ⟨_, rfl⟩
      rw [← eV4]
      have h := h V4 eV4
      refine ab_iinc O ((x12_1 + (1))) dX1_clear_25 rfl rfl ?_
      refine ab_goto O 12 dX1_clear_28 rfl ?_
      exact ab_less (ih (V4) ((x12_1 + (1))) h) (ab_le_s (ab_le_s ab_le_0))
set_option maxHeartbeats 4000000 in
theorem cl_X1_clear_L33 {X : ab_M} {g : ab_G} {l : Launch} {d : Nat} (hd : 0 ≤ d) {post : Mm → Prop} {kx : Mm → Int32 → Prop} {o : Nat → Int64} {D : Nat → UInt64} (O : ab_Ok X g cX1_clear RX1) (I : ab_I X l tk_strs 2 none yX1_clear.name d 0 0) (hk : ∀ (V : Mm) (x33_1 : Int32), kx V x33_1 → Ab X g 0 0 (tk_Q X g (tk_V g (fun u => ∃ V : Mm, u = SW V o D ∧ post V)) (fun _ _ => False) 0 0) 52 [none, none] [] (SW V o D)) : ∀ (n : Nat) (V : Mm) (x33_1 : Int32), wp_X1_clear_L33 post kx n V x33_1 → Ab X g 0 0 (tk_Q X g (tk_V g (fun u => ∃ V : Mm, u = SW V o D ∧ post V)) (fun _ _ => False) 0 0) 33 [some (.ref (36)), some (.int (x33_1))] [] (SW V o D) := by
  intro n
  induction n with
  | zero => intro V x33_1 h; exact h.elim
  | succ n ih =>
    intro V x33_1 h
    refine ab_iload_n O 1 dX1_clear_33 rfl rfl ?_
    refine ab_bipush O 60 dX1_clear_34 rfl ?_
    refine ab_icmp_ge O 52 dX1_clear_36 rfl (fun q7 => ?_) (fun q7 => ?_)
    · have h := h.1 q7
      exact ab_less (hk (V) (x33_1) h) (ab_le_n (ab_le_n ab_le_0))
    · have h := h.2 q7
      refine ab_aload_n O 0 dX1_clear_39 rfl rfl ?_
      refine ab_get O fl_X1_18 dX1_clear_40 (at_36 _ _ _) rfl ?_
      refine ab_iload_n O 1 dX1_clear_43 rfl rfl ?_
      refine ab_iconst O 0 dX1_clear_44 rfl ?_
      refine ab_zast O dX1_clear_45 (at_39 _ _ _) h.1 ?_
      have h := h.2
      refine ab_eq ?_ rfl rfl rfl (sa_39 _ _ _ _ _).symm
      show Ab _ _ _ _ _ _ _ _ (SW (wr V 39 (Int32.toNatClampNeg (x33_1)) 0) _ _)
      obtain ⟨V8, eV8⟩ : ∃ z : Mm, z = wr V 39 (Int32.toNatClampNeg (x33_1)) 0 := ⟨_, rfl⟩
      rw [← eV8]
      have h := h V8 eV8
      refine ab_iinc O ((x33_1 + (1))) dX1_clear_46 rfl rfl ?_
      refine ab_goto O 33 dX1_clear_49 rfl ?_
      exact ab_less (ih (V8) ((x33_1 + (1))) h) (ab_le_s (ab_le_s ab_le_0))
set_option maxHeartbeats 4000000 in
theorem c_X1_clear (d : Nat) (hd : 0 ≤ d) (l : Launch) (hl : l.stackTraces = false) (g : ab_G) (o : Nat → Int64) (D : Nat → UInt64) {V : Mm} {post : Mm → Prop} (h : wp_X1_clear V post) : Ct l g tk_strs False d 0 0 yX1_clear cX1_clear 2 none [.ref 36] (SW V o D) (tk_V g (fun u => ∃ V : Mm, u = SW V o D ∧ post V)) (fun _ _ => False) := by
  refine ct_in (by decide +kernel) (show 1 ≤ 2 by decide) (by simp [Value.category]) hl (fun X I O _ => ?_)
  show Ab X g 0 0 _ 0 [some (.ref (36)), none] [] _
  refine ab_aload_n O 0 dX1_clear_0 rfl rfl ?_
  refine ab_iconst O 0 dX1_clear_1 rfl ?_
  refine ab_put O fl_X1_22 cl_X1 dX1_clear_2 (at_36 _ _ _) rfl .int (by decide +kernel) (fun _ => rfl) (fun _ => rfl) (show 4 < 6 by decide) ?_
  refine ab_eq ?_ rfl rfl rfl (sf_36_4 _ _ _ _).symm
  obtain ⟨V1, eV1⟩ : ∃ z : Mm, z = wr V 36 4 0 := ⟨_, rfl⟩
  rw [← eV1]
  have h := h V1 eV1
  refine ab_aload_n O 0 dX1_clear_5 rfl rfl ?_
  refine ab_iconst O 0 dX1_clear_6 rfl ?_
  refine ab_put O fl_X1_26 cl_X1 dX1_clear_7 (at_36 _ _ _) rfl .int (by decide +kernel) (fun _ => rfl) (fun _ => rfl) (show 5 < 6 by decide) ?_
  refine ab_eq ?_ rfl rfl rfl (sf_36_5 _ _ _ _).symm
  obtain ⟨V2, eV2⟩ : ∃ z : Mm, z = wr V1 36 5 0 := ⟨_, rfl⟩
  rw [← eV2]
  have h := h V2 eV2
  refine ab_iconst O 0 dX1_clear_10 rfl ?_
  refine ab_istore_n O 1 dX1_clear_11 rfl (show 1 < 2 by decide) ?_
  obtain ⟨n9, h⟩ := h
  refine ab_less (cl_X1_clear_L12 hd O I (fun V5 x6 h => ?_) n9 (V2) (0) h) (ab_le_s (ab_le_s ab_le_0))
  refine ab_iconst O 0 dX1_clear_31 rfl ?_
  refine ab_istore_n O 1 dX1_clear_32 rfl (show 1 < 2 by decide) ?_
  obtain ⟨n9, h⟩ := h
  refine ab_less (cl_X1_clear_L33 hd O I (fun V9 x10 h => ?_) n9 (V5) (0) h) (ab_le_s (ab_le_s ab_le_0))
  exact ab_return O I dX1_clear_52 (by decide) (by decide) ⟨_, rfl, h⟩

def wp_X1_insert_L15 (y15_1 : Int32) (post : Mm → Prop) (kx : Mm → Int32 → Prop) : Nat → Mm → Int32 → Prop
  | 0, _, _ => False
  | n15 + 1, V, x15_2 => ((x15_2 ≤ 0 → kx (V) (x15_2)) ∧ (¬ x15_2 ≤ 0 → (vp_in (x15_2 - 1) 60 ∧ (wp_X3_comesBefore V (y15_1) ((V 37 (Int32.toNatClampNeg ((x15_2 - 1))))) (fun (r4 : Int32) (V3 : Mm) => ((r4 = 0 → kx (V3) (x15_2)) ∧ (¬ r4 = 0 → (vp_in (x15_2 - 1) 60 ∧ (vp_in x15_2 60 ∧ ∀ V6 : Mm, V6 = wr V3 37 (Int32.toNatClampNeg (x15_2)) (V3 37 (Int32.toNatClampNeg ((x15_2 - 1)))) → wp_X1_insert_L15 y15_1 post kx n15 (V6) ((x15_2 + (-1))))))))))))

def wp_X1_insert (V : Mm) (a0 : Int32) (post : Mm → Prop) : Prop := (((V 36 4) < 60 → (∃ m15 : Nat, wp_X1_insert_L15 (a0) post (fun (V7 : Mm) (x8 : Int32) => (vp_in x8 60 ∧ ∀ V9 : Mm, V9 = wr V7 37 (Int32.toNatClampNeg (x8)) a0 → (∀ V10 : Mm, V10 = wr V9 36 4 ((V9 36 4) + 1) → post V10))) m15 (V) ((V 36 4)))) ∧ (¬ (V 36 4) < 60 → post V))
set_option maxHeartbeats 4000000 in
theorem cl_X1_insert_L15 {X : ab_M} {g : ab_G} {l : Launch} {d : Nat} (hd : 2 ≤ d) (y15_1 : Int32) {post : Mm → Prop} {kx : Mm → Int32 → Prop} {o : Nat → Int64} {D : Nat → UInt64} (O : ab_Ok X g cX1_insert RX1) (I : ab_I X l tk_strs 3 none yX1_insert.name d 0 0) (hk : ∀ (V : Mm) (x15_2 : Int32), kx V x15_2 → Ab X g 0 0 (tk_Q X g (tk_V g (fun u => ∃ V : Mm, u = SW V o D ∧ post V)) (fun _ _ => False) 0 0) 58 [some (.ref (36)), some (.int (y15_1)), some (.int (x15_2))] [] (SW V o D)) : ∀ (n : Nat) (V : Mm) (x15_2 : Int32), wp_X1_insert_L15 y15_1 post kx n V x15_2 → Ab X g 0 0 (tk_Q X g (tk_V g (fun u => ∃ V : Mm, u = SW V o D ∧ post V)) (fun _ _ => False) 0 0) 15 [some (.ref (36)), some (.int (y15_1)), some (.int (x15_2))] [] (SW V o D) := by
  intro n
  induction n with
  | zero => intro V x15_2 h; exact h.elim
  | succ n ih =>
    intro V x15_2 h
    refine ab_iload_n O 2 dX1_insert_15 rfl rfl ?_
    refine ab_if_le O 58 dX1_insert_16 rfl (fun q2 => ?_) (fun q2 => ?_)
    · have h := h.1 q2
      exact ab_less (hk (V) (x15_2) h) (ab_le_s (ab_le_s (ab_le_s ab_le_0)))
    · have h := h.2 q2
      refine ab_aload_n O 0 dX1_insert_19 rfl rfl ?_
      refine ab_get O fl_X1_29 dX1_insert_20 (at_36 _ _ _) rfl ?_
      refine ab_iload_n O 1 dX1_insert_23 rfl rfl ?_
      refine ab_aload_n O 0 dX1_insert_24 rfl rfl ?_
      refine ab_get O fl_X1_9 dX1_insert_25 (at_36 _ _ _) rfl ?_
      refine ab_iload_n O 2 dX1_insert_28 rfl rfl ?_
      refine ab_iconst O 1 dX1_insert_29 rfl ?_
      refine ab_isub O dX1_insert_30 ?_
      refine ab_iald O dX1_insert_31 (at_37 _ _ _) h.1 ?_
      have h := h.2
      refine ab_callvI O I.2.2.2.2.2.2 (fr := False) (st := []) lk_X1_56 rfl (at_1 _ _ _) dX1_insert_32 (c_X3_comesBefore (d - 1) (by omega) _ O.2.2.2.2.2.2.1 _ _ _ _ _ h) rfl rfl ⟨by rw [I.2.1]; show d - 1 + 1 ≤ d; omega, by rw [I.2.1]; show 8 + (_ + 11) + 36 * (d - 1) ≤ 36 * d; omega⟩ (show 0 ≤ 8 by decide) ⟨by rw [I.2.1]; show 0 + 0 ≤ 0; decide, by rw [I.2.1]; show 0 + 0 ≤ 0; decide⟩ (fun q => q.elim) (fun E u q => q.elim) (fun r4 u hu => ?_)
      obtain ⟨V3, rfl, h⟩ := hu
      refine ab_if_eq O 58 dX1_insert_35 rfl (fun q5 => ?_) (fun q5 => ?_)
      · have h := h.1 q5
        exact ab_less (hk (V3) (x15_2) h) (ab_le_s (ab_le_s (ab_le_s ab_le_0)))
      · have h := h.2 q5
        refine ab_aload_n O 0 dX1_insert_38 rfl rfl ?_
        refine ab_get O fl_X1_9 dX1_insert_39 (at_36 _ _ _) rfl ?_
        refine ab_iload_n O 2 dX1_insert_42 rfl rfl ?_
        refine ab_aload_n O 0 dX1_insert_43 rfl rfl ?_
        refine ab_get O fl_X1_9 dX1_insert_44 (at_36 _ _ _) rfl ?_
        refine ab_iload_n O 2 dX1_insert_47 rfl rfl ?_
        refine ab_iconst O 1 dX1_insert_48 rfl ?_
        refine ab_isub O dX1_insert_49 ?_
        refine ab_iald O dX1_insert_50 (at_37 _ _ _) h.1 ?_
        have h := h.2
        refine ab_iast O dX1_insert_51 (at_37 _ _ _) h.1 ?_
        have h := h.2
        refine ab_eq ?_ rfl rfl rfl (sa_37 _ _ _ _ _).symm
        obtain ⟨V6, eV6⟩ : ∃ z : Mm, z = wr V3 37 (Int32.toNatClampNeg (x15_2)) (V3 37 (Int32.toNatClampNeg ((x15_2 - 1)))) := ⟨_, rfl⟩
        rw [← eV6]
        have h := h V6 eV6
        refine ab_iinc O ((x15_2 + (-1))) dX1_insert_52 rfl rfl ?_
        refine ab_goto O 15 dX1_insert_55 rfl ?_
        exact ab_less (ih (V6) ((x15_2 + (-1))) h) (ab_le_s (ab_le_s (ab_le_s ab_le_0)))
set_option maxHeartbeats 4000000 in
theorem c_X1_insert (d : Nat) (hd : 2 ≤ d) (l : Launch) (hl : l.stackTraces = false) (g : ab_G) (o : Nat → Int64) (D : Nat → UInt64) (a0 : Int32) {V : Mm} {post : Mm → Prop} (h : wp_X1_insert V a0 post) : Ct l g tk_strs False d 0 0 yX1_insert cX1_insert 3 none [.ref 36, .int a0] (SW V o D) (tk_V g (fun u => ∃ V : Mm, u = SW V o D ∧ post V)) (fun _ _ => False) := by
  refine ct_in (by decide +kernel) (show 2 ≤ 3 by decide) (by simp [Value.category]) hl (fun X I O _ => ?_)
  show Ab X g 0 0 _ 0 [some (.ref (36)), some (.int (a0)), none] [] _
  refine ab_aload_n O 0 dX1_insert_0 rfl rfl ?_
  refine ab_get O fl_X1_22 dX1_insert_1 (at_36 _ _ _) rfl ?_
  refine ab_bipush O 60 dX1_insert_4 rfl ?_
  refine ab_icmp_lt O 10 dX1_insert_6 rfl (fun q1 => ?_) (fun q1 => ?_)
  · have h := h.1 q1
    refine ab_aload_n O 0 dX1_insert_10 rfl rfl ?_
    refine ab_get O fl_X1_22 dX1_insert_11 (at_36 _ _ _) rfl ?_
    refine ab_istore_n O 2 dX1_insert_14 rfl (show 2 < 3 by decide) ?_
    obtain ⟨n9, h⟩ := h
    refine ab_less (cl_X1_insert_L15 hd (a0) O I (fun V7 x8 h => ?_) n9 (V) ((V 36 4)) h) (ab_le_s (ab_le_s (ab_le_s ab_le_0)))
    refine ab_aload_n O 0 dX1_insert_58 rfl rfl ?_
    refine ab_get O fl_X1_9 dX1_insert_59 (at_36 _ _ _) rfl ?_
    refine ab_iload_n O 2 dX1_insert_62 rfl rfl ?_
    refine ab_iload_n O 1 dX1_insert_63 rfl rfl ?_
    refine ab_iast O dX1_insert_64 (at_37 _ _ _) h.1 ?_
    have h := h.2
    refine ab_eq ?_ rfl rfl rfl (sa_37 _ _ _ _ _).symm
    obtain ⟨V9, eV9⟩ : ∃ z : Mm, z = wr V7 37 (Int32.toNatClampNeg (x8)) a0 := ⟨_, rfl⟩
    rw [← eV9]
    have h := h V9 eV9
    refine ab_aload_n O 0 dX1_insert_65 rfl rfl ?_
    refine ab_dup O dX1_insert_66 rfl ?_
    refine ab_get O fl_X1_22 dX1_insert_67 (at_36 _ _ _) rfl ?_
    refine ab_iconst O 1 dX1_insert_70 rfl ?_
    refine ab_iadd O dX1_insert_71 ?_
    refine ab_put O fl_X1_22 cl_X1 dX1_insert_72 (at_36 _ _ _) rfl .int (by decide +kernel) (fun _ => rfl) (fun _ => rfl) (show 4 < 6 by decide) ?_
    refine ab_eq ?_ rfl rfl rfl (sf_36_4 _ _ _ _).symm
    obtain ⟨V10, eV10⟩ : ∃ z : Mm, z = wr V9 36 4 ((V9 36 4) + 1) := ⟨_, rfl⟩
    rw [← eV10]
    have h := h V10 eV10
    exact ab_return O I dX1_insert_75 (by decide) (by decide) ⟨_, rfl, h⟩
  · have h := h.2 q1
    exact ab_return O I dX1_insert_9 (by decide) (by decide) ⟨_, rfl, h⟩

def wp_X1_sortPresentBut_L2 (y2_1 : Int32) (post : Mm → Prop) (kx : Mm → Int32 → Prop) : Nat → Mm → Int32 → Prop
  | 0, _, _ => False
  | n2 + 1, V, x2_2 => (wp_X3_edgeCount V (fun (r2 : Int32) (V1 : Mm) => ((r2 ≤ x2_2 → kx (V1) (x2_2)) ∧ (¬ r2 ≤ x2_2 → ((x2_2 = y2_1 → wp_X1_sortPresentBut_L2 y2_1 post kx n2 (V1) ((x2_2 + (1)))) ∧ (¬ x2_2 = y2_1 → (wp_X3_isPresent V1 (x2_2) (fun (r6 : Int32) (V5 : Mm) => ((r6 = 0 → wp_X1_sortPresentBut_L2 y2_1 post kx n2 (V5) ((x2_2 + (1)))) ∧ (¬ r6 = 0 → (wp_X1_insert V5 (x2_2) (fun (V8 : Mm) => wp_X1_sortPresentBut_L2 y2_1 post kx n2 (V8) ((x2_2 + (1)))))))))))))))

def wp_X1_sortPresentBut (V : Mm) (a0 : Int32) (post : Mm → Prop) : Prop := (∃ m2 : Nat, wp_X1_sortPresentBut_L2 (a0) post (fun (V9 : Mm) (x10 : Int32) => post V9) m2 (V) (0))
set_option maxHeartbeats 4000000 in
theorem cl_X1_sortPresentBut_L2 {X : ab_M} {g : ab_G} {l : Launch} {d : Nat} (hd : 3 ≤ d) (y2_1 : Int32) {post : Mm → Prop} {kx : Mm → Int32 → Prop} {o : Nat → Int64} {D : Nat → UInt64} (O : ab_Ok X g cX1_sortPresentBut RX1) (I : ab_I X l tk_strs 3 none yX1_sortPresentBut.name d 0 0) (hk : ∀ (V : Mm) (x2_2 : Int32), kx V x2_2 → Ab X g 0 0 (tk_Q X g (tk_V g (fun u => ∃ V : Mm, u = SW V o D ∧ post V)) (fun _ _ => False) 0 0) 40 [none, none, none] [] (SW V o D)) : ∀ (n : Nat) (V : Mm) (x2_2 : Int32), wp_X1_sortPresentBut_L2 y2_1 post kx n V x2_2 → Ab X g 0 0 (tk_Q X g (tk_V g (fun u => ∃ V : Mm, u = SW V o D ∧ post V)) (fun _ _ => False) 0 0) 2 [some (.ref (36)), some (.int (y2_1)), some (.int (x2_2))] [] (SW V o D) := by
  intro n
  induction n with
  | zero => intro V x2_2 h; exact h.elim
  | succ n ih =>
    intro V x2_2 h
    refine ab_iload_n O 2 dX1_sortPresentBut_2 rfl rfl ?_
    refine ab_aload_n O 0 dX1_sortPresentBut_3 rfl rfl ?_
    refine ab_get O fl_X1_29 dX1_sortPresentBut_4 (at_36 _ _ _) rfl ?_
    refine ab_callvI O I.2.2.2.2.2.2 (fr := False) (st := [.int (x2_2)]) lk_X1_43 rfl (at_1 _ _ _) dX1_sortPresentBut_7 (c_X3_edgeCount (d - 1) (by omega) _ O.2.2.2.2.2.2.1 _ _ _ h) rfl rfl ⟨by rw [I.2.1]; show d - 1 + 1 ≤ d; omega, by rw [I.2.1]; show 8 + (_ + 11) + 36 * (d - 1) ≤ 36 * d; omega⟩ (show 1 ≤ 8 by decide) ⟨by rw [I.2.1]; show 0 + 0 ≤ 0; decide, by rw [I.2.1]; show 0 + 0 ≤ 0; decide⟩ (fun q => q.elim) (fun E u q => q.elim) (fun r2 u hu => ?_)
    obtain ⟨V1, rfl, h⟩ := hu
    refine ab_icmp_ge O 40 dX1_sortPresentBut_10 rfl (fun q3 => ?_) (fun q3 => ?_)
    · have h := h.1 q3
      exact ab_less (hk (V1) (x2_2) h) (ab_le_n (ab_le_n (ab_le_n ab_le_0)))
    · have h := h.2 q3
      refine ab_iload_n O 2 dX1_sortPresentBut_13 rfl rfl ?_
      refine ab_iload_n O 1 dX1_sortPresentBut_14 rfl rfl ?_
      refine ab_icmp_eq O 34 dX1_sortPresentBut_15 rfl (fun q4 => ?_) (fun q4 => ?_)
      · have h := h.1 q4
        refine ab_iinc O ((x2_2 + (1))) dX1_sortPresentBut_34 rfl rfl ?_
        refine ab_goto O 2 dX1_sortPresentBut_37 rfl ?_
        exact ab_less (ih (V1) ((x2_2 + (1))) h) (ab_le_s (ab_le_s (ab_le_s ab_le_0)))
      · have h := h.2 q4
        refine ab_aload_n O 0 dX1_sortPresentBut_18 rfl rfl ?_
        refine ab_get O fl_X1_29 dX1_sortPresentBut_19 (at_36 _ _ _) rfl ?_
        refine ab_iload_n O 2 dX1_sortPresentBut_22 rfl rfl ?_
        refine ab_callvI O I.2.2.2.2.2.2 (fr := False) (st := []) lk_X1_49 rfl (at_1 _ _ _) dX1_sortPresentBut_23 (c_X3_isPresent (d - 1) (by omega) _ O.2.2.2.2.2.2.1 _ _ _ _ h) rfl rfl ⟨by rw [I.2.1]; show d - 1 + 1 ≤ d; omega, by rw [I.2.1]; show 8 + (_ + 11) + 36 * (d - 1) ≤ 36 * d; omega⟩ (show 0 ≤ 8 by decide) ⟨by rw [I.2.1]; show 0 + 0 ≤ 0; decide, by rw [I.2.1]; show 0 + 0 ≤ 0; decide⟩ (fun q => q.elim) (fun E u q => q.elim) (fun r6 u hu => ?_)
        obtain ⟨V5, rfl, h⟩ := hu
        refine ab_if_eq O 34 dX1_sortPresentBut_26 rfl (fun q7 => ?_) (fun q7 => ?_)
        · have h := h.1 q7
          refine ab_iinc O ((x2_2 + (1))) dX1_sortPresentBut_34 rfl rfl ?_
          refine ab_goto O 2 dX1_sortPresentBut_37 rfl ?_
          exact ab_less (ih (V5) ((x2_2 + (1))) h) (ab_le_s (ab_le_s (ab_le_s ab_le_0)))
        · have h := h.2 q7
          refine ab_aload_n O 0 dX1_sortPresentBut_29 rfl rfl ?_
          refine ab_iload_n O 2 dX1_sortPresentBut_30 rfl rfl ?_
          refine ab_callvV O I.2.2.2.2.2.2 (fr := False) (st := []) lk_X1_53 rfl (at_36 _ _ _) dX1_sortPresentBut_31 (c_X1_insert (d - 1) (by omega) _ O.2.2.2.2.2.2.1 _ _ _ _ h) rfl rfl ⟨by rw [I.2.1]; show d - 1 + 1 ≤ d; omega, by rw [I.2.1]; show 8 + (_ + 11) + 36 * (d - 1) ≤ 36 * d; omega⟩ (show 0 ≤ 8 by decide) ⟨by rw [I.2.1]; show 0 + 0 ≤ 0; decide, by rw [I.2.1]; show 0 + 0 ≤ 0; decide⟩ (fun q => q.elim) (fun E u q => q.elim) (fun u hu => ?_)
          obtain ⟨V8, rfl, h⟩ := hu
          refine ab_iinc O ((x2_2 + (1))) dX1_sortPresentBut_34 rfl rfl ?_
          refine ab_goto O 2 dX1_sortPresentBut_37 rfl ?_
          exact ab_less (ih (V8) ((x2_2 + (1))) h) (ab_le_s (ab_le_s (ab_le_s ab_le_0)))
set_option maxHeartbeats 4000000 in
theorem c_X1_sortPresentBut (d : Nat) (hd : 3 ≤ d) (l : Launch) (hl : l.stackTraces = false) (g : ab_G) (o : Nat → Int64) (D : Nat → UInt64) (a0 : Int32) {V : Mm} {post : Mm → Prop} (h : wp_X1_sortPresentBut V a0 post) : Ct l g tk_strs False d 0 0 yX1_sortPresentBut cX1_sortPresentBut 3 none [.ref 36, .int a0] (SW V o D) (tk_V g (fun u => ∃ V : Mm, u = SW V o D ∧ post V)) (fun _ _ => False) := by
  refine ct_in (by decide +kernel) (show 2 ≤ 3 by decide) (by simp [Value.category]) hl (fun X I O _ => ?_)
  show Ab X g 0 0 _ 0 [some (.ref (36)), some (.int (a0)), none] [] _
  refine ab_iconst O 0 dX1_sortPresentBut_0 rfl ?_
  refine ab_istore_n O 2 dX1_sortPresentBut_1 rfl (show 2 < 3 by decide) ?_
  obtain ⟨n9, h⟩ := h
  refine ab_less (cl_X1_sortPresentBut_L2 hd (a0) O I (fun V9 x10 h => ?_) n9 (V) (0) h) (ab_le_s (ab_le_s (ab_le_s ab_le_0)))
  exact ab_return O I dX1_sortPresentBut_40 (by decide) (by decide) ⟨_, rfl, h⟩

def wp_X1_groupOf (V : Mm) (a0 : Int32) (post : Int32 → Mm → Prop) : Prop := (wp_X3_hasVertex V (a0) (fun (r2 : Int32) (V1 : Mm) => ((r2 = 0 → post (-1) V1) ∧ (¬ r2 = 0 → (vp_in a0 20 ∧ post (V1 38 (Int32.toNatClampNeg (a0))) V1)))))
set_option maxHeartbeats 4000000 in
theorem c_X1_groupOf (d : Nat) (hd : 1 ≤ d) (l : Launch) (hl : l.stackTraces = false) (g : ab_G) (o : Nat → Int64) (D : Nat → UInt64) (a0 : Int32) {V : Mm} {post : Int32 → Mm → Prop} (h : wp_X1_groupOf V a0 post) : Ct l g tk_strs False d 0 0 yX1_groupOf cX1_groupOf 2 (some .int) [.ref 36, .int a0] (SW V o D) (tk_I g (fun r u => ∃ V : Mm, u = SW V o D ∧ post r V)) (fun _ _ => False) := by
  refine ct_in (by decide +kernel) (show 2 ≤ 2 by decide) (by simp [Value.category]) hl (fun X I O _ => ?_)
  show Ab X g 0 0 _ 0 [some (.ref (36)), some (.int (a0))] [] _
  refine ab_aload_n O 0 dX1_groupOf_0 rfl rfl ?_
  refine ab_get O fl_X1_29 dX1_groupOf_1 (at_36 _ _ _) rfl ?_
  refine ab_iload_n O 1 dX1_groupOf_4 rfl rfl ?_
  refine ab_callvI O I.2.2.2.2.2.2 (fr := False) (st := []) lk_X1_76 rfl (at_1 _ _ _) dX1_groupOf_5 (c_X3_hasVertex (d - 1) (by omega) _ O.2.2.2.2.2.2.1 _ _ _ _ h) rfl rfl ⟨by rw [I.2.1]; show d - 1 + 1 ≤ d; omega, by rw [I.2.1]; show 8 + (_ + 11) + 36 * (d - 1) ≤ 36 * d; omega⟩ (show 0 ≤ 8 by decide) ⟨by rw [I.2.1]; show 0 + 0 ≤ 0; decide, by rw [I.2.1]; show 0 + 0 ≤ 0; decide⟩ (fun q => q.elim) (fun E u q => q.elim) (fun r2 u hu => ?_)
  obtain ⟨V1, rfl, h⟩ := hu
  refine ab_if_eq O 20 dX1_groupOf_8 rfl (fun q3 => ?_) (fun q3 => ?_)
  · have h := h.1 q3
    refine ab_iconst O (-1) dX1_groupOf_20 rfl ?_
    exact ab_ireturn O I dX1_groupOf_21 (by decide) (by decide) (by rfl) ⟨_, rfl, h⟩
  · have h := h.2 q3
    refine ab_aload_n O 0 dX1_groupOf_11 rfl rfl ?_
    refine ab_get O fl_X1_15 dX1_groupOf_12 (at_36 _ _ _) rfl ?_
    refine ab_iload_n O 1 dX1_groupOf_15 rfl rfl ?_
    refine ab_iald O dX1_groupOf_16 (at_38 _ _ _) h.1 ?_
    have h := h.2
    refine ab_goto O 21 dX1_groupOf_17 rfl ?_
    exact ab_ireturn O I dX1_groupOf_21 (by decide) (by decide) (by rfl) ⟨_, rfl, h⟩

def wp_X1_chooseIfItJoins_L70 (y70_2 y70_3 : Int32) (post : Mm → Prop) (kx : Mm → Int32 → Prop) : Nat → Mm → Int32 → Prop
  | 0, _, _ => False
  | n70 + 1, V, x70_4 => ((20 ≤ x70_4 → kx (V) (x70_4)) ∧ (¬ 20 ≤ x70_4 → (vp_in x70_4 20 ∧ (((V 38 (Int32.toNatClampNeg (x70_4))) = y70_2 → (vp_in x70_4 20 ∧ ∀ V19 : Mm, V19 = wr V 38 (Int32.toNatClampNeg (x70_4)) y70_3 → wp_X1_chooseIfItJoins_L70 y70_2 y70_3 post kx n70 (V19) ((x70_4 + (1))))) ∧ (¬ (V 38 (Int32.toNatClampNeg (x70_4))) = y70_2 → wp_X1_chooseIfItJoins_L70 y70_2 y70_3 post kx n70 (V) ((x70_4 + (1))))))))

def wp_X1_chooseIfItJoins (V : Mm) (a0 : Int32) (post : Mm → Prop) : Prop := (wp_X3_firstEnd V (a0) (fun (r2 : Int32) (V1 : Mm) => (wp_X1_groupOf V1 (r2) (fun (r4 : Int32) (V3 : Mm) => (wp_X3_secondEnd V3 (a0) (fun (r6 : Int32) (V5 : Mm) => (wp_X1_groupOf V5 (r6) (fun (r8 : Int32) (V7 : Mm) => (wp_X3_hasEdge V7 (a0) (fun (r10 : Int32) (V9 : Mm) => ((r10 = 0 → post V9) ∧ (¬ r10 = 0 → ((r4 = r8 → post V9) ∧ (¬ r4 = r8 → (vp_in a0 60 ∧ ∀ V13 : Mm, V13 = wr V9 39 (Int32.toNatClampNeg (a0)) 1 → (wp_X3_weightOf V13 (a0) (fun (r15 : Int32) (V14 : Mm) => (∀ V16 : Mm, V16 = wr V14 36 5 ((V13 36 5) + r15) → (∃ m70 : Nat, wp_X1_chooseIfItJoins_L70 (r4) (r8) post (fun (V20 : Mm) (x21 : Int32) => post V20) m70 (V16) (0))))))))))))))))))))
set_option maxHeartbeats 4000000 in
theorem cl_X1_chooseIfItJoins_L70 {X : ab_M} {g : ab_G} {l : Launch} {d : Nat} (hd : 2 ≤ d) (y70_2 y70_3 : Int32) {post : Mm → Prop} {kx : Mm → Int32 → Prop} {o : Nat → Int64} {D : Nat → UInt64} (O : ab_Ok X g cX1_chooseIfItJoins RX1) (I : ab_I X l tk_strs 5 none yX1_chooseIfItJoins.name d 0 0) (hk : ∀ (V : Mm) (x70_4 : Int32), kx V x70_4 → Ab X g 0 0 (tk_Q X g (tk_V g (fun u => ∃ V : Mm, u = SW V o D ∧ post V)) (fun _ _ => False) 0 0) 102 [none, none, none, none, none] [] (SW V o D)) : ∀ (n : Nat) (V : Mm) (x70_4 : Int32), wp_X1_chooseIfItJoins_L70 y70_2 y70_3 post kx n V x70_4 → Ab X g 0 0 (tk_Q X g (tk_V g (fun u => ∃ V : Mm, u = SW V o D ∧ post V)) (fun _ _ => False) 0 0) 70 [some (.ref (36)), none, some (.int (y70_2)), some (.int (y70_3)), some (.int (x70_4))] [] (SW V o D) := by
  intro n
  induction n with
  | zero => intro V x70_4 h; exact h.elim
  | succ n ih =>
    intro V x70_4 h
    refine ab_iload O dX1_chooseIfItJoins_70 rfl ?_
    refine ab_bipush O 20 dX1_chooseIfItJoins_72 rfl ?_
    refine ab_icmp_ge O 102 dX1_chooseIfItJoins_74 rfl (fun q17 => ?_) (fun q17 => ?_)
    · have h := h.1 q17
      exact ab_less (hk (V) (x70_4) h) (ab_le_n (ab_le_n (ab_le_n (ab_le_n (ab_le_n ab_le_0)))))
    · have h := h.2 q17
      refine ab_aload_n O 0 dX1_chooseIfItJoins_77 rfl rfl ?_
      refine ab_get O fl_X1_15 dX1_chooseIfItJoins_78 (at_36 _ _ _) rfl ?_
      refine ab_iload O dX1_chooseIfItJoins_81 rfl ?_
      refine ab_iald O dX1_chooseIfItJoins_83 (at_38 _ _ _) h.1 ?_
      have h := h.2
      refine ab_iload_n O 2 dX1_chooseIfItJoins_84 rfl rfl ?_
      refine ab_icmp_ne O 96 dX1_chooseIfItJoins_85 rfl (fun q18 => ?_) (fun q18 => ?_)
      · have h := h.2 q18
        refine ab_iinc O ((x70_4 + (1))) dX1_chooseIfItJoins_96 rfl rfl ?_
        refine ab_goto O 70 dX1_chooseIfItJoins_99 rfl ?_
        exact ab_less (ih (V) ((x70_4 + (1))) h) (ab_le_s (ab_le_n (ab_le_s (ab_le_s (ab_le_s ab_le_0)))))
      · have h := h.1 q18
        refine ab_aload_n O 0 dX1_chooseIfItJoins_88 rfl rfl ?_
        refine ab_get O fl_X1_15 dX1_chooseIfItJoins_89 (at_36 _ _ _) rfl ?_
        refine ab_iload O dX1_chooseIfItJoins_92 rfl ?_
        refine ab_iload_n O 3 dX1_chooseIfItJoins_94 rfl rfl ?_
        refine ab_iast O dX1_chooseIfItJoins_95 (at_38 _ _ _) h.1 ?_
        have h := h.2
        refine ab_eq ?_ rfl rfl rfl (sa_38 _ _ _ _ _).symm
        obtain ⟨V19, eV19⟩ : ∃ z : Mm, z = wr V 38 (Int32.toNatClampNeg (x70_4)) y70_3 := ⟨_, rfl⟩
        rw [← eV19]
        have h := h V19 eV19
        refine ab_iinc O ((x70_4 + (1))) dX1_chooseIfItJoins_96 rfl rfl ?_
        refine ab_goto O 70 dX1_chooseIfItJoins_99 rfl ?_
        exact ab_less (ih (V19) ((x70_4 + (1))) h) (ab_le_s (ab_le_n (ab_le_s (ab_le_s (ab_le_s ab_le_0)))))
set_option maxHeartbeats 4000000 in
theorem c_X1_chooseIfItJoins (d : Nat) (hd : 2 ≤ d) (l : Launch) (hl : l.stackTraces = false) (g : ab_G) (o : Nat → Int64) (D : Nat → UInt64) (a0 : Int32) {V : Mm} {post : Mm → Prop} (h : wp_X1_chooseIfItJoins V a0 post) : Ct l g tk_strs False d 0 0 yX1_chooseIfItJoins cX1_chooseIfItJoins 5 none [.ref 36, .int a0] (SW V o D) (tk_V g (fun u => ∃ V : Mm, u = SW V o D ∧ post V)) (fun _ _ => False) := by
  refine ct_in (by decide +kernel) (show 2 ≤ 5 by decide) (by simp [Value.category]) hl (fun X I O _ => ?_)
  show Ab X g 0 0 _ 0 [some (.ref (36)), some (.int (a0)), none, none, none] [] _
  refine ab_aload_n O 0 dX1_chooseIfItJoins_0 rfl rfl ?_
  refine ab_aload_n O 0 dX1_chooseIfItJoins_1 rfl rfl ?_
  refine ab_get O fl_X1_29 dX1_chooseIfItJoins_2 (at_36 _ _ _) rfl ?_
  refine ab_iload_n O 1 dX1_chooseIfItJoins_5 rfl rfl ?_
  refine ab_callvI O I.2.2.2.2.2.2 (fr := False) (st := [.ref (36)]) lk_X1_60 rfl (at_1 _ _ _) dX1_chooseIfItJoins_6 (c_X3_firstEnd (d - 1) (by omega) _ O.2.2.2.2.2.2.1 _ _ _ _ h) rfl rfl ⟨by rw [I.2.1]; show d - 1 + 1 ≤ d; omega, by rw [I.2.1]; show 8 + (_ + 11) + 36 * (d - 1) ≤ 36 * d; omega⟩ (show 1 ≤ 8 by decide) ⟨by rw [I.2.1]; show 0 + 0 ≤ 0; decide, by rw [I.2.1]; show 0 + 0 ≤ 0; decide⟩ (fun q => q.elim) (fun E u q => q.elim) (fun r2 u hu => ?_)
  obtain ⟨V1, rfl, h⟩ := hu
  refine ab_callvI O I.2.2.2.2.2.2 (fr := False) (st := []) lk_X1_64 rfl (at_36 _ _ _) dX1_chooseIfItJoins_9 (c_X1_groupOf (d - 1) (by omega) _ O.2.2.2.2.2.2.1 _ _ _ _ h) rfl rfl ⟨by rw [I.2.1]; show d - 1 + 1 ≤ d; omega, by rw [I.2.1]; show 8 + (_ + 11) + 36 * (d - 1) ≤ 36 * d; omega⟩ (show 0 ≤ 8 by decide) ⟨by rw [I.2.1]; show 0 + 0 ≤ 0; decide, by rw [I.2.1]; show 0 + 0 ≤ 0; decide⟩ (fun q => q.elim) (fun E u q => q.elim) (fun r4 u hu => ?_)
  obtain ⟨V3, rfl, h⟩ := hu
  refine ab_istore_n O 2 dX1_chooseIfItJoins_12 rfl (show 2 < 5 by decide) ?_
  refine ab_aload_n O 0 dX1_chooseIfItJoins_13 rfl rfl ?_
  refine ab_aload_n O 0 dX1_chooseIfItJoins_14 rfl rfl ?_
  refine ab_get O fl_X1_29 dX1_chooseIfItJoins_15 (at_36 _ _ _) rfl ?_
  refine ab_iload_n O 1 dX1_chooseIfItJoins_18 rfl rfl ?_
  refine ab_callvI O I.2.2.2.2.2.2 (fr := False) (st := [.ref (36)]) lk_X1_67 rfl (at_1 _ _ _) dX1_chooseIfItJoins_19 (c_X3_secondEnd (d - 1) (by omega) _ O.2.2.2.2.2.2.1 _ _ _ _ h) rfl rfl ⟨by rw [I.2.1]; show d - 1 + 1 ≤ d; omega, by rw [I.2.1]; show 8 + (_ + 11) + 36 * (d - 1) ≤ 36 * d; omega⟩ (show 1 ≤ 8 by decide) ⟨by rw [I.2.1]; show 0 + 0 ≤ 0; decide, by rw [I.2.1]; show 0 + 0 ≤ 0; decide⟩ (fun q => q.elim) (fun E u q => q.elim) (fun r6 u hu => ?_)
  obtain ⟨V5, rfl, h⟩ := hu
  refine ab_callvI O I.2.2.2.2.2.2 (fr := False) (st := []) lk_X1_64 rfl (at_36 _ _ _) dX1_chooseIfItJoins_22 (c_X1_groupOf (d - 1) (by omega) _ O.2.2.2.2.2.2.1 _ _ _ _ h) rfl rfl ⟨by rw [I.2.1]; show d - 1 + 1 ≤ d; omega, by rw [I.2.1]; show 8 + (_ + 11) + 36 * (d - 1) ≤ 36 * d; omega⟩ (show 0 ≤ 8 by decide) ⟨by rw [I.2.1]; show 0 + 0 ≤ 0; decide, by rw [I.2.1]; show 0 + 0 ≤ 0; decide⟩ (fun q => q.elim) (fun E u q => q.elim) (fun r8 u hu => ?_)
  obtain ⟨V7, rfl, h⟩ := hu
  refine ab_istore_n O 3 dX1_chooseIfItJoins_25 rfl (show 3 < 5 by decide) ?_
  refine ab_aload_n O 0 dX1_chooseIfItJoins_26 rfl rfl ?_
  refine ab_get O fl_X1_29 dX1_chooseIfItJoins_27 (at_36 _ _ _) rfl ?_
  refine ab_iload_n O 1 dX1_chooseIfItJoins_30 rfl rfl ?_
  refine ab_callvI O I.2.2.2.2.2.2 (fr := False) (st := []) lk_X1_70 rfl (at_1 _ _ _) dX1_chooseIfItJoins_31 (c_X3_hasEdge (d - 1) (by omega) _ O.2.2.2.2.2.2.1 _ _ _ _ h) rfl rfl ⟨by rw [I.2.1]; show d - 1 + 1 ≤ d; omega, by rw [I.2.1]; show 8 + (_ + 11) + 36 * (d - 1) ≤ 36 * d; omega⟩ (show 0 ≤ 8 by decide) ⟨by rw [I.2.1]; show 0 + 0 ≤ 0; decide, by rw [I.2.1]; show 0 + 0 ≤ 0; decide⟩ (fun q => q.elim) (fun E u q => q.elim) (fun r10 u hu => ?_)
  obtain ⟨V9, rfl, h⟩ := hu
  refine ab_if_eq O 42 dX1_chooseIfItJoins_34 rfl (fun q11 => ?_) (fun q11 => ?_)
  · have h := h.1 q11
    exact ab_return O I dX1_chooseIfItJoins_42 (by decide) (by decide) ⟨_, rfl, h⟩
  · have h := h.2 q11
    refine ab_iload_n O 2 dX1_chooseIfItJoins_37 rfl rfl ?_
    refine ab_iload_n O 3 dX1_chooseIfItJoins_38 rfl rfl ?_
    refine ab_icmp_ne O 43 dX1_chooseIfItJoins_39 rfl (fun q12 => ?_) (fun q12 => ?_)
    · have h := h.2 q12
      refine ab_aload_n O 0 dX1_chooseIfItJoins_43 rfl rfl ?_
      refine ab_get O fl_X1_18 dX1_chooseIfItJoins_44 (at_36 _ _ _) rfl ?_
      refine ab_iload_n O 1 dX1_chooseIfItJoins_47 rfl rfl ?_
      refine ab_iconst O 1 dX1_chooseIfItJoins_48 rfl ?_
      refine ab_zast O dX1_chooseIfItJoins_49 (at_39 _ _ _) h.1 ?_
      have h := h.2
      refine ab_eq ?_ rfl rfl rfl (sa_39 _ _ _ _ _).symm
      show Ab _ _ _ _ _ _ _ _ (SW (wr V9 39 (Int32.toNatClampNeg (a0)) 1) _ _)
      obtain ⟨V13, eV13⟩ : ∃ z : Mm, z = wr V9 39 (Int32.toNatClampNeg (a0)) 1 := ⟨_, rfl⟩
      rw [← eV13]
      have h := h V13 eV13
      refine ab_aload_n O 0 dX1_chooseIfItJoins_50 rfl rfl ?_
      refine ab_dup O dX1_chooseIfItJoins_51 rfl ?_
      refine ab_get O fl_X1_26 dX1_chooseIfItJoins_52 (at_36 _ _ _) rfl ?_
      refine ab_aload_n O 0 dX1_chooseIfItJoins_55 rfl rfl ?_
      refine ab_get O fl_X1_29 dX1_chooseIfItJoins_56 (at_36 _ _ _) rfl ?_
      refine ab_iload_n O 1 dX1_chooseIfItJoins_59 rfl rfl ?_
      refine ab_callvI O I.2.2.2.2.2.2 (fr := False) (st := [.int ((V13 36 5)), .ref (36)]) lk_X1_73 rfl (at_1 _ _ _) dX1_chooseIfItJoins_60 (c_X3_weightOf (d - 1) (by omega) _ O.2.2.2.2.2.2.1 _ _ _ _ h) rfl rfl ⟨by rw [I.2.1]; show d - 1 + 1 ≤ d; omega, by rw [I.2.1]; show 8 + (_ + 11) + 36 * (d - 1) ≤ 36 * d; omega⟩ (show 2 ≤ 8 by decide) ⟨by rw [I.2.1]; show 0 + 0 ≤ 0; decide, by rw [I.2.1]; show 0 + 0 ≤ 0; decide⟩ (fun q => q.elim) (fun E u q => q.elim) (fun r15 u hu => ?_)
      obtain ⟨V14, rfl, h⟩ := hu
      refine ab_iadd O dX1_chooseIfItJoins_63 ?_
      refine ab_put O fl_X1_26 cl_X1 dX1_chooseIfItJoins_64 (at_36 _ _ _) rfl .int (by decide +kernel) (fun _ => rfl) (fun _ => rfl) (show 5 < 6 by decide) ?_
      refine ab_eq ?_ rfl rfl rfl (sf_36_5 _ _ _ _).symm
      obtain ⟨V16, eV16⟩ : ∃ z : Mm, z = wr V14 36 5 ((V13 36 5) + r15) := ⟨_, rfl⟩
      rw [← eV16]
      have h := h V16 eV16
      refine ab_iconst O 0 dX1_chooseIfItJoins_67 rfl ?_
      refine ab_istore O dX1_chooseIfItJoins_68 (show 4 < 5 by decide) ?_
      obtain ⟨n9, h⟩ := h
      refine ab_less (cl_X1_chooseIfItJoins_L70 hd (r4) (r8) O I (fun V20 x21 h => ?_) n9 (V16) (0) h) (ab_le_s (ab_le_n (ab_le_s (ab_le_s (ab_le_s ab_le_0)))))
      exact ab_return O I dX1_chooseIfItJoins_102 (by decide) (by decide) ⟨_, rfl, h⟩
    · have h := h.1 q12
      exact ab_return O I dX1_chooseIfItJoins_42 (by decide) (by decide) ⟨_, rfl, h⟩

def wp_X1_build_L11 (post : Mm → Prop) (kx : Mm → Int32 → Prop) : Nat → Mm → Int32 → Prop
  | 0, _, _ => False
  | n11 + 1, V, x11_2 => (((V 36 4) ≤ x11_2 → kx (V) (x11_2)) ∧ (¬ (V 36 4) ≤ x11_2 → ((60 ≤ x11_2 → kx (V) (x11_2)) ∧ (¬ 60 ≤ x11_2 → (vp_in x11_2 60 ∧ (wp_X1_chooseIfItJoins V ((V 37 (Int32.toNatClampNeg (x11_2)))) (fun (V5 : Mm) => wp_X1_build_L11 post kx n11 (V5) ((x11_2 + (1))))))))))

def wp_X1_build (V : Mm) (a0 : Int32) (post : Mm → Prop) : Prop := (wp_X1_clear V (fun (V1 : Mm) => (wp_X1_sortPresentBut V1 (a0) (fun (V2 : Mm) => (∃ m11 : Nat, wp_X1_build_L11 post (fun (V6 : Mm) (x7 : Int32) => post V6) m11 (V2) (0))))))
set_option maxHeartbeats 4000000 in
theorem cl_X1_build_L11 {X : ab_M} {g : ab_G} {l : Launch} {d : Nat} (hd : 4 ≤ d) {post : Mm → Prop} {kx : Mm → Int32 → Prop} {o : Nat → Int64} {D : Nat → UInt64} (O : ab_Ok X g cX1_build RX1) (I : ab_I X l tk_strs 3 none yX1_build.name d 0 0) (hk : ∀ (V : Mm) (x11_2 : Int32), kx V x11_2 → Ab X g 0 0 (tk_Q X g (tk_V g (fun u => ∃ V : Mm, u = SW V o D ∧ post V)) (fun _ _ => False) 0 0) 41 [none, none, none] [] (SW V o D)) : ∀ (n : Nat) (V : Mm) (x11_2 : Int32), wp_X1_build_L11 post kx n V x11_2 → Ab X g 0 0 (tk_Q X g (tk_V g (fun u => ∃ V : Mm, u = SW V o D ∧ post V)) (fun _ _ => False) 0 0) 11 [some (.ref (36)), none, some (.int (x11_2))] [] (SW V o D) := by
  intro n
  induction n with
  | zero => intro V x11_2 h; exact h.elim
  | succ n ih =>
    intro V x11_2 h
    refine ab_iload_n O 2 dX1_build_11 rfl rfl ?_
    refine ab_aload_n O 0 dX1_build_12 rfl rfl ?_
    refine ab_get O fl_X1_22 dX1_build_13 (at_36 _ _ _) rfl ?_
    refine ab_icmp_ge O 41 dX1_build_16 rfl (fun q3 => ?_) (fun q3 => ?_)
    · have h := h.1 q3
      exact ab_less (hk (V) (x11_2) h) (ab_le_n (ab_le_n (ab_le_n ab_le_0)))
    · have h := h.2 q3
      refine ab_iload_n O 2 dX1_build_19 rfl rfl ?_
      refine ab_bipush O 60 dX1_build_20 rfl ?_
      refine ab_icmp_ge O 41 dX1_build_22 rfl (fun q4 => ?_) (fun q4 => ?_)
      · have h := h.1 q4
        exact ab_less (hk (V) (x11_2) h) (ab_le_n (ab_le_n (ab_le_n ab_le_0)))
      · have h := h.2 q4
        refine ab_aload_n O 0 dX1_build_25 rfl rfl ?_
        refine ab_aload_n O 0 dX1_build_26 rfl rfl ?_
        refine ab_get O fl_X1_9 dX1_build_27 (at_36 _ _ _) rfl ?_
        refine ab_iload_n O 2 dX1_build_30 rfl rfl ?_
        refine ab_iald O dX1_build_31 (at_37 _ _ _) h.1 ?_
        have h := h.2
        refine ab_callvV O I.2.2.2.2.2.2 (fr := False) (st := []) lk_X1_40 rfl (at_36 _ _ _) dX1_build_32 (c_X1_chooseIfItJoins (d - 1) (by omega) _ O.2.2.2.2.2.2.1 _ _ _ _ h) rfl rfl ⟨by rw [I.2.1]; show d - 1 + 1 ≤ d; omega, by rw [I.2.1]; show 8 + (_ + 11) + 36 * (d - 1) ≤ 36 * d; omega⟩ (show 0 ≤ 8 by decide) ⟨by rw [I.2.1]; show 0 + 0 ≤ 0; decide, by rw [I.2.1]; show 0 + 0 ≤ 0; decide⟩ (fun q => q.elim) (fun E u q => q.elim) (fun u hu => ?_)
        obtain ⟨V5, rfl, h⟩ := hu
        refine ab_iinc O ((x11_2 + (1))) dX1_build_35 rfl rfl ?_
        refine ab_goto O 11 dX1_build_38 rfl ?_
        exact ab_less (ih (V5) ((x11_2 + (1))) h) (ab_le_s (ab_le_n (ab_le_s ab_le_0)))
set_option maxHeartbeats 4000000 in
theorem c_X1_build (d : Nat) (hd : 4 ≤ d) (l : Launch) (hl : l.stackTraces = false) (g : ab_G) (o : Nat → Int64) (D : Nat → UInt64) (a0 : Int32) {V : Mm} {post : Mm → Prop} (h : wp_X1_build V a0 post) : Ct l g tk_strs False d 0 0 yX1_build cX1_build 3 none [.ref 36, .int a0] (SW V o D) (tk_V g (fun u => ∃ V : Mm, u = SW V o D ∧ post V)) (fun _ _ => False) := by
  refine ct_in (by decide +kernel) (show 2 ≤ 3 by decide) (by simp [Value.category]) hl (fun X I O _ => ?_)
  show Ab X g 0 0 _ 0 [some (.ref (36)), some (.int (a0)), none] [] _
  refine ab_aload_n O 0 dX1_build_0 rfl rfl ?_
  refine ab_callvV O I.2.2.2.2.2.2 (fr := False) (st := []) lk_X1_33 rfl (at_36 _ _ _) dX1_build_1 (c_X1_clear (d - 1) (by omega) _ O.2.2.2.2.2.2.1 _ _ _ h) rfl rfl ⟨by rw [I.2.1]; show d - 1 + 1 ≤ d; omega, by rw [I.2.1]; show 8 + (_ + 11) + 36 * (d - 1) ≤ 36 * d; omega⟩ (show 0 ≤ 8 by decide) ⟨by rw [I.2.1]; show 0 + 0 ≤ 0; decide, by rw [I.2.1]; show 0 + 0 ≤ 0; decide⟩ (fun q => q.elim) (fun E u q => q.elim) (fun u hu => ?_)
  obtain ⟨V1, rfl, h⟩ := hu
  refine ab_aload_n O 0 dX1_build_4 rfl rfl ?_
  refine ab_iload_n O 1 dX1_build_5 rfl rfl ?_
  refine ab_callvV O I.2.2.2.2.2.2 (fr := False) (st := []) lk_X1_36 rfl (at_36 _ _ _) dX1_build_6 (c_X1_sortPresentBut (d - 1) (by omega) _ O.2.2.2.2.2.2.1 _ _ _ _ h) rfl rfl ⟨by rw [I.2.1]; show d - 1 + 1 ≤ d; omega, by rw [I.2.1]; show 8 + (_ + 11) + 36 * (d - 1) ≤ 36 * d; omega⟩ (show 0 ≤ 8 by decide) ⟨by rw [I.2.1]; show 0 + 0 ≤ 0; decide, by rw [I.2.1]; show 0 + 0 ≤ 0; decide⟩ (fun q => q.elim) (fun E u q => q.elim) (fun u hu => ?_)
  obtain ⟨V2, rfl, h⟩ := hu
  refine ab_iconst O 0 dX1_build_9 rfl ?_
  refine ab_istore_n O 2 dX1_build_10 rfl (show 2 < 3 by decide) ?_
  obtain ⟨n9, h⟩ := h
  refine ab_less (cl_X1_build_L11 hd O I (fun V6 x7 h => ?_) n9 (V2) (0) h) (ab_le_s (ab_le_n (ab_le_s ab_le_0)))
  exact ab_return O I dX1_build_41 (by decide) (by decide) ⟨_, rfl, h⟩

def wp_X1_firstChosenOutside_7_L4 (post : Int32 → Mm → Prop) (kx : Mm → Int32 → Int32 → Prop) : Nat → Mm → Int32 → Int32 → Prop
  | 0, _, _, _ => False
  | n4 + 1, V, x4_2, x4_3 => ((60 ≤ x4_3 → kx (V) (x4_2) (x4_3)) ∧ (¬ 60 ≤ x4_3 → (vp_in x4_3 60 ∧ (((V 39 (Int32.toNatClampNeg (x4_3))) = 0 → wp_X1_firstChosenOutside_7_L4 post kx n4 (V) (x4_2) ((x4_3 + (1)))) ∧ (¬ (V 39 (Int32.toNatClampNeg (x4_3))) = 0 → (wp_X0_holds V (x4_3) (fun (r4 : Int32) (V3 : Mm) => ((r4 = 0 → (wp_X3_comesBefore V3 (x4_3) (x4_2) (fun (r7 : Int32) (V6 : Mm) => ((r7 = 0 → wp_X1_firstChosenOutside_7_L4 post kx n4 (V6) (x4_2) ((x4_3 + (1)))) ∧ (¬ r7 = 0 → wp_X1_firstChosenOutside_7_L4 post kx n4 (V6) (x4_3) ((x4_3 + (1)))))))) ∧ (¬ r4 = 0 → wp_X1_firstChosenOutside_7_L4 post kx n4 (V3) (x4_2) ((x4_3 + (1))))))))))))

def wp_X1_firstChosenOutside_7 (V : Mm) (post : Int32 → Mm → Prop) : Prop := (∃ m4 : Nat, wp_X1_firstChosenOutside_7_L4 post (fun (V9 : Mm) (x10 : Int32) (x11 : Int32) => post x10 V9) m4 (V) ((-1)) (0))
set_option maxHeartbeats 4000000 in
theorem cl_X1_firstChosenOutside_7_L4 {X : ab_M} {g : ab_G} {l : Launch} {d : Nat} (hd : 3 ≤ d) {post : Int32 → Mm → Prop} {kx : Mm → Int32 → Int32 → Prop} {o : Nat → Int64} {D : Nat → UInt64} (O : ab_Ok X g cX1_firstChosenOutside RX1) (I : ab_I X l tk_strs 4 (some .int) yX1_firstChosenOutside.name d 0 0) (hk : ∀ (V : Mm) (x4_2 : Int32) (x4_3 : Int32), kx V x4_2 x4_3 → Ab X g 0 0 (tk_Q X g (tk_I g (fun r u => ∃ V : Mm, u = SW V o D ∧ post r V)) (fun _ _ => False) 0 0) 47 [none, none, some (.int (x4_2)), none] [] (SW V o D)) : ∀ (n : Nat) (V : Mm) (x4_2 : Int32) (x4_3 : Int32), wp_X1_firstChosenOutside_7_L4 post kx n V x4_2 x4_3 → Ab X g 0 0 (tk_Q X g (tk_I g (fun r u => ∃ V : Mm, u = SW V o D ∧ post r V)) (fun _ _ => False) 0 0) 4 [some (.ref (36)), some (.ref (7)), some (.int (x4_2)), some (.int (x4_3))] [] (SW V o D) := by
  intro n
  induction n with
  | zero => intro V x4_2 x4_3 h; exact h.elim
  | succ n ih =>
    intro V x4_2 x4_3 h
    refine ab_iload_n O 3 dX1_firstChosenOutside_4 rfl rfl ?_
    refine ab_bipush O 60 dX1_firstChosenOutside_5 rfl ?_
    refine ab_icmp_ge O 47 dX1_firstChosenOutside_7 rfl (fun q1 => ?_) (fun q1 => ?_)
    · have h := h.1 q1
      exact ab_less (hk (V) (x4_2) (x4_3) h) (ab_le_n (ab_le_n (ab_le_s (ab_le_n ab_le_0))))
    · have h := h.2 q1
      refine ab_aload_n O 0 dX1_firstChosenOutside_10 rfl rfl ?_
      refine ab_get O fl_X1_18 dX1_firstChosenOutside_11 (at_36 _ _ _) rfl ?_
      refine ab_iload_n O 3 dX1_firstChosenOutside_14 rfl rfl ?_
      refine ab_zald O dX1_firstChosenOutside_15 (at_39 _ _ _) h.1 ?_
      have h := h.2
      refine ab_if_eq O 41 dX1_firstChosenOutside_16 rfl (fun q2 => ?_) (fun q2 => ?_)
      · have h := h.1 q2
        refine ab_iinc O ((x4_3 + (1))) dX1_firstChosenOutside_41 rfl rfl ?_
        refine ab_goto O 4 dX1_firstChosenOutside_44 rfl ?_
        exact ab_less (ih (V) (x4_2) ((x4_3 + (1))) h) (ab_le_s (ab_le_s (ab_le_s (ab_le_s ab_le_0))))
      · have h := h.2 q2
        refine ab_aload_n O 1 dX1_firstChosenOutside_19 rfl rfl ?_
        refine ab_iload_n O 3 dX1_firstChosenOutside_20 rfl rfl ?_
        refine ab_callvI O I.2.2.2.2.2.2 (fr := False) (st := []) lk_X1_79 rfl (at_7 _ _ _) dX1_firstChosenOutside_21 (c_X0_holds (d - 1) (by omega) _ O.2.2.2.2.2.2.1 _ _ _ _ h) rfl rfl ⟨by rw [I.2.1]; show d - 1 + 1 ≤ d; omega, by rw [I.2.1]; show 8 + (_ + 11) + 36 * (d - 1) ≤ 36 * d; omega⟩ (show 0 ≤ 8 by decide) ⟨by rw [I.2.1]; show 0 + 0 ≤ 0; decide, by rw [I.2.1]; show 0 + 0 ≤ 0; decide⟩ (fun q => q.elim) (fun E u q => q.elim) (fun r4 u hu => ?_)
        obtain ⟨V3, rfl, h⟩ := hu
        refine ab_if_ne O 41 dX1_firstChosenOutside_24 rfl (fun q5 => ?_) (fun q5 => ?_)
        · have h := h.2 q5
          refine ab_iinc O ((x4_3 + (1))) dX1_firstChosenOutside_41 rfl rfl ?_
          refine ab_goto O 4 dX1_firstChosenOutside_44 rfl ?_
          exact ab_less (ih (V3) (x4_2) ((x4_3 + (1))) h) (ab_le_s (ab_le_s (ab_le_s (ab_le_s ab_le_0))))
        · have h := h.1 q5
          refine ab_aload_n O 0 dX1_firstChosenOutside_27 rfl rfl ?_
          refine ab_get O fl_X1_29 dX1_firstChosenOutside_28 (at_36 _ _ _) rfl ?_
          refine ab_iload_n O 3 dX1_firstChosenOutside_31 rfl rfl ?_
          refine ab_iload_n O 2 dX1_firstChosenOutside_32 rfl rfl ?_
          refine ab_callvI O I.2.2.2.2.2.2 (fr := False) (st := []) lk_X1_56 rfl (at_1 _ _ _) dX1_firstChosenOutside_33 (c_X3_comesBefore (d - 1) (by omega) _ O.2.2.2.2.2.2.1 _ _ _ _ _ h) rfl rfl ⟨by rw [I.2.1]; show d - 1 + 1 ≤ d; omega, by rw [I.2.1]; show 8 + (_ + 11) + 36 * (d - 1) ≤ 36 * d; omega⟩ (show 0 ≤ 8 by decide) ⟨by rw [I.2.1]; show 0 + 0 ≤ 0; decide, by rw [I.2.1]; show 0 + 0 ≤ 0; decide⟩ (fun q => q.elim) (fun E u q => q.elim) (fun r7 u hu => ?_)
          obtain ⟨V6, rfl, h⟩ := hu
          refine ab_if_eq O 41 dX1_firstChosenOutside_36 rfl (fun q8 => ?_) (fun q8 => ?_)
          · have h := h.1 q8
            refine ab_iinc O ((x4_3 + (1))) dX1_firstChosenOutside_41 rfl rfl ?_
            refine ab_goto O 4 dX1_firstChosenOutside_44 rfl ?_
            exact ab_less (ih (V6) (x4_2) ((x4_3 + (1))) h) (ab_le_s (ab_le_s (ab_le_s (ab_le_s ab_le_0))))
          · have h := h.2 q8
            refine ab_iload_n O 3 dX1_firstChosenOutside_39 rfl rfl ?_
            refine ab_istore_n O 2 dX1_firstChosenOutside_40 rfl (show 2 < 4 by decide) ?_
            refine ab_iinc O ((x4_3 + (1))) dX1_firstChosenOutside_41 rfl rfl ?_
            refine ab_goto O 4 dX1_firstChosenOutside_44 rfl ?_
            exact ab_less (ih (V6) (x4_3) ((x4_3 + (1))) h) (ab_le_s (ab_le_s (ab_le_s (ab_le_s ab_le_0))))
set_option maxHeartbeats 4000000 in
theorem c_X1_firstChosenOutside_7 (d : Nat) (hd : 3 ≤ d) (l : Launch) (hl : l.stackTraces = false) (g : ab_G) (o : Nat → Int64) (D : Nat → UInt64) {V : Mm} {post : Int32 → Mm → Prop} (h : wp_X1_firstChosenOutside_7 V post) : Ct l g tk_strs False d 0 0 yX1_firstChosenOutside cX1_firstChosenOutside 4 (some .int) [.ref 36, .ref 7] (SW V o D) (tk_I g (fun r u => ∃ V : Mm, u = SW V o D ∧ post r V)) (fun _ _ => False) := by
  refine ct_in (by decide +kernel) (show 2 ≤ 4 by decide) (by simp [Value.category]) hl (fun X I O _ => ?_)
  show Ab X g 0 0 _ 0 [some (.ref (36)), some (.ref (7)), none, none] [] _
  refine ab_iconst O (-1) dX1_firstChosenOutside_0 rfl ?_
  refine ab_istore_n O 2 dX1_firstChosenOutside_1 rfl (show 2 < 4 by decide) ?_
  refine ab_iconst O 0 dX1_firstChosenOutside_2 rfl ?_
  refine ab_istore_n O 3 dX1_firstChosenOutside_3 rfl (show 3 < 4 by decide) ?_
  obtain ⟨n9, h⟩ := h
  refine ab_less (cl_X1_firstChosenOutside_7_L4 hd O I (fun V9 x10 x11 h => ?_) n9 (V) ((-1)) (0) h) (ab_le_s (ab_le_s (ab_le_s (ab_le_s ab_le_0))))
  refine ab_iload_n O 2 dX1_firstChosenOutside_47 rfl rfl ?_
  exact ab_ireturn O I dX1_firstChosenOutside_48 (by decide) (by decide) (by rfl) ⟨_, rfl, h⟩

def wp_X1_weightSum (V : Mm) (post : Int32 → Mm → Prop) : Prop := post (V 36 5) V
set_option maxHeartbeats 4000000 in
theorem c_X1_weightSum (d : Nat) (hd : 0 ≤ d) (l : Launch) (hl : l.stackTraces = false) (g : ab_G) (o : Nat → Int64) (D : Nat → UInt64) {V : Mm} {post : Int32 → Mm → Prop} (h : wp_X1_weightSum V post) : Ct l g tk_strs False d 0 0 yX1_weightSum cX1_weightSum 1 (some .int) [.ref 36] (SW V o D) (tk_I g (fun r u => ∃ V : Mm, u = SW V o D ∧ post r V)) (fun _ _ => False) := by
  refine ct_in (by decide +kernel) (show 1 ≤ 1 by decide) (by simp [Value.category]) hl (fun X I O _ => ?_)
  show Ab X g 0 0 _ 0 [some (.ref (36))] [] _
  refine ab_aload_n O 0 dX1_weightSum_0 rfl rfl ?_
  refine ab_get O fl_X1_26 dX1_weightSum_1 (at_36 _ _ _) rfl ?_
  exact ab_ireturn O I dX1_weightSum_4 (by decide) (by decide) (by rfl) ⟨_, rfl, h⟩

def wp_X4_visit (V : Mm) (a0 : Int32) (post : Mm → Prop) : Prop := (wp_X3_hasVertex V (a0) (fun (r2 : Int32) (V1 : Mm) => ((r2 = 0 → post V1) ∧ (¬ r2 = 0 → (vp_in a0 20 ∧ (((V1 41 (Int32.toNatClampNeg (a0))) = 0 → ((20 ≤ (V1 40 3) → post V1) ∧ (¬ 20 ≤ (V1 40 3) → (vp_in a0 20 ∧ ∀ V6 : Mm, V6 = wr V1 41 (Int32.toNatClampNeg (a0)) 1 → (vp_in (V6 40 3) 20 ∧ ∀ V7 : Mm, V7 = wr V6 42 (Int32.toNatClampNeg ((V6 40 3))) a0 → (∀ V8 : Mm, V8 = wr V7 40 3 ((V7 40 3) + 1) → post V8)))))) ∧ (¬ (V1 41 (Int32.toNatClampNeg (a0))) = 0 → post V1)))))))
set_option maxHeartbeats 4000000 in
theorem c_X4_visit (d : Nat) (hd : 1 ≤ d) (l : Launch) (hl : l.stackTraces = false) (g : ab_G) (o : Nat → Int64) (D : Nat → UInt64) (a0 : Int32) {V : Mm} {post : Mm → Prop} (h : wp_X4_visit V a0 post) : Ct l g tk_strs False d 0 0 yX4_visit cX4_visit 2 none [.ref 40, .int a0] (SW V o D) (tk_V g (fun u => ∃ V : Mm, u = SW V o D ∧ post V)) (fun _ _ => False) := by
  refine ct_in (by decide +kernel) (show 2 ≤ 2 by decide) (by simp [Value.category]) hl (fun X I O _ => ?_)
  show Ab X g 0 0 _ 0 [some (.ref (40)), some (.int (a0))] [] _
  refine ab_aload_n O 0 dX4_visit_0 rfl rfl ?_
  refine ab_get O fl_X4_23 dX4_visit_1 (at_40 _ _ _) rfl ?_
  refine ab_iload_n O 1 dX4_visit_4 rfl rfl ?_
  refine ab_callvI O I.2.2.2.2.2.2 (fr := False) (st := []) lk_X4_34 rfl (at_1 _ _ _) dX4_visit_5 (c_X3_hasVertex (d - 1) (by omega) _ O.2.2.2.2.2.2.1 _ _ _ _ h) rfl rfl ⟨by rw [I.2.1]; show d - 1 + 1 ≤ d; omega, by rw [I.2.1]; show 8 + (_ + 11) + 36 * (d - 1) ≤ 36 * d; omega⟩ (show 0 ≤ 8 by decide) ⟨by rw [I.2.1]; show 0 + 0 ≤ 0; decide, by rw [I.2.1]; show 0 + 0 ≤ 0; decide⟩ (fun q => q.elim) (fun E u q => q.elim) (fun r2 u hu => ?_)
  obtain ⟨V1, rfl, h⟩ := hu
  refine ab_if_eq O 56 dX4_visit_8 rfl (fun q3 => ?_) (fun q3 => ?_)
  · have h := h.1 q3
    exact ab_return O I dX4_visit_56 (by decide) (by decide) ⟨_, rfl, h⟩
  · have h := h.2 q3
    refine ab_aload_n O 0 dX4_visit_11 rfl rfl ?_
    refine ab_get O fl_X4_9 dX4_visit_12 (at_40 _ _ _) rfl ?_
    refine ab_iload_n O 1 dX4_visit_15 rfl rfl ?_
    refine ab_zald O dX4_visit_16 (at_41 _ _ _) h.1 ?_
    have h := h.2
    refine ab_if_ne O 56 dX4_visit_17 rfl (fun q4 => ?_) (fun q4 => ?_)
    · have h := h.2 q4
      exact ab_return O I dX4_visit_56 (by decide) (by decide) ⟨_, rfl, h⟩
    · have h := h.1 q4
      refine ab_aload_n O 0 dX4_visit_20 rfl rfl ?_
      refine ab_get O fl_X4_19 dX4_visit_21 (at_40 _ _ _) rfl ?_
      refine ab_bipush O 20 dX4_visit_24 rfl ?_
      refine ab_icmp_ge O 56 dX4_visit_26 rfl (fun q5 => ?_) (fun q5 => ?_)
      · have h := h.1 q5
        exact ab_return O I dX4_visit_56 (by decide) (by decide) ⟨_, rfl, h⟩
      · have h := h.2 q5
        refine ab_aload_n O 0 dX4_visit_29 rfl rfl ?_
        refine ab_get O fl_X4_9 dX4_visit_30 (at_40 _ _ _) rfl ?_
        refine ab_iload_n O 1 dX4_visit_33 rfl rfl ?_
        refine ab_iconst O 1 dX4_visit_34 rfl ?_
        refine ab_zast O dX4_visit_35 (at_41 _ _ _) h.1 ?_
        have h := h.2
        refine ab_eq ?_ rfl rfl rfl (sa_41 _ _ _ _ _).symm
        show Ab _ _ _ _ _ _ _ _ (SW (wr V1 41 (Int32.toNatClampNeg (a0)) 1) _ _)
        obtain ⟨V6, eV6⟩ : ∃ z : Mm, z = wr V1 41 (Int32.toNatClampNeg (a0)) 1 := ⟨_, rfl⟩
        rw [← eV6]
        have h := h V6 eV6
        refine ab_aload_n O 0 dX4_visit_36 rfl rfl ?_
        refine ab_get O fl_X4_15 dX4_visit_37 (at_40 _ _ _) rfl ?_
        refine ab_aload_n O 0 dX4_visit_40 rfl rfl ?_
        refine ab_get O fl_X4_19 dX4_visit_41 (at_40 _ _ _) rfl ?_
        refine ab_iload_n O 1 dX4_visit_44 rfl rfl ?_
        refine ab_iast O dX4_visit_45 (at_42 _ _ _) h.1 ?_
        have h := h.2
        refine ab_eq ?_ rfl rfl rfl (sa_42 _ _ _ _ _).symm
        obtain ⟨V7, eV7⟩ : ∃ z : Mm, z = wr V6 42 (Int32.toNatClampNeg ((V6 40 3))) a0 := ⟨_, rfl⟩
        rw [← eV7]
        have h := h V7 eV7
        refine ab_aload_n O 0 dX4_visit_46 rfl rfl ?_
        refine ab_dup O dX4_visit_47 rfl ?_
        refine ab_get O fl_X4_19 dX4_visit_48 (at_40 _ _ _) rfl ?_
        refine ab_iconst O 1 dX4_visit_51 rfl ?_
        refine ab_iadd O dX4_visit_52 ?_
        refine ab_put O fl_X4_19 cl_X4 dX4_visit_53 (at_40 _ _ _) rfl .int (by decide +kernel) (fun _ => rfl) (fun _ => rfl) (show 3 < 4 by decide) ?_
        refine ab_eq ?_ rfl rfl rfl (sf_40_3 _ _ _ _).symm
        obtain ⟨V8, eV8⟩ : ∃ z : Mm, z = wr V7 40 3 ((V7 40 3) + 1) := ⟨_, rfl⟩
        rw [← eV8]
        have h := h V8 eV8
        exact ab_return O I dX4_visit_56 (by decide) (by decide) ⟨_, rfl, h⟩

def wp_X4_visitAround_L2 (y2_1 : Int32) (post : Mm → Prop) (kx : Mm → Int32 → Prop) : Nat → Mm → Int32 → Prop
  | 0, _, _ => False
  | n2 + 1, V, x2_2 => (wp_X3_edgeCount V (fun (r2 : Int32) (V1 : Mm) => ((r2 ≤ x2_2 → kx (V1) (x2_2)) ∧ (¬ r2 ≤ x2_2 → (wp_X3_isPresent V1 (x2_2) (fun (r5 : Int32) (V4 : Mm) => ((r5 = 0 → wp_X4_visitAround_L2 y2_1 post kx n2 (V4) ((x2_2 + (1)))) ∧ (¬ r5 = 0 → (wp_X3_acrossFrom V4 (x2_2) (y2_1) (fun (r8 : Int32) (V7 : Mm) => (wp_X4_visit V7 (r8) (fun (V9 : Mm) => wp_X4_visitAround_L2 y2_1 post kx n2 (V9) ((x2_2 + (1)))))))))))))))

def wp_X4_visitAround (V : Mm) (a0 : Int32) (post : Mm → Prop) : Prop := (∃ m2 : Nat, wp_X4_visitAround_L2 (a0) post (fun (V10 : Mm) (x11 : Int32) => post V10) m2 (V) (0))
set_option maxHeartbeats 4000000 in
theorem cl_X4_visitAround_L2 {X : ab_M} {g : ab_G} {l : Launch} {d : Nat} (hd : 3 ≤ d) (y2_1 : Int32) {post : Mm → Prop} {kx : Mm → Int32 → Prop} {o : Nat → Int64} {D : Nat → UInt64} (O : ab_Ok X g cX4_visitAround RX4) (I : ab_I X l tk_strs 3 none yX4_visitAround.name d 0 0) (hk : ∀ (V : Mm) (x2_2 : Int32), kx V x2_2 → Ab X g 0 0 (tk_Q X g (tk_V g (fun u => ∃ V : Mm, u = SW V o D ∧ post V)) (fun _ _ => False) 0 0) 43 [none, none, none] [] (SW V o D)) : ∀ (n : Nat) (V : Mm) (x2_2 : Int32), wp_X4_visitAround_L2 y2_1 post kx n V x2_2 → Ab X g 0 0 (tk_Q X g (tk_V g (fun u => ∃ V : Mm, u = SW V o D ∧ post V)) (fun _ _ => False) 0 0) 2 [some (.ref (40)), some (.int (y2_1)), some (.int (x2_2))] [] (SW V o D) := by
  intro n
  induction n with
  | zero => intro V x2_2 h; exact h.elim
  | succ n ih =>
    intro V x2_2 h
    refine ab_iload_n O 2 dX4_visitAround_2 rfl rfl ?_
    refine ab_aload_n O 0 dX4_visitAround_3 rfl rfl ?_
    refine ab_get O fl_X4_23 dX4_visitAround_4 (at_40 _ _ _) rfl ?_
    refine ab_callvI O I.2.2.2.2.2.2 (fr := False) (st := [.int (x2_2)]) lk_X4_40 rfl (at_1 _ _ _) dX4_visitAround_7 (c_X3_edgeCount (d - 1) (by omega) _ O.2.2.2.2.2.2.1 _ _ _ h) rfl rfl ⟨by rw [I.2.1]; show d - 1 + 1 ≤ d; omega, by rw [I.2.1]; show 8 + (_ + 11) + 36 * (d - 1) ≤ 36 * d; omega⟩ (show 1 ≤ 8 by decide) ⟨by rw [I.2.1]; show 0 + 0 ≤ 0; decide, by rw [I.2.1]; show 0 + 0 ≤ 0; decide⟩ (fun q => q.elim) (fun E u q => q.elim) (fun r2 u hu => ?_)
    obtain ⟨V1, rfl, h⟩ := hu
    refine ab_icmp_ge O 43 dX4_visitAround_10 rfl (fun q3 => ?_) (fun q3 => ?_)
    · have h := h.1 q3
      exact ab_less (hk (V1) (x2_2) h) (ab_le_n (ab_le_n (ab_le_n ab_le_0)))
    · have h := h.2 q3
      refine ab_aload_n O 0 dX4_visitAround_13 rfl rfl ?_
      refine ab_get O fl_X4_23 dX4_visitAround_14 (at_40 _ _ _) rfl ?_
      refine ab_iload_n O 2 dX4_visitAround_17 rfl rfl ?_
      refine ab_callvI O I.2.2.2.2.2.2 (fr := False) (st := []) lk_X4_44 rfl (at_1 _ _ _) dX4_visitAround_18 (c_X3_isPresent (d - 1) (by omega) _ O.2.2.2.2.2.2.1 _ _ _ _ h) rfl rfl ⟨by rw [I.2.1]; show d - 1 + 1 ≤ d; omega, by rw [I.2.1]; show 8 + (_ + 11) + 36 * (d - 1) ≤ 36 * d; omega⟩ (show 0 ≤ 8 by decide) ⟨by rw [I.2.1]; show 0 + 0 ≤ 0; decide, by rw [I.2.1]; show 0 + 0 ≤ 0; decide⟩ (fun q => q.elim) (fun E u q => q.elim) (fun r5 u hu => ?_)
      obtain ⟨V4, rfl, h⟩ := hu
      refine ab_if_eq O 37 dX4_visitAround_21 rfl (fun q6 => ?_) (fun q6 => ?_)
      · have h := h.1 q6
        refine ab_iinc O ((x2_2 + (1))) dX4_visitAround_37 rfl rfl ?_
        refine ab_goto O 2 dX4_visitAround_40 rfl ?_
        exact ab_less (ih (V4) ((x2_2 + (1))) h) (ab_le_s (ab_le_s (ab_le_s ab_le_0)))
      · have h := h.2 q6
        refine ab_aload_n O 0 dX4_visitAround_24 rfl rfl ?_
        refine ab_aload_n O 0 dX4_visitAround_25 rfl rfl ?_
        refine ab_get O fl_X4_23 dX4_visitAround_26 (at_40 _ _ _) rfl ?_
        refine ab_iload_n O 2 dX4_visitAround_29 rfl rfl ?_
        refine ab_iload_n O 1 dX4_visitAround_30 rfl rfl ?_
        refine ab_callvI O I.2.2.2.2.2.2 (fr := False) (st := [.ref (40)]) lk_X4_47 rfl (at_1 _ _ _) dX4_visitAround_31 (c_X3_acrossFrom (d - 1) (by omega) _ O.2.2.2.2.2.2.1 _ _ _ _ _ h) rfl rfl ⟨by rw [I.2.1]; show d - 1 + 1 ≤ d; omega, by rw [I.2.1]; show 8 + (_ + 11) + 36 * (d - 1) ≤ 36 * d; omega⟩ (show 1 ≤ 8 by decide) ⟨by rw [I.2.1]; show 0 + 0 ≤ 0; decide, by rw [I.2.1]; show 0 + 0 ≤ 0; decide⟩ (fun q => q.elim) (fun E u q => q.elim) (fun r8 u hu => ?_)
        obtain ⟨V7, rfl, h⟩ := hu
        refine ab_callvV O I.2.2.2.2.2.2 (fr := False) (st := []) lk_X4_27 rfl (at_40 _ _ _) dX4_visitAround_34 (c_X4_visit (d - 1) (by omega) _ O.2.2.2.2.2.2.1 _ _ _ _ h) rfl rfl ⟨by rw [I.2.1]; show d - 1 + 1 ≤ d; omega, by rw [I.2.1]; show 8 + (_ + 11) + 36 * (d - 1) ≤ 36 * d; omega⟩ (show 0 ≤ 8 by decide) ⟨by rw [I.2.1]; show 0 + 0 ≤ 0; decide, by rw [I.2.1]; show 0 + 0 ≤ 0; decide⟩ (fun q => q.elim) (fun E u q => q.elim) (fun u hu => ?_)
        obtain ⟨V9, rfl, h⟩ := hu
        refine ab_iinc O ((x2_2 + (1))) dX4_visitAround_37 rfl rfl ?_
        refine ab_goto O 2 dX4_visitAround_40 rfl ?_
        exact ab_less (ih (V9) ((x2_2 + (1))) h) (ab_le_s (ab_le_s (ab_le_s ab_le_0)))
set_option maxHeartbeats 4000000 in
theorem c_X4_visitAround (d : Nat) (hd : 3 ≤ d) (l : Launch) (hl : l.stackTraces = false) (g : ab_G) (o : Nat → Int64) (D : Nat → UInt64) (a0 : Int32) {V : Mm} {post : Mm → Prop} (h : wp_X4_visitAround V a0 post) : Ct l g tk_strs False d 0 0 yX4_visitAround cX4_visitAround 3 none [.ref 40, .int a0] (SW V o D) (tk_V g (fun u => ∃ V : Mm, u = SW V o D ∧ post V)) (fun _ _ => False) := by
  refine ct_in (by decide +kernel) (show 2 ≤ 3 by decide) (by simp [Value.category]) hl (fun X I O _ => ?_)
  show Ab X g 0 0 _ 0 [some (.ref (40)), some (.int (a0)), none] [] _
  refine ab_iconst O 0 dX4_visitAround_0 rfl ?_
  refine ab_istore_n O 2 dX4_visitAround_1 rfl (show 2 < 3 by decide) ?_
  obtain ⟨n9, h⟩ := h
  refine ab_less (cl_X4_visitAround_L2 hd (a0) O I (fun V10 x11 h => ?_) n9 (V) (0) h) (ab_le_s (ab_le_s (ab_le_s ab_le_0)))
  exact ab_return O I dX4_visitAround_43 (by decide) (by decide) ⟨_, rfl, h⟩

def wp_X4_leadsTo_L7 (y7_1 y7_2 : Int32) (post : Int32 → Mm → Prop) (kx : Mm → Int32 → Prop) : Nat → Mm → Int32 → Prop
  | 0, _, _ => False
  | n7 + 1, V, x7_3 => ((20 ≤ x7_3 → kx (V) (x7_3)) ∧ (¬ 20 ≤ x7_3 → (vp_in x7_3 20 ∧ ∀ V3 : Mm, V3 = wr V 41 (Int32.toNatClampNeg (x7_3)) 0 → wp_X4_leadsTo_L7 y7_1 y7_2 post kx n7 (V3) ((x7_3 + (1))))))

def wp_X4_leadsTo_L33 (y33_2 : Int32) (post : Int32 → Mm → Prop) (kx : Mm → Int32 → Prop) : Nat → Mm → Int32 → Prop
  | 0, _, _ => False
  | n33 + 1, V, x33_3 => ((20 ≤ x33_3 → kx (V) (x33_3)) ∧ (¬ 20 ≤ x33_3 → (((V 40 3) ≤ x33_3 → kx (V) (x33_3)) ∧ (¬ (V 40 3) ≤ x33_3 → (vp_in x33_3 20 ∧ (wp_X4_visitAround V ((V 42 (Int32.toNatClampNeg (x33_3)))) (fun (V9 : Mm) => wp_X4_leadsTo_L33 y33_2 post kx n33 (V9) ((x33_3 + (1))))))))))

def wp_X4_leadsTo (V : Mm) (a0 a1 : Int32) (post : Int32 → Mm → Prop) : Prop := (∀ V1 : Mm, V1 = wr V 40 3 0 → (∃ m7 : Nat, wp_X4_leadsTo_L7 (a0) (a1) post (fun (V4 : Mm) (x5 : Int32) => (wp_X4_visit V4 (a0) (fun (V6 : Mm) => (∃ m33 : Nat, wp_X4_leadsTo_L33 (a1) post (fun (V10 : Mm) (x11 : Int32) => (wp_X3_hasVertex V10 (a1) (fun (r13 : Int32) (V12 : Mm) => ((r13 = 0 → post 0 V12) ∧ (¬ r13 = 0 → (vp_in a1 20 ∧ (((V12 41 (Int32.toNatClampNeg (a1))) = 0 → post 0 V12) ∧ (¬ (V12 41 (Int32.toNatClampNeg (a1))) = 0 → post 1 V12)))))))) m33 (V6) (0))))) m7 (V1) (0)))
set_option maxHeartbeats 4000000 in
theorem cl_X4_leadsTo_L7 {X : ab_M} {g : ab_G} {l : Launch} {d : Nat} (hd : 4 ≤ d) (y7_1 y7_2 : Int32) {post : Int32 → Mm → Prop} {kx : Mm → Int32 → Prop} {o : Nat → Int64} {D : Nat → UInt64} (O : ab_Ok X g cX4_leadsTo RX4) (I : ab_I X l tk_strs 4 (some .boolean) yX4_leadsTo.name d 0 0) (hk : ∀ (V : Mm) (x7_3 : Int32), kx V x7_3 → Ab X g 0 0 (tk_Q X g (tk_I g (fun r u => ∃ V : Mm, u = SW V o D ∧ post r V)) (fun _ _ => False) 0 0) 26 [some (.ref (40)), some (.int (y7_1)), some (.int (y7_2)), none] [] (SW V o D)) : ∀ (n : Nat) (V : Mm) (x7_3 : Int32), wp_X4_leadsTo_L7 y7_1 y7_2 post kx n V x7_3 → Ab X g 0 0 (tk_Q X g (tk_I g (fun r u => ∃ V : Mm, u = SW V o D ∧ post r V)) (fun _ _ => False) 0 0) 7 [some (.ref (40)), some (.int (y7_1)), some (.int (y7_2)), some (.int (x7_3))] [] (SW V o D) := by
  intro n
  induction n with
  | zero => intro V x7_3 h; exact h.elim
  | succ n ih =>
    intro V x7_3 h
    refine ab_iload_n O 3 dX4_leadsTo_7 rfl rfl ?_
    refine ab_bipush O 20 dX4_leadsTo_8 rfl ?_
    refine ab_icmp_ge O 26 dX4_leadsTo_10 rfl (fun q2 => ?_) (fun q2 => ?_)
    · have h := h.1 q2
      exact ab_less (hk (V) (x7_3) h) (ab_le_s (ab_le_s (ab_le_s (ab_le_n ab_le_0))))
    · have h := h.2 q2
      refine ab_aload_n O 0 dX4_leadsTo_13 rfl rfl ?_
      refine ab_get O fl_X4_9 dX4_leadsTo_14 (at_40 _ _ _) rfl ?_
      refine ab_iload_n O 3 dX4_leadsTo_17 rfl rfl ?_
      refine ab_iconst O 0 dX4_leadsTo_18 rfl ?_
      refine ab_zast O dX4_leadsTo_19 (at_41 _ _ _) h.1 ?_
      have h := h.2
      refine ab_eq ?_ rfl rfl rfl (sa_41 _ _ _ _ _).symm
      show Ab _ _ _ _ _ _ _ _ (SW (wr V 41 (Int32.toNatClampNeg (x7_3)) 0) _ _)
      obtain ⟨V3, eV3⟩ : ∃ z : Mm, z = wr V 41 (Int32.toNatClampNeg (x7_3)) 0 := ⟨_, rfl⟩
      rw [← eV3]
      have h := h V3 eV3
      refine ab_iinc O ((x7_3 + (1))) dX4_leadsTo_20 rfl rfl ?_
      refine ab_goto O 7 dX4_leadsTo_23 rfl ?_
      exact ab_less (ih (V3) ((x7_3 + (1))) h) (ab_le_s (ab_le_s (ab_le_s (ab_le_s ab_le_0))))
set_option maxHeartbeats 4000000 in
theorem cl_X4_leadsTo_L33 {X : ab_M} {g : ab_G} {l : Launch} {d : Nat} (hd : 4 ≤ d) (y33_2 : Int32) {post : Int32 → Mm → Prop} {kx : Mm → Int32 → Prop} {o : Nat → Int64} {D : Nat → UInt64} (O : ab_Ok X g cX4_leadsTo RX4) (I : ab_I X l tk_strs 4 (some .boolean) yX4_leadsTo.name d 0 0) (hk : ∀ (V : Mm) (x33_3 : Int32), kx V x33_3 → Ab X g 0 0 (tk_Q X g (tk_I g (fun r u => ∃ V : Mm, u = SW V o D ∧ post r V)) (fun _ _ => False) 0 0) 63 [some (.ref (40)), none, some (.int (y33_2)), none] [] (SW V o D)) : ∀ (n : Nat) (V : Mm) (x33_3 : Int32), wp_X4_leadsTo_L33 y33_2 post kx n V x33_3 → Ab X g 0 0 (tk_Q X g (tk_I g (fun r u => ∃ V : Mm, u = SW V o D ∧ post r V)) (fun _ _ => False) 0 0) 33 [some (.ref (40)), none, some (.int (y33_2)), some (.int (x33_3))] [] (SW V o D) := by
  intro n
  induction n with
  | zero => intro V x33_3 h; exact h.elim
  | succ n ih =>
    intro V x33_3 h
    refine ab_iload_n O 3 dX4_leadsTo_33 rfl rfl ?_
    refine ab_bipush O 20 dX4_leadsTo_34 rfl ?_
    refine ab_icmp_ge O 63 dX4_leadsTo_36 rfl (fun q7 => ?_) (fun q7 => ?_)
    · have h := h.1 q7
      exact ab_less (hk (V) (x33_3) h) (ab_le_s (ab_le_n (ab_le_s (ab_le_n ab_le_0))))
    · have h := h.2 q7
      refine ab_iload_n O 3 dX4_leadsTo_39 rfl rfl ?_
      refine ab_aload_n O 0 dX4_leadsTo_40 rfl rfl ?_
      refine ab_get O fl_X4_19 dX4_leadsTo_41 (at_40 _ _ _) rfl ?_
      refine ab_icmp_ge O 63 dX4_leadsTo_44 rfl (fun q8 => ?_) (fun q8 => ?_)
      · have h := h.1 q8
        exact ab_less (hk (V) (x33_3) h) (ab_le_s (ab_le_n (ab_le_s (ab_le_n ab_le_0))))
      · have h := h.2 q8
        refine ab_aload_n O 0 dX4_leadsTo_47 rfl rfl ?_
        refine ab_aload_n O 0 dX4_leadsTo_48 rfl rfl ?_
        refine ab_get O fl_X4_15 dX4_leadsTo_49 (at_40 _ _ _) rfl ?_
        refine ab_iload_n O 3 dX4_leadsTo_52 rfl rfl ?_
        refine ab_iald O dX4_leadsTo_53 (at_42 _ _ _) h.1 ?_
        have h := h.2
        refine ab_callvV O I.2.2.2.2.2.2 (fr := False) (st := []) lk_X4_31 rfl (at_40 _ _ _) dX4_leadsTo_54 (c_X4_visitAround (d - 1) (by omega) _ O.2.2.2.2.2.2.1 _ _ _ _ h) rfl rfl ⟨by rw [I.2.1]; show d - 1 + 1 ≤ d; omega, by rw [I.2.1]; show 8 + (_ + 11) + 36 * (d - 1) ≤ 36 * d; omega⟩ (show 0 ≤ 8 by decide) ⟨by rw [I.2.1]; show 0 + 0 ≤ 0; decide, by rw [I.2.1]; show 0 + 0 ≤ 0; decide⟩ (fun q => q.elim) (fun E u q => q.elim) (fun u hu => ?_)
        obtain ⟨V9, rfl, h⟩ := hu
        refine ab_iinc O ((x33_3 + (1))) dX4_leadsTo_57 rfl rfl ?_
        refine ab_goto O 33 dX4_leadsTo_60 rfl ?_
        exact ab_less (ih (V9) ((x33_3 + (1))) h) (ab_le_s (ab_le_n (ab_le_s (ab_le_s ab_le_0))))
set_option maxHeartbeats 4000000 in
theorem c_X4_leadsTo (d : Nat) (hd : 4 ≤ d) (l : Launch) (hl : l.stackTraces = false) (g : ab_G) (o : Nat → Int64) (D : Nat → UInt64) (a0 : Int32) (a1 : Int32) {V : Mm} {post : Int32 → Mm → Prop} (h : wp_X4_leadsTo V a0 a1 post) : Ct l g tk_strs False d 0 0 yX4_leadsTo cX4_leadsTo 4 (some .boolean) [.ref 40, .int a0, .int a1] (SW V o D) (tk_I g (fun r u => ∃ V : Mm, u = SW V o D ∧ post r V)) (fun _ _ => False) := by
  refine ct_in (by decide +kernel) (show 3 ≤ 4 by decide) (by simp [Value.category]) hl (fun X I O _ => ?_)
  show Ab X g 0 0 _ 0 [some (.ref (40)), some (.int (a0)), some (.int (a1)), none] [] _
  refine ab_aload_n O 0 dX4_leadsTo_0 rfl rfl ?_
  refine ab_iconst O 0 dX4_leadsTo_1 rfl ?_
  refine ab_put O fl_X4_19 cl_X4 dX4_leadsTo_2 (at_40 _ _ _) rfl .int (by decide +kernel) (fun _ => rfl) (fun _ => rfl) (show 3 < 4 by decide) ?_
  refine ab_eq ?_ rfl rfl rfl (sf_40_3 _ _ _ _).symm
  obtain ⟨V1, eV1⟩ : ∃ z : Mm, z = wr V 40 3 0 := ⟨_, rfl⟩
  rw [← eV1]
  have h := h V1 eV1
  refine ab_iconst O 0 dX4_leadsTo_5 rfl ?_
  refine ab_istore_n O 3 dX4_leadsTo_6 rfl (show 3 < 4 by decide) ?_
  obtain ⟨n9, h⟩ := h
  refine ab_less (cl_X4_leadsTo_L7 hd (a0) (a1) O I (fun V4 x5 h => ?_) n9 (V1) (0) h) (ab_le_s (ab_le_s (ab_le_s (ab_le_s ab_le_0))))
  refine ab_aload_n O 0 dX4_leadsTo_26 rfl rfl ?_
  refine ab_iload_n O 1 dX4_leadsTo_27 rfl rfl ?_
  refine ab_callvV O I.2.2.2.2.2.2 (fr := False) (st := []) lk_X4_27 rfl (at_40 _ _ _) dX4_leadsTo_28 (c_X4_visit (d - 1) (by omega) _ O.2.2.2.2.2.2.1 _ _ _ _ h) rfl rfl ⟨by rw [I.2.1]; show d - 1 + 1 ≤ d; omega, by rw [I.2.1]; show 8 + (_ + 11) + 36 * (d - 1) ≤ 36 * d; omega⟩ (show 0 ≤ 8 by decide) ⟨by rw [I.2.1]; show 0 + 0 ≤ 0; decide, by rw [I.2.1]; show 0 + 0 ≤ 0; decide⟩ (fun q => q.elim) (fun E u q => q.elim) (fun u hu => ?_)
  obtain ⟨V6, rfl, h⟩ := hu
  refine ab_iconst O 0 dX4_leadsTo_31 rfl ?_
  refine ab_istore_n O 3 dX4_leadsTo_32 rfl (show 3 < 4 by decide) ?_
  obtain ⟨n9, h⟩ := h
  refine ab_less (cl_X4_leadsTo_L33 hd (a1) O I (fun V10 x11 h => ?_) n9 (V6) (0) h) (ab_le_s (ab_le_n (ab_le_s (ab_le_s ab_le_0))))
  refine ab_aload_n O 0 dX4_leadsTo_63 rfl rfl ?_
  refine ab_get O fl_X4_23 dX4_leadsTo_64 (at_40 _ _ _) rfl ?_
  refine ab_iload_n O 2 dX4_leadsTo_67 rfl rfl ?_
  refine ab_callvI O I.2.2.2.2.2.2 (fr := False) (st := []) lk_X4_34 rfl (at_1 _ _ _) dX4_leadsTo_68 (c_X3_hasVertex (d - 1) (by omega) _ O.2.2.2.2.2.2.1 _ _ _ _ h) rfl rfl ⟨by rw [I.2.1]; show d - 1 + 1 ≤ d; omega, by rw [I.2.1]; show 8 + (_ + 11) + 36 * (d - 1) ≤ 36 * d; omega⟩ (show 0 ≤ 8 by decide) ⟨by rw [I.2.1]; show 0 + 0 ≤ 0; decide, by rw [I.2.1]; show 0 + 0 ≤ 0; decide⟩ (fun q => q.elim) (fun E u q => q.elim) (fun r13 u hu => ?_)
  obtain ⟨V12, rfl, h⟩ := hu
  refine ab_if_eq O 87 dX4_leadsTo_71 rfl (fun q14 => ?_) (fun q14 => ?_)
  · have h := h.1 q14
    refine ab_iconst O 0 dX4_leadsTo_87 rfl ?_
    exact ab_ireturn O I dX4_leadsTo_88 (by decide) (by decide) (by rfl) ⟨_, rfl, h⟩
  · have h := h.2 q14
    refine ab_aload_n O 0 dX4_leadsTo_74 rfl rfl ?_
    refine ab_get O fl_X4_9 dX4_leadsTo_75 (at_40 _ _ _) rfl ?_
    refine ab_iload_n O 2 dX4_leadsTo_78 rfl rfl ?_
    refine ab_zald O dX4_leadsTo_79 (at_41 _ _ _) h.1 ?_
    have h := h.2
    refine ab_if_eq O 87 dX4_leadsTo_80 rfl (fun q15 => ?_) (fun q15 => ?_)
    · have h := h.1 q15
      refine ab_iconst O 0 dX4_leadsTo_87 rfl ?_
      exact ab_ireturn O I dX4_leadsTo_88 (by decide) (by decide) (by rfl) ⟨_, rfl, h⟩
    · have h := h.2 q15
      refine ab_iconst O 1 dX4_leadsTo_83 rfl ?_
      refine ab_goto O 88 dX4_leadsTo_84 rfl ?_
      exact ab_ireturn O I dX4_leadsTo_88 (by decide) (by decide) (by rfl) ⟨_, rfl, h⟩

def wp_X5_sizeBelow (V : Mm) (a0 : Int32) (post : Int32 → Mm → Prop) : Prop := (wp_X3_hasVertex V (a0) (fun (r2 : Int32) (V1 : Mm) => ((r2 = 0 → post 0 V1) ∧ (¬ r2 = 0 → (vp_in a0 20 ∧ post (V1 44 (Int32.toNatClampNeg (a0))) V1)))))
set_option maxHeartbeats 4000000 in
theorem c_X5_sizeBelow (d : Nat) (hd : 1 ≤ d) (l : Launch) (hl : l.stackTraces = false) (g : ab_G) (o : Nat → Int64) (D : Nat → UInt64) (a0 : Int32) {V : Mm} {post : Int32 → Mm → Prop} (h : wp_X5_sizeBelow V a0 post) : Ct l g tk_strs False d 0 0 yX5_sizeBelow cX5_sizeBelow 2 (some .int) [.ref 43, .int a0] (SW V o D) (tk_I g (fun r u => ∃ V : Mm, u = SW V o D ∧ post r V)) (fun _ _ => False) := by
  refine ct_in (by decide +kernel) (show 2 ≤ 2 by decide) (by simp [Value.category]) hl (fun X I O _ => ?_)
  show Ab X g 0 0 _ 0 [some (.ref (43)), some (.int (a0))] [] _
  refine ab_aload_n O 0 dX5_sizeBelow_0 rfl rfl ?_
  refine ab_get O fl_X5_30 dX5_sizeBelow_1 (at_43 _ _ _) rfl ?_
  refine ab_iload_n O 1 dX5_sizeBelow_4 rfl rfl ?_
  refine ab_callvI O I.2.2.2.2.2.2 (fr := False) (st := []) lk_X5_63 rfl (at_1 _ _ _) dX5_sizeBelow_5 (c_X3_hasVertex (d - 1) (by omega) _ O.2.2.2.2.2.2.1 _ _ _ _ h) rfl rfl ⟨by rw [I.2.1]; show d - 1 + 1 ≤ d; omega, by rw [I.2.1]; show 8 + (_ + 11) + 36 * (d - 1) ≤ 36 * d; omega⟩ (show 0 ≤ 8 by decide) ⟨by rw [I.2.1]; show 0 + 0 ≤ 0; decide, by rw [I.2.1]; show 0 + 0 ≤ 0; decide⟩ (fun q => q.elim) (fun E u q => q.elim) (fun r2 u hu => ?_)
  obtain ⟨V1, rfl, h⟩ := hu
  refine ab_if_eq O 20 dX5_sizeBelow_8 rfl (fun q3 => ?_) (fun q3 => ?_)
  · have h := h.1 q3
    refine ab_iconst O 0 dX5_sizeBelow_20 rfl ?_
    exact ab_ireturn O I dX5_sizeBelow_21 (by decide) (by decide) (by rfl) ⟨_, rfl, h⟩
  · have h := h.2 q3
    refine ab_aload_n O 0 dX5_sizeBelow_11 rfl rfl ?_
    refine ab_get O fl_X5_9 dX5_sizeBelow_12 (at_43 _ _ _) rfl ?_
    refine ab_iload_n O 1 dX5_sizeBelow_15 rfl rfl ?_
    refine ab_iald O dX5_sizeBelow_16 (at_44 _ _ _) h.1 ?_
    have h := h.2
    refine ab_goto O 21 dX5_sizeBelow_17 rfl ?_
    exact ab_ireturn O I dX5_sizeBelow_21 (by decide) (by decide) (by rfl) ⟨_, rfl, h⟩

def wp_X5_isHeavier (V : Mm) (a0 a1 : Int32) (post : Int32 → Mm → Prop) : Prop := ((a1 = (-1) → post 1 V) ∧ (¬ a1 = (-1) → (wp_X5_sizeBelow V (a0) (fun (r3 : Int32) (V2 : Mm) => (wp_X5_sizeBelow V2 (a1) (fun (r5 : Int32) (V4 : Mm) => ((r3 ≤ r5 → (wp_X5_sizeBelow V4 (a0) (fun (r8 : Int32) (V7 : Mm) => (wp_X5_sizeBelow V7 (a1) (fun (r10 : Int32) (V9 : Mm) => ((r8 = r10 → ((a1 ≤ a0 → post 0 V9) ∧ (¬ a1 ≤ a0 → post 1 V9))) ∧ (¬ r8 = r10 → post 0 V9))))))) ∧ (¬ r3 ≤ r5 → post 1 V4))))))))
set_option maxHeartbeats 4000000 in
theorem c_X5_isHeavier (d : Nat) (hd : 2 ≤ d) (l : Launch) (hl : l.stackTraces = false) (g : ab_G) (o : Nat → Int64) (D : Nat → UInt64) (a0 : Int32) (a1 : Int32) {V : Mm} {post : Int32 → Mm → Prop} (h : wp_X5_isHeavier V a0 a1 post) : Ct l g tk_strs False d 0 0 yX5_isHeavier cX5_isHeavier 3 (some .boolean) [.ref 43, .int a0, .int a1] (SW V o D) (tk_I g (fun r u => ∃ V : Mm, u = SW V o D ∧ post r V)) (fun _ _ => False) := by
  refine ct_in (by decide +kernel) (show 3 ≤ 3 by decide) (by simp [Value.category]) hl (fun X I O _ => ?_)
  show Ab X g 0 0 _ 0 [some (.ref (43)), some (.int (a0)), some (.int (a1))] [] _
  refine ab_iload_n O 2 dX5_isHeavier_0 rfl rfl ?_
  refine ab_iconst O (-1) dX5_isHeavier_1 rfl ?_
  refine ab_icmp_eq O 18 dX5_isHeavier_2 rfl (fun q1 => ?_) (fun q1 => ?_)
  · have h := h.1 q1
    refine ab_iconst O 1 dX5_isHeavier_18 rfl ?_
    exact ab_ireturn O I dX5_isHeavier_19 (by decide) (by decide) (by rfl) ⟨_, rfl, h⟩
  · have h := h.2 q1
    refine ab_aload_n O 0 dX5_isHeavier_5 rfl rfl ?_
    refine ab_iload_n O 1 dX5_isHeavier_6 rfl rfl ?_
    refine ab_callvI O I.2.2.2.2.2.2 (fr := False) (st := []) lk_X5_71 rfl (at_43 _ _ _) dX5_isHeavier_7 (c_X5_sizeBelow (d - 1) (by omega) _ O.2.2.2.2.2.2.1 _ _ _ _ h) rfl rfl ⟨by rw [I.2.1]; show d - 1 + 1 ≤ d; omega, by rw [I.2.1]; show 8 + (_ + 11) + 36 * (d - 1) ≤ 36 * d; omega⟩ (show 0 ≤ 8 by decide) ⟨by rw [I.2.1]; show 0 + 0 ≤ 0; decide, by rw [I.2.1]; show 0 + 0 ≤ 0; decide⟩ (fun q => q.elim) (fun E u q => q.elim) (fun r3 u hu => ?_)
    obtain ⟨V2, rfl, h⟩ := hu
    refine ab_aload_n O 0 dX5_isHeavier_10 rfl rfl ?_
    refine ab_iload_n O 2 dX5_isHeavier_11 rfl rfl ?_
    refine ab_callvI O I.2.2.2.2.2.2 (fr := False) (st := [.int (r3)]) lk_X5_71 rfl (at_43 _ _ _) dX5_isHeavier_12 (c_X5_sizeBelow (d - 1) (by omega) _ O.2.2.2.2.2.2.1 _ _ _ _ h) rfl rfl ⟨by rw [I.2.1]; show d - 1 + 1 ≤ d; omega, by rw [I.2.1]; show 8 + (_ + 11) + 36 * (d - 1) ≤ 36 * d; omega⟩ (show 1 ≤ 8 by decide) ⟨by rw [I.2.1]; show 0 + 0 ≤ 0; decide, by rw [I.2.1]; show 0 + 0 ≤ 0; decide⟩ (fun q => q.elim) (fun E u q => q.elim) (fun r5 u hu => ?_)
    obtain ⟨V4, rfl, h⟩ := hu
    refine ab_icmp_le O 20 dX5_isHeavier_15 rfl (fun q6 => ?_) (fun q6 => ?_)
    · have h := h.1 q6
      refine ab_aload_n O 0 dX5_isHeavier_20 rfl rfl ?_
      refine ab_iload_n O 1 dX5_isHeavier_21 rfl rfl ?_
      refine ab_callvI O I.2.2.2.2.2.2 (fr := False) (st := []) lk_X5_71 rfl (at_43 _ _ _) dX5_isHeavier_22 (c_X5_sizeBelow (d - 1) (by omega) _ O.2.2.2.2.2.2.1 _ _ _ _ h) rfl rfl ⟨by rw [I.2.1]; show d - 1 + 1 ≤ d; omega, by rw [I.2.1]; show 8 + (_ + 11) + 36 * (d - 1) ≤ 36 * d; omega⟩ (show 0 ≤ 8 by decide) ⟨by rw [I.2.1]; show 0 + 0 ≤ 0; decide, by rw [I.2.1]; show 0 + 0 ≤ 0; decide⟩ (fun q => q.elim) (fun E u q => q.elim) (fun r8 u hu => ?_)
      obtain ⟨V7, rfl, h⟩ := hu
      refine ab_aload_n O 0 dX5_isHeavier_25 rfl rfl ?_
      refine ab_iload_n O 2 dX5_isHeavier_26 rfl rfl ?_
      refine ab_callvI O I.2.2.2.2.2.2 (fr := False) (st := [.int (r8)]) lk_X5_71 rfl (at_43 _ _ _) dX5_isHeavier_27 (c_X5_sizeBelow (d - 1) (by omega) _ O.2.2.2.2.2.2.1 _ _ _ _ h) rfl rfl ⟨by rw [I.2.1]; show d - 1 + 1 ≤ d; omega, by rw [I.2.1]; show 8 + (_ + 11) + 36 * (d - 1) ≤ 36 * d; omega⟩ (show 1 ≤ 8 by decide) ⟨by rw [I.2.1]; show 0 + 0 ≤ 0; decide, by rw [I.2.1]; show 0 + 0 ≤ 0; decide⟩ (fun q => q.elim) (fun E u q => q.elim) (fun r10 u hu => ?_)
      obtain ⟨V9, rfl, h⟩ := hu
      refine ab_icmp_ne O 42 dX5_isHeavier_30 rfl (fun q11 => ?_) (fun q11 => ?_)
      · have h := h.2 q11
        refine ab_iconst O 0 dX5_isHeavier_42 rfl ?_
        exact ab_ireturn O I dX5_isHeavier_43 (by decide) (by decide) (by rfl) ⟨_, rfl, h⟩
      · have h := h.1 q11
        refine ab_iload_n O 1 dX5_isHeavier_33 rfl rfl ?_
        refine ab_iload_n O 2 dX5_isHeavier_34 rfl rfl ?_
        refine ab_icmp_ge O 42 dX5_isHeavier_35 rfl (fun q12 => ?_) (fun q12 => ?_)
        · have h := h.1 q12
          refine ab_iconst O 0 dX5_isHeavier_42 rfl ?_
          exact ab_ireturn O I dX5_isHeavier_43 (by decide) (by decide) (by rfl) ⟨_, rfl, h⟩
        · have h := h.2 q12
          refine ab_iconst O 1 dX5_isHeavier_38 rfl ?_
          refine ab_goto O 43 dX5_isHeavier_39 rfl ?_
          exact ab_ireturn O I dX5_isHeavier_43 (by decide) (by decide) (by rfl) ⟨_, rfl, h⟩
    · have h := h.2 q6
      refine ab_iconst O 1 dX5_isHeavier_18 rfl ?_
      exact ab_ireturn O I dX5_isHeavier_19 (by decide) (by decide) (by rfl) ⟨_, rfl, h⟩

def wp_X5_handUp (V : Mm) (a0 : Int32) (post : Mm → Prop) : Prop := (wp_X7_above V (a0) (fun (r2 : Int32) (V1 : Mm) => (wp_X3_hasVertex V1 (a0) (fun (r4 : Int32) (V3 : Mm) => ((r4 = 0 → post V3) ∧ (¬ r4 = 0 → (wp_X3_hasVertex V3 (r2) (fun (r7 : Int32) (V6 : Mm) => ((r7 = 0 → post V6) ∧ (¬ r7 = 0 → (vp_in r2 20 ∧ (vp_in a0 20 ∧ (vp_in r2 20 ∧ ∀ V9 : Mm, V9 = wr V6 44 (Int32.toNatClampNeg (r2)) ((V6 44 (Int32.toNatClampNeg (r2))) + (V6 44 (Int32.toNatClampNeg (a0)))) → (vp_in r2 20 ∧ (vp_in a0 20 ∧ (vp_in r2 20 ∧ ∀ V10 : Mm, V10 = wr V9 45 (Int32.toNatClampNeg (r2)) ((V9 45 (Int32.toNatClampNeg (r2))) + (V9 45 (Int32.toNatClampNeg (a0)))) → (vp_in r2 20 ∧ (wp_X5_isHeavier V10 (a0) ((V10 46 (Int32.toNatClampNeg (r2)))) (fun (r12 : Int32) (V11 : Mm) => ((r12 = 0 → post V11) ∧ (¬ r12 = 0 → (vp_in r2 20 ∧ ∀ V14 : Mm, V14 = wr V11 46 (Int32.toNatClampNeg (r2)) a0 → post V14))))))))))))))))))))))
set_option maxHeartbeats 4000000 in
theorem c_X5_handUp (d : Nat) (hd : 3 ≤ d) (l : Launch) (hl : l.stackTraces = false) (g : ab_G) (o : Nat → Int64) (D : Nat → UInt64) (a0 : Int32) {V : Mm} {post : Mm → Prop} (h : wp_X5_handUp V a0 post) : Ct l g tk_strs False d 0 0 yX5_handUp cX5_handUp 3 none [.ref 43, .int a0] (SW V o D) (tk_V g (fun u => ∃ V : Mm, u = SW V o D ∧ post V)) (fun _ _ => False) := by
  refine ct_in (by decide +kernel) (show 2 ≤ 3 by decide) (by simp [Value.category]) hl (fun X I O _ => ?_)
  show Ab X g 0 0 _ 0 [some (.ref (43)), some (.int (a0)), none] [] _
  refine ab_aload_n O 0 dX5_handUp_0 rfl rfl ?_
  refine ab_get O fl_X5_34 dX5_handUp_1 (at_43 _ _ _) rfl ?_
  refine ab_iload_n O 1 dX5_handUp_4 rfl rfl ?_
  refine ab_callvI O I.2.2.2.2.2.2 (fr := False) (st := []) lk_X5_60 rfl (at_29 _ _ _) dX5_handUp_5 (c_X7_above (d - 1) (by omega) _ O.2.2.2.2.2.2.1 _ _ _ _ h) rfl rfl ⟨by rw [I.2.1]; show d - 1 + 1 ≤ d; omega, by rw [I.2.1]; show 8 + (_ + 11) + 36 * (d - 1) ≤ 36 * d; omega⟩ (show 0 ≤ 8 by decide) ⟨by rw [I.2.1]; show 0 + 0 ≤ 0; decide, by rw [I.2.1]; show 0 + 0 ≤ 0; decide⟩ (fun q => q.elim) (fun E u q => q.elim) (fun r2 u hu => ?_)
  obtain ⟨V1, rfl, h⟩ := hu
  refine ab_istore_n O 2 dX5_handUp_8 rfl (show 2 < 3 by decide) ?_
  refine ab_aload_n O 0 dX5_handUp_9 rfl rfl ?_
  refine ab_get O fl_X5_30 dX5_handUp_10 (at_43 _ _ _) rfl ?_
  refine ab_iload_n O 1 dX5_handUp_13 rfl rfl ?_
  refine ab_callvI O I.2.2.2.2.2.2 (fr := False) (st := []) lk_X5_63 rfl (at_1 _ _ _) dX5_handUp_14 (c_X3_hasVertex (d - 1) (by omega) _ O.2.2.2.2.2.2.1 _ _ _ _ h) rfl rfl ⟨by rw [I.2.1]; show d - 1 + 1 ≤ d; omega, by rw [I.2.1]; show 8 + (_ + 11) + 36 * (d - 1) ≤ 36 * d; omega⟩ (show 0 ≤ 8 by decide) ⟨by rw [I.2.1]; show 0 + 0 ≤ 0; decide, by rw [I.2.1]; show 0 + 0 ≤ 0; decide⟩ (fun q => q.elim) (fun E u q => q.elim) (fun r4 u hu => ?_)
  obtain ⟨V3, rfl, h⟩ := hu
  refine ab_if_eq O 31 dX5_handUp_17 rfl (fun q5 => ?_) (fun q5 => ?_)
  · have h := h.1 q5
    exact ab_return O I dX5_handUp_31 (by decide) (by decide) ⟨_, rfl, h⟩
  · have h := h.2 q5
    refine ab_aload_n O 0 dX5_handUp_20 rfl rfl ?_
    refine ab_get O fl_X5_30 dX5_handUp_21 (at_43 _ _ _) rfl ?_
    refine ab_iload_n O 2 dX5_handUp_24 rfl rfl ?_
    refine ab_callvI O I.2.2.2.2.2.2 (fr := False) (st := []) lk_X5_63 rfl (at_1 _ _ _) dX5_handUp_25 (c_X3_hasVertex (d - 1) (by omega) _ O.2.2.2.2.2.2.1 _ _ _ _ h) rfl rfl ⟨by rw [I.2.1]; show d - 1 + 1 ≤ d; omega, by rw [I.2.1]; show 8 + (_ + 11) + 36 * (d - 1) ≤ 36 * d; omega⟩ (show 0 ≤ 8 by decide) ⟨by rw [I.2.1]; show 0 + 0 ≤ 0; decide, by rw [I.2.1]; show 0 + 0 ≤ 0; decide⟩ (fun q => q.elim) (fun E u q => q.elim) (fun r7 u hu => ?_)
    obtain ⟨V6, rfl, h⟩ := hu
    refine ab_if_ne O 32 dX5_handUp_28 rfl (fun q8 => ?_) (fun q8 => ?_)
    · have h := h.2 q8
      refine ab_aload_n O 0 dX5_handUp_32 rfl rfl ?_
      refine ab_get O fl_X5_9 dX5_handUp_33 (at_43 _ _ _) rfl ?_
      refine ab_iload_n O 2 dX5_handUp_36 rfl rfl ?_
      refine ab_dup2 O dX5_handUp_37 rfl rfl ?_
      refine ab_iald O dX5_handUp_38 (at_44 _ _ _) h.1 ?_
      have h := h.2
      refine ab_aload_n O 0 dX5_handUp_39 rfl rfl ?_
      refine ab_get O fl_X5_9 dX5_handUp_40 (at_43 _ _ _) rfl ?_
      refine ab_iload_n O 1 dX5_handUp_43 rfl rfl ?_
      refine ab_iald O dX5_handUp_44 (at_44 _ _ _) h.1 ?_
      have h := h.2
      refine ab_iadd O dX5_handUp_45 ?_
      refine ab_iast O dX5_handUp_46 (at_44 _ _ _) h.1 ?_
      have h := h.2
      refine ab_eq ?_ rfl rfl rfl (sa_44 _ _ _ _ _).symm
      obtain ⟨V9, eV9⟩ : ∃ z : Mm, z = wr V6 44 (Int32.toNatClampNeg (r2)) ((V6 44 (Int32.toNatClampNeg (r2))) + (V6 44 (Int32.toNatClampNeg (a0)))) := ⟨_, rfl⟩
      rw [← eV9]
      have h := h V9 eV9
      refine ab_aload_n O 0 dX5_handUp_47 rfl rfl ?_
      refine ab_get O fl_X5_15 dX5_handUp_48 (at_43 _ _ _) rfl ?_
      refine ab_iload_n O 2 dX5_handUp_51 rfl rfl ?_
      refine ab_dup2 O dX5_handUp_52 rfl rfl ?_
      refine ab_iald O dX5_handUp_53 (at_45 _ _ _) h.1 ?_
      have h := h.2
      refine ab_aload_n O 0 dX5_handUp_54 rfl rfl ?_
      refine ab_get O fl_X5_15 dX5_handUp_55 (at_43 _ _ _) rfl ?_
      refine ab_iload_n O 1 dX5_handUp_58 rfl rfl ?_
      refine ab_iald O dX5_handUp_59 (at_45 _ _ _) h.1 ?_
      have h := h.2
      refine ab_iadd O dX5_handUp_60 ?_
      refine ab_iast O dX5_handUp_61 (at_45 _ _ _) h.1 ?_
      have h := h.2
      refine ab_eq ?_ rfl rfl rfl (sa_45 _ _ _ _ _).symm
      obtain ⟨V10, eV10⟩ : ∃ z : Mm, z = wr V9 45 (Int32.toNatClampNeg (r2)) ((V9 45 (Int32.toNatClampNeg (r2))) + (V9 45 (Int32.toNatClampNeg (a0)))) := ⟨_, rfl⟩
      rw [← eV10]
      have h := h V10 eV10
      refine ab_aload_n O 0 dX5_handUp_62 rfl rfl ?_
      refine ab_iload_n O 1 dX5_handUp_63 rfl rfl ?_
      refine ab_aload_n O 0 dX5_handUp_64 rfl rfl ?_
      refine ab_get O fl_X5_18 dX5_handUp_65 (at_43 _ _ _) rfl ?_
      refine ab_iload_n O 2 dX5_handUp_68 rfl rfl ?_
      refine ab_iald O dX5_handUp_69 (at_46 _ _ _) h.1 ?_
      have h := h.2
      refine ab_callvI O I.2.2.2.2.2.2 (fr := False) (st := []) lk_X5_67 rfl (at_43 _ _ _) dX5_handUp_70 (c_X5_isHeavier (d - 1) (by omega) _ O.2.2.2.2.2.2.1 _ _ _ _ _ h) rfl rfl ⟨by rw [I.2.1]; show d - 1 + 1 ≤ d; omega, by rw [I.2.1]; show 8 + (_ + 11) + 36 * (d - 1) ≤ 36 * d; omega⟩ (show 0 ≤ 8 by decide) ⟨by rw [I.2.1]; show 0 + 0 ≤ 0; decide, by rw [I.2.1]; show 0 + 0 ≤ 0; decide⟩ (fun q => q.elim) (fun E u q => q.elim) (fun r12 u hu => ?_)
      obtain ⟨V11, rfl, h⟩ := hu
      refine ab_if_eq O 83 dX5_handUp_73 rfl (fun q13 => ?_) (fun q13 => ?_)
      · have h := h.1 q13
        exact ab_return O I dX5_handUp_83 (by decide) (by decide) ⟨_, rfl, h⟩
      · have h := h.2 q13
        refine ab_aload_n O 0 dX5_handUp_76 rfl rfl ?_
        refine ab_get O fl_X5_18 dX5_handUp_77 (at_43 _ _ _) rfl ?_
        refine ab_iload_n O 2 dX5_handUp_80 rfl rfl ?_
        refine ab_iload_n O 1 dX5_handUp_81 rfl rfl ?_
        refine ab_iast O dX5_handUp_82 (at_46 _ _ _) h.1 ?_
        have h := h.2
        refine ab_eq ?_ rfl rfl rfl (sa_46 _ _ _ _ _).symm
        obtain ⟨V14, eV14⟩ : ∃ z : Mm, z = wr V11 46 (Int32.toNatClampNeg (r2)) a0 := ⟨_, rfl⟩
        rw [← eV14]
        have h := h V14 eV14
        exact ab_return O I dX5_handUp_83 (by decide) (by decide) ⟨_, rfl, h⟩
    · have h := h.1 q8
      exact ab_return O I dX5_handUp_31 (by decide) (by decide) ⟨_, rfl, h⟩

def wp_X5_lightAbove (V : Mm) (a0 : Int32) (post : Int32 → Mm → Prop) : Prop := (wp_X3_hasVertex V (a0) (fun (r2 : Int32) (V1 : Mm) => ((r2 = 0 → post 0 V1) ∧ (¬ r2 = 0 → (vp_in a0 20 ∧ post (V1 49 (Int32.toNatClampNeg (a0))) V1)))))
set_option maxHeartbeats 4000000 in
theorem c_X5_lightAbove (d : Nat) (hd : 1 ≤ d) (l : Launch) (hl : l.stackTraces = false) (g : ab_G) (o : Nat → Int64) (D : Nat → UInt64) (a0 : Int32) {V : Mm} {post : Int32 → Mm → Prop} (h : wp_X5_lightAbove V a0 post) : Ct l g tk_strs False d 0 0 yX5_lightAbove cX5_lightAbove 2 (some .int) [.ref 43, .int a0] (SW V o D) (tk_I g (fun r u => ∃ V : Mm, u = SW V o D ∧ post r V)) (fun _ _ => False) := by
  refine ct_in (by decide +kernel) (show 2 ≤ 2 by decide) (by simp [Value.category]) hl (fun X I O _ => ?_)
  show Ab X g 0 0 _ 0 [some (.ref (43)), some (.int (a0))] [] _
  refine ab_aload_n O 0 dX5_lightAbove_0 rfl rfl ?_
  refine ab_get O fl_X5_30 dX5_lightAbove_1 (at_43 _ _ _) rfl ?_
  refine ab_iload_n O 1 dX5_lightAbove_4 rfl rfl ?_
  refine ab_callvI O I.2.2.2.2.2.2 (fr := False) (st := []) lk_X5_63 rfl (at_1 _ _ _) dX5_lightAbove_5 (c_X3_hasVertex (d - 1) (by omega) _ O.2.2.2.2.2.2.1 _ _ _ _ h) rfl rfl ⟨by rw [I.2.1]; show d - 1 + 1 ≤ d; omega, by rw [I.2.1]; show 8 + (_ + 11) + 36 * (d - 1) ≤ 36 * d; omega⟩ (show 0 ≤ 8 by decide) ⟨by rw [I.2.1]; show 0 + 0 ≤ 0; decide, by rw [I.2.1]; show 0 + 0 ≤ 0; decide⟩ (fun q => q.elim) (fun E u q => q.elim) (fun r2 u hu => ?_)
  obtain ⟨V1, rfl, h⟩ := hu
  refine ab_if_eq O 20 dX5_lightAbove_8 rfl (fun q3 => ?_) (fun q3 => ?_)
  · have h := h.1 q3
    refine ab_iconst O 0 dX5_lightAbove_20 rfl ?_
    exact ab_ireturn O I dX5_lightAbove_21 (by decide) (by decide) (by rfl) ⟨_, rfl, h⟩
  · have h := h.2 q3
    refine ab_aload_n O 0 dX5_lightAbove_11 rfl rfl ?_
    refine ab_get O fl_X5_27 dX5_lightAbove_12 (at_43 _ _ _) rfl ?_
    refine ab_iload_n O 1 dX5_lightAbove_15 rfl rfl ?_
    refine ab_iald O dX5_lightAbove_16 (at_49 _ _ _) h.1 ?_
    have h := h.2
    refine ab_goto O 21 dX5_lightAbove_17 rfl ?_
    exact ab_ireturn O I dX5_lightAbove_21 (by decide) (by decide) (by rfl) ⟨_, rfl, h⟩

def wp_X5_heavyBelow (V : Mm) (a0 : Int32) (post : Int32 → Mm → Prop) : Prop := (wp_X3_hasVertex V (a0) (fun (r2 : Int32) (V1 : Mm) => ((r2 = 0 → post (-1) V1) ∧ (¬ r2 = 0 → (vp_in a0 20 ∧ post (V1 46 (Int32.toNatClampNeg (a0))) V1)))))
set_option maxHeartbeats 4000000 in
theorem c_X5_heavyBelow (d : Nat) (hd : 1 ≤ d) (l : Launch) (hl : l.stackTraces = false) (g : ab_G) (o : Nat → Int64) (D : Nat → UInt64) (a0 : Int32) {V : Mm} {post : Int32 → Mm → Prop} (h : wp_X5_heavyBelow V a0 post) : Ct l g tk_strs False d 0 0 yX5_heavyBelow cX5_heavyBelow 2 (some .int) [.ref 43, .int a0] (SW V o D) (tk_I g (fun r u => ∃ V : Mm, u = SW V o D ∧ post r V)) (fun _ _ => False) := by
  refine ct_in (by decide +kernel) (show 2 ≤ 2 by decide) (by simp [Value.category]) hl (fun X I O _ => ?_)
  show Ab X g 0 0 _ 0 [some (.ref (43)), some (.int (a0))] [] _
  refine ab_aload_n O 0 dX5_heavyBelow_0 rfl rfl ?_
  refine ab_get O fl_X5_30 dX5_heavyBelow_1 (at_43 _ _ _) rfl ?_
  refine ab_iload_n O 1 dX5_heavyBelow_4 rfl rfl ?_
  refine ab_callvI O I.2.2.2.2.2.2 (fr := False) (st := []) lk_X5_63 rfl (at_1 _ _ _) dX5_heavyBelow_5 (c_X3_hasVertex (d - 1) (by omega) _ O.2.2.2.2.2.2.1 _ _ _ _ h) rfl rfl ⟨by rw [I.2.1]; show d - 1 + 1 ≤ d; omega, by rw [I.2.1]; show 8 + (_ + 11) + 36 * (d - 1) ≤ 36 * d; omega⟩ (show 0 ≤ 8 by decide) ⟨by rw [I.2.1]; show 0 + 0 ≤ 0; decide, by rw [I.2.1]; show 0 + 0 ≤ 0; decide⟩ (fun q => q.elim) (fun E u q => q.elim) (fun r2 u hu => ?_)
  obtain ⟨V1, rfl, h⟩ := hu
  refine ab_if_eq O 20 dX5_heavyBelow_8 rfl (fun q3 => ?_) (fun q3 => ?_)
  · have h := h.1 q3
    refine ab_iconst O (-1) dX5_heavyBelow_20 rfl ?_
    exact ab_ireturn O I dX5_heavyBelow_21 (by decide) (by decide) (by rfl) ⟨_, rfl, h⟩
  · have h := h.2 q3
    refine ab_aload_n O 0 dX5_heavyBelow_11 rfl rfl ?_
    refine ab_get O fl_X5_18 dX5_heavyBelow_12 (at_43 _ _ _) rfl ?_
    refine ab_iload_n O 1 dX5_heavyBelow_15 rfl rfl ?_
    refine ab_iald O dX5_heavyBelow_16 (at_46 _ _ _) h.1 ?_
    have h := h.2
    refine ab_goto O 21 dX5_heavyBelow_17 rfl ?_
    exact ab_ireturn O I dX5_heavyBelow_21 (by decide) (by decide) (by rfl) ⟨_, rfl, h⟩

def wp_X5_headOf (V : Mm) (a0 : Int32) (post : Int32 → Mm → Prop) : Prop := (wp_X3_hasVertex V (a0) (fun (r2 : Int32) (V1 : Mm) => ((r2 = 0 → post (-1) V1) ∧ (¬ r2 = 0 → (vp_in a0 20 ∧ post (V1 47 (Int32.toNatClampNeg (a0))) V1)))))
set_option maxHeartbeats 4000000 in
theorem c_X5_headOf (d : Nat) (hd : 1 ≤ d) (l : Launch) (hl : l.stackTraces = false) (g : ab_G) (o : Nat → Int64) (D : Nat → UInt64) (a0 : Int32) {V : Mm} {post : Int32 → Mm → Prop} (h : wp_X5_headOf V a0 post) : Ct l g tk_strs False d 0 0 yX5_headOf cX5_headOf 2 (some .int) [.ref 43, .int a0] (SW V o D) (tk_I g (fun r u => ∃ V : Mm, u = SW V o D ∧ post r V)) (fun _ _ => False) := by
  refine ct_in (by decide +kernel) (show 2 ≤ 2 by decide) (by simp [Value.category]) hl (fun X I O _ => ?_)
  show Ab X g 0 0 _ 0 [some (.ref (43)), some (.int (a0))] [] _
  refine ab_aload_n O 0 dX5_headOf_0 rfl rfl ?_
  refine ab_get O fl_X5_30 dX5_headOf_1 (at_43 _ _ _) rfl ?_
  refine ab_iload_n O 1 dX5_headOf_4 rfl rfl ?_
  refine ab_callvI O I.2.2.2.2.2.2 (fr := False) (st := []) lk_X5_63 rfl (at_1 _ _ _) dX5_headOf_5 (c_X3_hasVertex (d - 1) (by omega) _ O.2.2.2.2.2.2.1 _ _ _ _ h) rfl rfl ⟨by rw [I.2.1]; show d - 1 + 1 ≤ d; omega, by rw [I.2.1]; show 8 + (_ + 11) + 36 * (d - 1) ≤ 36 * d; omega⟩ (show 0 ≤ 8 by decide) ⟨by rw [I.2.1]; show 0 + 0 ≤ 0; decide, by rw [I.2.1]; show 0 + 0 ≤ 0; decide⟩ (fun q => q.elim) (fun E u q => q.elim) (fun r2 u hu => ?_)
  obtain ⟨V1, rfl, h⟩ := hu
  refine ab_if_eq O 20 dX5_headOf_8 rfl (fun q3 => ?_) (fun q3 => ?_)
  · have h := h.1 q3
    refine ab_iconst O (-1) dX5_headOf_20 rfl ?_
    exact ab_ireturn O I dX5_headOf_21 (by decide) (by decide) (by rfl) ⟨_, rfl, h⟩
  · have h := h.2 q3
    refine ab_aload_n O 0 dX5_headOf_11 rfl rfl ?_
    refine ab_get O fl_X5_21 dX5_headOf_12 (at_43 _ _ _) rfl ?_
    refine ab_iload_n O 1 dX5_headOf_15 rfl rfl ?_
    refine ab_iald O dX5_headOf_16 (at_47 _ _ _) h.1 ?_
    have h := h.2
    refine ab_goto O 21 dX5_headOf_17 rfl ?_
    exact ab_ireturn O I dX5_headOf_21 (by decide) (by decide) (by rfl) ⟨_, rfl, h⟩

def wp_X5_sumToHead (V : Mm) (a0 : Int32) (post : Int32 → Mm → Prop) : Prop := (wp_X3_hasVertex V (a0) (fun (r2 : Int32) (V1 : Mm) => ((r2 = 0 → post 0 V1) ∧ (¬ r2 = 0 → (vp_in a0 20 ∧ post (V1 48 (Int32.toNatClampNeg (a0))) V1)))))
set_option maxHeartbeats 4000000 in
theorem c_X5_sumToHead (d : Nat) (hd : 1 ≤ d) (l : Launch) (hl : l.stackTraces = false) (g : ab_G) (o : Nat → Int64) (D : Nat → UInt64) (a0 : Int32) {V : Mm} {post : Int32 → Mm → Prop} (h : wp_X5_sumToHead V a0 post) : Ct l g tk_strs False d 0 0 yX5_sumToHead cX5_sumToHead 2 (some .int) [.ref 43, .int a0] (SW V o D) (tk_I g (fun r u => ∃ V : Mm, u = SW V o D ∧ post r V)) (fun _ _ => False) := by
  refine ct_in (by decide +kernel) (show 2 ≤ 2 by decide) (by simp [Value.category]) hl (fun X I O _ => ?_)
  show Ab X g 0 0 _ 0 [some (.ref (43)), some (.int (a0))] [] _
  refine ab_aload_n O 0 dX5_sumToHead_0 rfl rfl ?_
  refine ab_get O fl_X5_30 dX5_sumToHead_1 (at_43 _ _ _) rfl ?_
  refine ab_iload_n O 1 dX5_sumToHead_4 rfl rfl ?_
  refine ab_callvI O I.2.2.2.2.2.2 (fr := False) (st := []) lk_X5_63 rfl (at_1 _ _ _) dX5_sumToHead_5 (c_X3_hasVertex (d - 1) (by omega) _ O.2.2.2.2.2.2.1 _ _ _ _ h) rfl rfl ⟨by rw [I.2.1]; show d - 1 + 1 ≤ d; omega, by rw [I.2.1]; show 8 + (_ + 11) + 36 * (d - 1) ≤ 36 * d; omega⟩ (show 0 ≤ 8 by decide) ⟨by rw [I.2.1]; show 0 + 0 ≤ 0; decide, by rw [I.2.1]; show 0 + 0 ≤ 0; decide⟩ (fun q => q.elim) (fun E u q => q.elim) (fun r2 u hu => ?_)
  obtain ⟨V1, rfl, h⟩ := hu
  refine ab_if_eq O 20 dX5_sumToHead_8 rfl (fun q3 => ?_) (fun q3 => ?_)
  · have h := h.1 q3
    refine ab_iconst O 0 dX5_sumToHead_20 rfl ?_
    exact ab_ireturn O I dX5_sumToHead_21 (by decide) (by decide) (by rfl) ⟨_, rfl, h⟩
  · have h := h.2 q3
    refine ab_aload_n O 0 dX5_sumToHead_11 rfl rfl ?_
    refine ab_get O fl_X5_24 dX5_sumToHead_12 (at_43 _ _ _) rfl ?_
    refine ab_iload_n O 1 dX5_sumToHead_15 rfl rfl ?_
    refine ab_iald O dX5_sumToHead_16 (at_48 _ _ _) h.1 ?_
    have h := h.2
    refine ab_goto O 21 dX5_sumToHead_17 rfl ?_
    exact ab_ireturn O I dX5_sumToHead_21 (by decide) (by decide) (by rfl) ⟨_, rfl, h⟩

def wp_X5_followDown (V : Mm) (a0 : Int32) (post : Mm → Prop) : Prop := (wp_X3_hasVertex V (a0) (fun (r2 : Int32) (V1 : Mm) => ((r2 = 0 → post V1) ∧ (¬ r2 = 0 → (wp_X7_above V1 (a0) (fun (r5 : Int32) (V4 : Mm) => ((r5 = (-1) → ((r5 = (-1) → (vp_in a0 20 ∧ ∀ V8 : Mm, V8 = wr V4 47 (Int32.toNatClampNeg (a0)) a0 → (wp_X3_valueOf V8 (a0) (fun (r10 : Int32) (V9 : Mm) => (vp_in a0 20 ∧ ∀ V11 : Mm, V11 = wr V9 48 (Int32.toNatClampNeg (a0)) (r10 + 0) → (wp_X5_lightAbove V11 (r5) (fun (r13 : Int32) (V12 : Mm) => (vp_in a0 20 ∧ ∀ V14 : Mm, V14 = wr V12 49 (Int32.toNatClampNeg (a0)) (r13 + 0) → post V14)))))))) ∧ (¬ r5 = (-1) → (vp_in a0 20 ∧ ∀ V15 : Mm, V15 = wr V4 47 (Int32.toNatClampNeg (a0)) a0 → (wp_X3_valueOf V15 (a0) (fun (r17 : Int32) (V16 : Mm) => (vp_in a0 20 ∧ ∀ V18 : Mm, V18 = wr V16 48 (Int32.toNatClampNeg (a0)) (r17 + 0) → (wp_X5_lightAbove V18 (r5) (fun (r20 : Int32) (V19 : Mm) => (vp_in a0 20 ∧ ∀ V21 : Mm, V21 = wr V19 49 (Int32.toNatClampNeg (a0)) (r20 + 1) → post V21)))))))))) ∧ (¬ r5 = (-1) → (wp_X5_heavyBelow V4 (r5) (fun (r23 : Int32) (V22 : Mm) => ((r23 = a0 → ((r5 = (-1) → (wp_X5_headOf V22 (r5) (fun (r42 : Int32) (V41 : Mm) => (vp_in a0 20 ∧ ∀ V43 : Mm, V43 = wr V41 47 (Int32.toNatClampNeg (a0)) r42 → (wp_X3_valueOf V43 (a0) (fun (r45 : Int32) (V44 : Mm) => (wp_X5_sumToHead V44 (r5) (fun (r47 : Int32) (V46 : Mm) => (vp_in a0 20 ∧ ∀ V48 : Mm, V48 = wr V46 48 (Int32.toNatClampNeg (a0)) (r45 + r47) → (wp_X5_lightAbove V48 (r5) (fun (r50 : Int32) (V49 : Mm) => (vp_in a0 20 ∧ ∀ V51 : Mm, V51 = wr V49 49 (Int32.toNatClampNeg (a0)) (r50 + 0) → post V51)))))))))))) ∧ (¬ r5 = (-1) → (wp_X5_headOf V22 (r5) (fun (r53 : Int32) (V52 : Mm) => (vp_in a0 20 ∧ ∀ V54 : Mm, V54 = wr V52 47 (Int32.toNatClampNeg (a0)) r53 → (wp_X3_valueOf V54 (a0) (fun (r56 : Int32) (V55 : Mm) => (wp_X5_sumToHead V55 (r5) (fun (r58 : Int32) (V57 : Mm) => (vp_in a0 20 ∧ ∀ V59 : Mm, V59 = wr V57 48 (Int32.toNatClampNeg (a0)) (r56 + r58) → (wp_X5_lightAbove V59 (r5) (fun (r61 : Int32) (V60 : Mm) => (vp_in a0 20 ∧ ∀ V62 : Mm, V62 = wr V60 49 (Int32.toNatClampNeg (a0)) (r61 + 0) → post V62)))))))))))))) ∧ (¬ r23 = a0 → ((r5 = (-1) → (vp_in a0 20 ∧ ∀ V26 : Mm, V26 = wr V22 47 (Int32.toNatClampNeg (a0)) a0 → (wp_X3_valueOf V26 (a0) (fun (r28 : Int32) (V27 : Mm) => (vp_in a0 20 ∧ ∀ V29 : Mm, V29 = wr V27 48 (Int32.toNatClampNeg (a0)) (r28 + 0) → (wp_X5_lightAbove V29 (r5) (fun (r31 : Int32) (V30 : Mm) => (vp_in a0 20 ∧ ∀ V32 : Mm, V32 = wr V30 49 (Int32.toNatClampNeg (a0)) (r31 + 0) → post V32)))))))) ∧ (¬ r5 = (-1) → (vp_in a0 20 ∧ ∀ V33 : Mm, V33 = wr V22 47 (Int32.toNatClampNeg (a0)) a0 → (wp_X3_valueOf V33 (a0) (fun (r35 : Int32) (V34 : Mm) => (vp_in a0 20 ∧ ∀ V36 : Mm, V36 = wr V34 48 (Int32.toNatClampNeg (a0)) (r35 + 0) → (wp_X5_lightAbove V36 (r5) (fun (r38 : Int32) (V37 : Mm) => (vp_in a0 20 ∧ ∀ V39 : Mm, V39 = wr V37 49 (Int32.toNatClampNeg (a0)) (r38 + 1) → post V39)))))))))))))))))))))
set_option maxHeartbeats 4000000 in
theorem c_X5_followDown (d : Nat) (hd : 2 ≤ d) (l : Launch) (hl : l.stackTraces = false) (g : ab_G) (o : Nat → Int64) (D : Nat → UInt64) (a0 : Int32) {V : Mm} {post : Mm → Prop} (h : wp_X5_followDown V a0 post) : Ct l g tk_strs False d 0 0 yX5_followDown cX5_followDown 5 none [.ref 43, .int a0] (SW V o D) (tk_V g (fun u => ∃ V : Mm, u = SW V o D ∧ post V)) (fun _ _ => False) := by
  refine ct_in (by decide +kernel) (show 2 ≤ 5 by decide) (by simp [Value.category]) hl (fun X I O _ => ?_)
  show Ab X g 0 0 _ 0 [some (.ref (43)), some (.int (a0)), none, none, none] [] _
  refine ab_aload_n O 0 dX5_followDown_0 rfl rfl ?_
  refine ab_get O fl_X5_30 dX5_followDown_1 (at_43 _ _ _) rfl ?_
  refine ab_iload_n O 1 dX5_followDown_4 rfl rfl ?_
  refine ab_callvI O I.2.2.2.2.2.2 (fr := False) (st := []) lk_X5_63 rfl (at_1 _ _ _) dX5_followDown_5 (c_X3_hasVertex (d - 1) (by omega) _ O.2.2.2.2.2.2.1 _ _ _ _ h) rfl rfl ⟨by rw [I.2.1]; show d - 1 + 1 ≤ d; omega, by rw [I.2.1]; show 8 + (_ + 11) + 36 * (d - 1) ≤ 36 * d; omega⟩ (show 0 ≤ 8 by decide) ⟨by rw [I.2.1]; show 0 + 0 ≤ 0; decide, by rw [I.2.1]; show 0 + 0 ≤ 0; decide⟩ (fun q => q.elim) (fun E u q => q.elim) (fun r2 u hu => ?_)
  obtain ⟨V1, rfl, h⟩ := hu
  refine ab_if_ne O 12 dX5_followDown_8 rfl (fun q3 => ?_) (fun q3 => ?_)
  · have h := h.2 q3
    refine ab_aload_n O 0 dX5_followDown_12 rfl rfl ?_
    refine ab_get O fl_X5_34 dX5_followDown_13 (at_43 _ _ _) rfl ?_
    refine ab_iload_n O 1 dX5_followDown_16 rfl rfl ?_
    refine ab_callvI O I.2.2.2.2.2.2 (fr := False) (st := []) lk_X5_60 rfl (at_29 _ _ _) dX5_followDown_17 (c_X7_above (d - 1) (by omega) _ O.2.2.2.2.2.2.1 _ _ _ _ h) rfl rfl ⟨by rw [I.2.1]; show d - 1 + 1 ≤ d; omega, by rw [I.2.1]; show 8 + (_ + 11) + 36 * (d - 1) ≤ 36 * d; omega⟩ (show 0 ≤ 8 by decide) ⟨by rw [I.2.1]; show 0 + 0 ≤ 0; decide, by rw [I.2.1]; show 0 + 0 ≤ 0; decide⟩ (fun q => q.elim) (fun E u q => q.elim) (fun r5 u hu => ?_)
    obtain ⟨V4, rfl, h⟩ := hu
    refine ab_istore_n O 2 dX5_followDown_20 rfl (show 2 < 5 by decide) ?_
    refine ab_iload_n O 2 dX5_followDown_21 rfl rfl ?_
    refine ab_iconst O (-1) dX5_followDown_22 rfl ?_
    refine ab_icmp_eq O 39 dX5_followDown_23 rfl (fun q6 => ?_) (fun q6 => ?_)
    · have h := h.1 q6
      refine ab_iconst O 0 dX5_followDown_39 rfl ?_
      refine ab_istore_n O 3 dX5_followDown_40 rfl (show 3 < 5 by decide) ?_
      refine ab_iload_n O 2 dX5_followDown_41 rfl rfl ?_
      refine ab_iconst O (-1) dX5_followDown_42 rfl ?_
      refine ab_icmp_eq O 54 dX5_followDown_43 rfl (fun q7 => ?_) (fun q7 => ?_)
      · have h := h.1 q7
        refine ab_iconst O 0 dX5_followDown_54 rfl ?_
        refine ab_istore O dX5_followDown_55 (show 4 < 5 by decide) ?_
        refine ab_aload_n O 0 dX5_followDown_57 rfl rfl ?_
        refine ab_get O fl_X5_21 dX5_followDown_58 (at_43 _ _ _) rfl ?_
        refine ab_iload_n O 1 dX5_followDown_61 rfl rfl ?_
        refine ab_iload_n O 3 dX5_followDown_62 rfl rfl ?_
        refine ab_if_eq O 74 dX5_followDown_63 rfl (fun _ => ?_) (fun q => absurd q (by decide))
        refine ab_iload_n O 1 dX5_followDown_74 rfl rfl ?_
        refine ab_iast O dX5_followDown_75 (at_47 _ _ _) h.1 ?_
        have h := h.2
        refine ab_eq ?_ rfl rfl rfl (sa_47 _ _ _ _ _).symm
        obtain ⟨V8, eV8⟩ : ∃ z : Mm, z = wr V4 47 (Int32.toNatClampNeg (a0)) a0 := ⟨_, rfl⟩
        rw [← eV8]
        have h := h V8 eV8
        refine ab_aload_n O 0 dX5_followDown_76 rfl rfl ?_
        refine ab_get O fl_X5_24 dX5_followDown_77 (at_43 _ _ _) rfl ?_
        refine ab_iload_n O 1 dX5_followDown_80 rfl rfl ?_
        refine ab_aload_n O 0 dX5_followDown_81 rfl rfl ?_
        refine ab_get O fl_X5_30 dX5_followDown_82 (at_43 _ _ _) rfl ?_
        refine ab_iload_n O 1 dX5_followDown_85 rfl rfl ?_
        refine ab_callvI O I.2.2.2.2.2.2 (fr := False) (st := [.int (a0), .ref (48)]) lk_X5_38 rfl (at_1 _ _ _) dX5_followDown_86 (c_X3_valueOf (d - 1) (by omega) _ O.2.2.2.2.2.2.1 _ _ _ _ h) rfl rfl ⟨by rw [I.2.1]; show d - 1 + 1 ≤ d; omega, by rw [I.2.1]; show 8 + (_ + 11) + 36 * (d - 1) ≤ 36 * d; omega⟩ (show 2 ≤ 8 by decide) ⟨by rw [I.2.1]; show 0 + 0 ≤ 0; decide, by rw [I.2.1]; show 0 + 0 ≤ 0; decide⟩ (fun q => q.elim) (fun E u q => q.elim) (fun r10 u hu => ?_)
        obtain ⟨V9, rfl, h⟩ := hu
        refine ab_iload_n O 3 dX5_followDown_89 rfl rfl ?_
        refine ab_if_eq O 101 dX5_followDown_90 rfl (fun _ => ?_) (fun q => absurd q (by decide))
        refine ab_iconst O 0 dX5_followDown_101 rfl ?_
        refine ab_iadd O dX5_followDown_102 ?_
        refine ab_iast O dX5_followDown_103 (at_48 _ _ _) h.1 ?_
        have h := h.2
        refine ab_eq ?_ rfl rfl rfl (sa_48 _ _ _ _ _).symm
        obtain ⟨V11, eV11⟩ : ∃ z : Mm, z = wr V9 48 (Int32.toNatClampNeg (a0)) (r10 + 0) := ⟨_, rfl⟩
        rw [← eV11]
        have h := h V11 eV11
        refine ab_aload_n O 0 dX5_followDown_104 rfl rfl ?_
        refine ab_get O fl_X5_27 dX5_followDown_105 (at_43 _ _ _) rfl ?_
        refine ab_iload_n O 1 dX5_followDown_108 rfl rfl ?_
        refine ab_aload_n O 0 dX5_followDown_109 rfl rfl ?_
        refine ab_iload_n O 2 dX5_followDown_110 rfl rfl ?_
        refine ab_callvI O I.2.2.2.2.2.2 (fr := False) (st := [.int (a0), .ref (49)]) lk_X5_83 rfl (at_43 _ _ _) dX5_followDown_111 (c_X5_lightAbove (d - 1) (by omega) _ O.2.2.2.2.2.2.1 _ _ _ _ h) rfl rfl ⟨by rw [I.2.1]; show d - 1 + 1 ≤ d; omega, by rw [I.2.1]; show 8 + (_ + 11) + 36 * (d - 1) ≤ 36 * d; omega⟩ (show 2 ≤ 8 by decide) ⟨by rw [I.2.1]; show 0 + 0 ≤ 0; decide, by rw [I.2.1]; show 0 + 0 ≤ 0; decide⟩ (fun q => q.elim) (fun E u q => q.elim) (fun r13 u hu => ?_)
        obtain ⟨V12, rfl, h⟩ := hu
        refine ab_iload O dX5_followDown_114 rfl ?_
        refine ab_if_eq O 123 dX5_followDown_116 rfl (fun _ => ?_) (fun q => absurd q (by decide))
        refine ab_iconst O 0 dX5_followDown_123 rfl ?_
        refine ab_iadd O dX5_followDown_124 ?_
        refine ab_iast O dX5_followDown_125 (at_49 _ _ _) h.1 ?_
        have h := h.2
        refine ab_eq ?_ rfl rfl rfl (sa_49 _ _ _ _ _).symm
        obtain ⟨V14, eV14⟩ : ∃ z : Mm, z = wr V12 49 (Int32.toNatClampNeg (a0)) (r13 + 0) := ⟨_, rfl⟩
        rw [← eV14]
        have h := h V14 eV14
        exact ab_return O I dX5_followDown_126 (by decide) (by decide) ⟨_, rfl, h⟩
      · have h := h.2 q7
        refine ab_iload_n O 3 dX5_followDown_46 rfl rfl ?_
        refine ab_if_ne O 54 dX5_followDown_47 rfl (fun q => absurd q (by decide)) (fun _ => ?_)
        refine ab_iconst O 1 dX5_followDown_50 rfl ?_
        refine ab_goto O 55 dX5_followDown_51 rfl ?_
        refine ab_istore O dX5_followDown_55 (show 4 < 5 by decide) ?_
        refine ab_aload_n O 0 dX5_followDown_57 rfl rfl ?_
        refine ab_get O fl_X5_21 dX5_followDown_58 (at_43 _ _ _) rfl ?_
        refine ab_iload_n O 1 dX5_followDown_61 rfl rfl ?_
        refine ab_iload_n O 3 dX5_followDown_62 rfl rfl ?_
        refine ab_if_eq O 74 dX5_followDown_63 rfl (fun _ => ?_) (fun q => absurd q (by decide))
        refine ab_iload_n O 1 dX5_followDown_74 rfl rfl ?_
        refine ab_iast O dX5_followDown_75 (at_47 _ _ _) h.1 ?_
        have h := h.2
        refine ab_eq ?_ rfl rfl rfl (sa_47 _ _ _ _ _).symm
        obtain ⟨V15, eV15⟩ : ∃ z : Mm, z = wr V4 47 (Int32.toNatClampNeg (a0)) a0 := ⟨_, rfl⟩
        rw [← eV15]
        have h := h V15 eV15
        refine ab_aload_n O 0 dX5_followDown_76 rfl rfl ?_
        refine ab_get O fl_X5_24 dX5_followDown_77 (at_43 _ _ _) rfl ?_
        refine ab_iload_n O 1 dX5_followDown_80 rfl rfl ?_
        refine ab_aload_n O 0 dX5_followDown_81 rfl rfl ?_
        refine ab_get O fl_X5_30 dX5_followDown_82 (at_43 _ _ _) rfl ?_
        refine ab_iload_n O 1 dX5_followDown_85 rfl rfl ?_
        refine ab_callvI O I.2.2.2.2.2.2 (fr := False) (st := [.int (a0), .ref (48)]) lk_X5_38 rfl (at_1 _ _ _) dX5_followDown_86 (c_X3_valueOf (d - 1) (by omega) _ O.2.2.2.2.2.2.1 _ _ _ _ h) rfl rfl ⟨by rw [I.2.1]; show d - 1 + 1 ≤ d; omega, by rw [I.2.1]; show 8 + (_ + 11) + 36 * (d - 1) ≤ 36 * d; omega⟩ (show 2 ≤ 8 by decide) ⟨by rw [I.2.1]; show 0 + 0 ≤ 0; decide, by rw [I.2.1]; show 0 + 0 ≤ 0; decide⟩ (fun q => q.elim) (fun E u q => q.elim) (fun r17 u hu => ?_)
        obtain ⟨V16, rfl, h⟩ := hu
        refine ab_iload_n O 3 dX5_followDown_89 rfl rfl ?_
        refine ab_if_eq O 101 dX5_followDown_90 rfl (fun _ => ?_) (fun q => absurd q (by decide))
        refine ab_iconst O 0 dX5_followDown_101 rfl ?_
        refine ab_iadd O dX5_followDown_102 ?_
        refine ab_iast O dX5_followDown_103 (at_48 _ _ _) h.1 ?_
        have h := h.2
        refine ab_eq ?_ rfl rfl rfl (sa_48 _ _ _ _ _).symm
        obtain ⟨V18, eV18⟩ : ∃ z : Mm, z = wr V16 48 (Int32.toNatClampNeg (a0)) (r17 + 0) := ⟨_, rfl⟩
        rw [← eV18]
        have h := h V18 eV18
        refine ab_aload_n O 0 dX5_followDown_104 rfl rfl ?_
        refine ab_get O fl_X5_27 dX5_followDown_105 (at_43 _ _ _) rfl ?_
        refine ab_iload_n O 1 dX5_followDown_108 rfl rfl ?_
        refine ab_aload_n O 0 dX5_followDown_109 rfl rfl ?_
        refine ab_iload_n O 2 dX5_followDown_110 rfl rfl ?_
        refine ab_callvI O I.2.2.2.2.2.2 (fr := False) (st := [.int (a0), .ref (49)]) lk_X5_83 rfl (at_43 _ _ _) dX5_followDown_111 (c_X5_lightAbove (d - 1) (by omega) _ O.2.2.2.2.2.2.1 _ _ _ _ h) rfl rfl ⟨by rw [I.2.1]; show d - 1 + 1 ≤ d; omega, by rw [I.2.1]; show 8 + (_ + 11) + 36 * (d - 1) ≤ 36 * d; omega⟩ (show 2 ≤ 8 by decide) ⟨by rw [I.2.1]; show 0 + 0 ≤ 0; decide, by rw [I.2.1]; show 0 + 0 ≤ 0; decide⟩ (fun q => q.elim) (fun E u q => q.elim) (fun r20 u hu => ?_)
        obtain ⟨V19, rfl, h⟩ := hu
        refine ab_iload O dX5_followDown_114 rfl ?_
        refine ab_if_eq O 123 dX5_followDown_116 rfl (fun q => absurd q (by decide)) (fun _ => ?_)
        refine ab_iconst O 1 dX5_followDown_119 rfl ?_
        refine ab_goto O 124 dX5_followDown_120 rfl ?_
        refine ab_iadd O dX5_followDown_124 ?_
        refine ab_iast O dX5_followDown_125 (at_49 _ _ _) h.1 ?_
        have h := h.2
        refine ab_eq ?_ rfl rfl rfl (sa_49 _ _ _ _ _).symm
        obtain ⟨V21, eV21⟩ : ∃ z : Mm, z = wr V19 49 (Int32.toNatClampNeg (a0)) (r20 + 1) := ⟨_, rfl⟩
        rw [← eV21]
        have h := h V21 eV21
        exact ab_return O I dX5_followDown_126 (by decide) (by decide) ⟨_, rfl, h⟩
    · have h := h.2 q6
      refine ab_aload_n O 0 dX5_followDown_26 rfl rfl ?_
      refine ab_iload_n O 2 dX5_followDown_27 rfl rfl ?_
      refine ab_callvI O I.2.2.2.2.2.2 (fr := False) (st := []) lk_X5_74 rfl (at_43 _ _ _) dX5_followDown_28 (c_X5_heavyBelow (d - 1) (by omega) _ O.2.2.2.2.2.2.1 _ _ _ _ h) rfl rfl ⟨by rw [I.2.1]; show d - 1 + 1 ≤ d; omega, by rw [I.2.1]; show 8 + (_ + 11) + 36 * (d - 1) ≤ 36 * d; omega⟩ (show 0 ≤ 8 by decide) ⟨by rw [I.2.1]; show 0 + 0 ≤ 0; decide, by rw [I.2.1]; show 0 + 0 ≤ 0; decide⟩ (fun q => q.elim) (fun E u q => q.elim) (fun r23 u hu => ?_)
      obtain ⟨V22, rfl, h⟩ := hu
      refine ab_iload_n O 1 dX5_followDown_31 rfl rfl ?_
      refine ab_icmp_ne O 39 dX5_followDown_32 rfl (fun q24 => ?_) (fun q24 => ?_)
      · have h := h.2 q24
        refine ab_iconst O 0 dX5_followDown_39 rfl ?_
        refine ab_istore_n O 3 dX5_followDown_40 rfl (show 3 < 5 by decide) ?_
        refine ab_iload_n O 2 dX5_followDown_41 rfl rfl ?_
        refine ab_iconst O (-1) dX5_followDown_42 rfl ?_
        refine ab_icmp_eq O 54 dX5_followDown_43 rfl (fun q25 => ?_) (fun q25 => ?_)
        · have h := h.1 q25
          refine ab_iconst O 0 dX5_followDown_54 rfl ?_
          refine ab_istore O dX5_followDown_55 (show 4 < 5 by decide) ?_
          refine ab_aload_n O 0 dX5_followDown_57 rfl rfl ?_
          refine ab_get O fl_X5_21 dX5_followDown_58 (at_43 _ _ _) rfl ?_
          refine ab_iload_n O 1 dX5_followDown_61 rfl rfl ?_
          refine ab_iload_n O 3 dX5_followDown_62 rfl rfl ?_
          refine ab_if_eq O 74 dX5_followDown_63 rfl (fun _ => ?_) (fun q => absurd q (by decide))
          refine ab_iload_n O 1 dX5_followDown_74 rfl rfl ?_
          refine ab_iast O dX5_followDown_75 (at_47 _ _ _) h.1 ?_
          have h := h.2
          refine ab_eq ?_ rfl rfl rfl (sa_47 _ _ _ _ _).symm
          obtain ⟨V26, eV26⟩ : ∃ z : Mm, z = wr V22 47 (Int32.toNatClampNeg (a0)) a0 := ⟨_, rfl⟩
          rw [← eV26]
          have h := h V26 eV26
          refine ab_aload_n O 0 dX5_followDown_76 rfl rfl ?_
          refine ab_get O fl_X5_24 dX5_followDown_77 (at_43 _ _ _) rfl ?_
          refine ab_iload_n O 1 dX5_followDown_80 rfl rfl ?_
          refine ab_aload_n O 0 dX5_followDown_81 rfl rfl ?_
          refine ab_get O fl_X5_30 dX5_followDown_82 (at_43 _ _ _) rfl ?_
          refine ab_iload_n O 1 dX5_followDown_85 rfl rfl ?_
          refine ab_callvI O I.2.2.2.2.2.2 (fr := False) (st := [.int (a0), .ref (48)]) lk_X5_38 rfl (at_1 _ _ _) dX5_followDown_86 (c_X3_valueOf (d - 1) (by omega) _ O.2.2.2.2.2.2.1 _ _ _ _ h) rfl rfl ⟨by rw [I.2.1]; show d - 1 + 1 ≤ d; omega, by rw [I.2.1]; show 8 + (_ + 11) + 36 * (d - 1) ≤ 36 * d; omega⟩ (show 2 ≤ 8 by decide) ⟨by rw [I.2.1]; show 0 + 0 ≤ 0; decide, by rw [I.2.1]; show 0 + 0 ≤ 0; decide⟩ (fun q => q.elim) (fun E u q => q.elim) (fun r28 u hu => ?_)
          obtain ⟨V27, rfl, h⟩ := hu
          refine ab_iload_n O 3 dX5_followDown_89 rfl rfl ?_
          refine ab_if_eq O 101 dX5_followDown_90 rfl (fun _ => ?_) (fun q => absurd q (by decide))
          refine ab_iconst O 0 dX5_followDown_101 rfl ?_
          refine ab_iadd O dX5_followDown_102 ?_
          refine ab_iast O dX5_followDown_103 (at_48 _ _ _) h.1 ?_
          have h := h.2
          refine ab_eq ?_ rfl rfl rfl (sa_48 _ _ _ _ _).symm
          obtain ⟨V29, eV29⟩ : ∃ z : Mm, z = wr V27 48 (Int32.toNatClampNeg (a0)) (r28 + 0) := ⟨_, rfl⟩
          rw [← eV29]
          have h := h V29 eV29
          refine ab_aload_n O 0 dX5_followDown_104 rfl rfl ?_
          refine ab_get O fl_X5_27 dX5_followDown_105 (at_43 _ _ _) rfl ?_
          refine ab_iload_n O 1 dX5_followDown_108 rfl rfl ?_
          refine ab_aload_n O 0 dX5_followDown_109 rfl rfl ?_
          refine ab_iload_n O 2 dX5_followDown_110 rfl rfl ?_
          refine ab_callvI O I.2.2.2.2.2.2 (fr := False) (st := [.int (a0), .ref (49)]) lk_X5_83 rfl (at_43 _ _ _) dX5_followDown_111 (c_X5_lightAbove (d - 1) (by omega) _ O.2.2.2.2.2.2.1 _ _ _ _ h) rfl rfl ⟨by rw [I.2.1]; show d - 1 + 1 ≤ d; omega, by rw [I.2.1]; show 8 + (_ + 11) + 36 * (d - 1) ≤ 36 * d; omega⟩ (show 2 ≤ 8 by decide) ⟨by rw [I.2.1]; show 0 + 0 ≤ 0; decide, by rw [I.2.1]; show 0 + 0 ≤ 0; decide⟩ (fun q => q.elim) (fun E u q => q.elim) (fun r31 u hu => ?_)
          obtain ⟨V30, rfl, h⟩ := hu
          refine ab_iload O dX5_followDown_114 rfl ?_
          refine ab_if_eq O 123 dX5_followDown_116 rfl (fun _ => ?_) (fun q => absurd q (by decide))
          refine ab_iconst O 0 dX5_followDown_123 rfl ?_
          refine ab_iadd O dX5_followDown_124 ?_
          refine ab_iast O dX5_followDown_125 (at_49 _ _ _) h.1 ?_
          have h := h.2
          refine ab_eq ?_ rfl rfl rfl (sa_49 _ _ _ _ _).symm
          obtain ⟨V32, eV32⟩ : ∃ z : Mm, z = wr V30 49 (Int32.toNatClampNeg (a0)) (r31 + 0) := ⟨_, rfl⟩
          rw [← eV32]
          have h := h V32 eV32
          exact ab_return O I dX5_followDown_126 (by decide) (by decide) ⟨_, rfl, h⟩
        · have h := h.2 q25
          refine ab_iload_n O 3 dX5_followDown_46 rfl rfl ?_
          refine ab_if_ne O 54 dX5_followDown_47 rfl (fun q => absurd q (by decide)) (fun _ => ?_)
          refine ab_iconst O 1 dX5_followDown_50 rfl ?_
          refine ab_goto O 55 dX5_followDown_51 rfl ?_
          refine ab_istore O dX5_followDown_55 (show 4 < 5 by decide) ?_
          refine ab_aload_n O 0 dX5_followDown_57 rfl rfl ?_
          refine ab_get O fl_X5_21 dX5_followDown_58 (at_43 _ _ _) rfl ?_
          refine ab_iload_n O 1 dX5_followDown_61 rfl rfl ?_
          refine ab_iload_n O 3 dX5_followDown_62 rfl rfl ?_
          refine ab_if_eq O 74 dX5_followDown_63 rfl (fun _ => ?_) (fun q => absurd q (by decide))
          refine ab_iload_n O 1 dX5_followDown_74 rfl rfl ?_
          refine ab_iast O dX5_followDown_75 (at_47 _ _ _) h.1 ?_
          have h := h.2
          refine ab_eq ?_ rfl rfl rfl (sa_47 _ _ _ _ _).symm
          obtain ⟨V33, eV33⟩ : ∃ z : Mm, z = wr V22 47 (Int32.toNatClampNeg (a0)) a0 := ⟨_, rfl⟩
          rw [← eV33]
          have h := h V33 eV33
          refine ab_aload_n O 0 dX5_followDown_76 rfl rfl ?_
          refine ab_get O fl_X5_24 dX5_followDown_77 (at_43 _ _ _) rfl ?_
          refine ab_iload_n O 1 dX5_followDown_80 rfl rfl ?_
          refine ab_aload_n O 0 dX5_followDown_81 rfl rfl ?_
          refine ab_get O fl_X5_30 dX5_followDown_82 (at_43 _ _ _) rfl ?_
          refine ab_iload_n O 1 dX5_followDown_85 rfl rfl ?_
          refine ab_callvI O I.2.2.2.2.2.2 (fr := False) (st := [.int (a0), .ref (48)]) lk_X5_38 rfl (at_1 _ _ _) dX5_followDown_86 (c_X3_valueOf (d - 1) (by omega) _ O.2.2.2.2.2.2.1 _ _ _ _ h) rfl rfl ⟨by rw [I.2.1]; show d - 1 + 1 ≤ d; omega, by rw [I.2.1]; show 8 + (_ + 11) + 36 * (d - 1) ≤ 36 * d; omega⟩ (show 2 ≤ 8 by decide) ⟨by rw [I.2.1]; show 0 + 0 ≤ 0; decide, by rw [I.2.1]; show 0 + 0 ≤ 0; decide⟩ (fun q => q.elim) (fun E u q => q.elim) (fun r35 u hu => ?_)
          obtain ⟨V34, rfl, h⟩ := hu
          refine ab_iload_n O 3 dX5_followDown_89 rfl rfl ?_
          refine ab_if_eq O 101 dX5_followDown_90 rfl (fun _ => ?_) (fun q => absurd q (by decide))
          refine ab_iconst O 0 dX5_followDown_101 rfl ?_
          refine ab_iadd O dX5_followDown_102 ?_
          refine ab_iast O dX5_followDown_103 (at_48 _ _ _) h.1 ?_
          have h := h.2
          refine ab_eq ?_ rfl rfl rfl (sa_48 _ _ _ _ _).symm
          obtain ⟨V36, eV36⟩ : ∃ z : Mm, z = wr V34 48 (Int32.toNatClampNeg (a0)) (r35 + 0) := ⟨_, rfl⟩
          rw [← eV36]
          have h := h V36 eV36
          refine ab_aload_n O 0 dX5_followDown_104 rfl rfl ?_
          refine ab_get O fl_X5_27 dX5_followDown_105 (at_43 _ _ _) rfl ?_
          refine ab_iload_n O 1 dX5_followDown_108 rfl rfl ?_
          refine ab_aload_n O 0 dX5_followDown_109 rfl rfl ?_
          refine ab_iload_n O 2 dX5_followDown_110 rfl rfl ?_
          refine ab_callvI O I.2.2.2.2.2.2 (fr := False) (st := [.int (a0), .ref (49)]) lk_X5_83 rfl (at_43 _ _ _) dX5_followDown_111 (c_X5_lightAbove (d - 1) (by omega) _ O.2.2.2.2.2.2.1 _ _ _ _ h) rfl rfl ⟨by rw [I.2.1]; show d - 1 + 1 ≤ d; omega, by rw [I.2.1]; show 8 + (_ + 11) + 36 * (d - 1) ≤ 36 * d; omega⟩ (show 2 ≤ 8 by decide) ⟨by rw [I.2.1]; show 0 + 0 ≤ 0; decide, by rw [I.2.1]; show 0 + 0 ≤ 0; decide⟩ (fun q => q.elim) (fun E u q => q.elim) (fun r38 u hu => ?_)
          obtain ⟨V37, rfl, h⟩ := hu
          refine ab_iload O dX5_followDown_114 rfl ?_
          refine ab_if_eq O 123 dX5_followDown_116 rfl (fun q => absurd q (by decide)) (fun _ => ?_)
          refine ab_iconst O 1 dX5_followDown_119 rfl ?_
          refine ab_goto O 124 dX5_followDown_120 rfl ?_
          refine ab_iadd O dX5_followDown_124 ?_
          refine ab_iast O dX5_followDown_125 (at_49 _ _ _) h.1 ?_
          have h := h.2
          refine ab_eq ?_ rfl rfl rfl (sa_49 _ _ _ _ _).symm
          obtain ⟨V39, eV39⟩ : ∃ z : Mm, z = wr V37 49 (Int32.toNatClampNeg (a0)) (r38 + 1) := ⟨_, rfl⟩
          rw [← eV39]
          have h := h V39 eV39
          exact ab_return O I dX5_followDown_126 (by decide) (by decide) ⟨_, rfl, h⟩
      · have h := h.1 q24
        refine ab_iconst O 1 dX5_followDown_35 rfl ?_
        refine ab_goto O 40 dX5_followDown_36 rfl ?_
        refine ab_istore_n O 3 dX5_followDown_40 rfl (show 3 < 5 by decide) ?_
        refine ab_iload_n O 2 dX5_followDown_41 rfl rfl ?_
        refine ab_iconst O (-1) dX5_followDown_42 rfl ?_
        refine ab_icmp_eq O 54 dX5_followDown_43 rfl (fun q40 => ?_) (fun q40 => ?_)
        · have h := h.1 q40
          refine ab_iconst O 0 dX5_followDown_54 rfl ?_
          refine ab_istore O dX5_followDown_55 (show 4 < 5 by decide) ?_
          refine ab_aload_n O 0 dX5_followDown_57 rfl rfl ?_
          refine ab_get O fl_X5_21 dX5_followDown_58 (at_43 _ _ _) rfl ?_
          refine ab_iload_n O 1 dX5_followDown_61 rfl rfl ?_
          refine ab_iload_n O 3 dX5_followDown_62 rfl rfl ?_
          refine ab_if_eq O 74 dX5_followDown_63 rfl (fun q => absurd q (by decide)) (fun _ => ?_)
          refine ab_aload_n O 0 dX5_followDown_66 rfl rfl ?_
          refine ab_iload_n O 2 dX5_followDown_67 rfl rfl ?_
          refine ab_callvI O I.2.2.2.2.2.2 (fr := False) (st := [.int (a0), .ref (47)]) lk_X5_77 rfl (at_43 _ _ _) dX5_followDown_68 (c_X5_headOf (d - 1) (by omega) _ O.2.2.2.2.2.2.1 _ _ _ _ h) rfl rfl ⟨by rw [I.2.1]; show d - 1 + 1 ≤ d; omega, by rw [I.2.1]; show 8 + (_ + 11) + 36 * (d - 1) ≤ 36 * d; omega⟩ (show 2 ≤ 8 by decide) ⟨by rw [I.2.1]; show 0 + 0 ≤ 0; decide, by rw [I.2.1]; show 0 + 0 ≤ 0; decide⟩ (fun q => q.elim) (fun E u q => q.elim) (fun r42 u hu => ?_)
          obtain ⟨V41, rfl, h⟩ := hu
          refine ab_goto O 75 dX5_followDown_71 rfl ?_
          refine ab_iast O dX5_followDown_75 (at_47 _ _ _) h.1 ?_
          have h := h.2
          refine ab_eq ?_ rfl rfl rfl (sa_47 _ _ _ _ _).symm
          obtain ⟨V43, eV43⟩ : ∃ z : Mm, z = wr V41 47 (Int32.toNatClampNeg (a0)) r42 := ⟨_, rfl⟩
          rw [← eV43]
          have h := h V43 eV43
          refine ab_aload_n O 0 dX5_followDown_76 rfl rfl ?_
          refine ab_get O fl_X5_24 dX5_followDown_77 (at_43 _ _ _) rfl ?_
          refine ab_iload_n O 1 dX5_followDown_80 rfl rfl ?_
          refine ab_aload_n O 0 dX5_followDown_81 rfl rfl ?_
          refine ab_get O fl_X5_30 dX5_followDown_82 (at_43 _ _ _) rfl ?_
          refine ab_iload_n O 1 dX5_followDown_85 rfl rfl ?_
          refine ab_callvI O I.2.2.2.2.2.2 (fr := False) (st := [.int (a0), .ref (48)]) lk_X5_38 rfl (at_1 _ _ _) dX5_followDown_86 (c_X3_valueOf (d - 1) (by omega) _ O.2.2.2.2.2.2.1 _ _ _ _ h) rfl rfl ⟨by rw [I.2.1]; show d - 1 + 1 ≤ d; omega, by rw [I.2.1]; show 8 + (_ + 11) + 36 * (d - 1) ≤ 36 * d; omega⟩ (show 2 ≤ 8 by decide) ⟨by rw [I.2.1]; show 0 + 0 ≤ 0; decide, by rw [I.2.1]; show 0 + 0 ≤ 0; decide⟩ (fun q => q.elim) (fun E u q => q.elim) (fun r45 u hu => ?_)
          obtain ⟨V44, rfl, h⟩ := hu
          refine ab_iload_n O 3 dX5_followDown_89 rfl rfl ?_
          refine ab_if_eq O 101 dX5_followDown_90 rfl (fun q => absurd q (by decide)) (fun _ => ?_)
          refine ab_aload_n O 0 dX5_followDown_93 rfl rfl ?_
          refine ab_iload_n O 2 dX5_followDown_94 rfl rfl ?_
          refine ab_callvI O I.2.2.2.2.2.2 (fr := False) (st := [.int (r45), .int (a0), .ref (48)]) lk_X5_80 rfl (at_43 _ _ _) dX5_followDown_95 (c_X5_sumToHead (d - 1) (by omega) _ O.2.2.2.2.2.2.1 _ _ _ _ h) rfl rfl ⟨by rw [I.2.1]; show d - 1 + 1 ≤ d; omega, by rw [I.2.1]; show 8 + (_ + 11) + 36 * (d - 1) ≤ 36 * d; omega⟩ (show 3 ≤ 8 by decide) ⟨by rw [I.2.1]; show 0 + 0 ≤ 0; decide, by rw [I.2.1]; show 0 + 0 ≤ 0; decide⟩ (fun q => q.elim) (fun E u q => q.elim) (fun r47 u hu => ?_)
          obtain ⟨V46, rfl, h⟩ := hu
          refine ab_goto O 102 dX5_followDown_98 rfl ?_
          refine ab_iadd O dX5_followDown_102 ?_
          refine ab_iast O dX5_followDown_103 (at_48 _ _ _) h.1 ?_
          have h := h.2
          refine ab_eq ?_ rfl rfl rfl (sa_48 _ _ _ _ _).symm
          obtain ⟨V48, eV48⟩ : ∃ z : Mm, z = wr V46 48 (Int32.toNatClampNeg (a0)) (r45 + r47) := ⟨_, rfl⟩
          rw [← eV48]
          have h := h V48 eV48
          refine ab_aload_n O 0 dX5_followDown_104 rfl rfl ?_
          refine ab_get O fl_X5_27 dX5_followDown_105 (at_43 _ _ _) rfl ?_
          refine ab_iload_n O 1 dX5_followDown_108 rfl rfl ?_
          refine ab_aload_n O 0 dX5_followDown_109 rfl rfl ?_
          refine ab_iload_n O 2 dX5_followDown_110 rfl rfl ?_
          refine ab_callvI O I.2.2.2.2.2.2 (fr := False) (st := [.int (a0), .ref (49)]) lk_X5_83 rfl (at_43 _ _ _) dX5_followDown_111 (c_X5_lightAbove (d - 1) (by omega) _ O.2.2.2.2.2.2.1 _ _ _ _ h) rfl rfl ⟨by rw [I.2.1]; show d - 1 + 1 ≤ d; omega, by rw [I.2.1]; show 8 + (_ + 11) + 36 * (d - 1) ≤ 36 * d; omega⟩ (show 2 ≤ 8 by decide) ⟨by rw [I.2.1]; show 0 + 0 ≤ 0; decide, by rw [I.2.1]; show 0 + 0 ≤ 0; decide⟩ (fun q => q.elim) (fun E u q => q.elim) (fun r50 u hu => ?_)
          obtain ⟨V49, rfl, h⟩ := hu
          refine ab_iload O dX5_followDown_114 rfl ?_
          refine ab_if_eq O 123 dX5_followDown_116 rfl (fun _ => ?_) (fun q => absurd q (by decide))
          refine ab_iconst O 0 dX5_followDown_123 rfl ?_
          refine ab_iadd O dX5_followDown_124 ?_
          refine ab_iast O dX5_followDown_125 (at_49 _ _ _) h.1 ?_
          have h := h.2
          refine ab_eq ?_ rfl rfl rfl (sa_49 _ _ _ _ _).symm
          obtain ⟨V51, eV51⟩ : ∃ z : Mm, z = wr V49 49 (Int32.toNatClampNeg (a0)) (r50 + 0) := ⟨_, rfl⟩
          rw [← eV51]
          have h := h V51 eV51
          exact ab_return O I dX5_followDown_126 (by decide) (by decide) ⟨_, rfl, h⟩
        · have h := h.2 q40
          refine ab_iload_n O 3 dX5_followDown_46 rfl rfl ?_
          refine ab_if_ne O 54 dX5_followDown_47 rfl (fun _ => ?_) (fun q => absurd q (by decide))
          refine ab_iconst O 0 dX5_followDown_54 rfl ?_
          refine ab_istore O dX5_followDown_55 (show 4 < 5 by decide) ?_
          refine ab_aload_n O 0 dX5_followDown_57 rfl rfl ?_
          refine ab_get O fl_X5_21 dX5_followDown_58 (at_43 _ _ _) rfl ?_
          refine ab_iload_n O 1 dX5_followDown_61 rfl rfl ?_
          refine ab_iload_n O 3 dX5_followDown_62 rfl rfl ?_
          refine ab_if_eq O 74 dX5_followDown_63 rfl (fun q => absurd q (by decide)) (fun _ => ?_)
          refine ab_aload_n O 0 dX5_followDown_66 rfl rfl ?_
          refine ab_iload_n O 2 dX5_followDown_67 rfl rfl ?_
          refine ab_callvI O I.2.2.2.2.2.2 (fr := False) (st := [.int (a0), .ref (47)]) lk_X5_77 rfl (at_43 _ _ _) dX5_followDown_68 (c_X5_headOf (d - 1) (by omega) _ O.2.2.2.2.2.2.1 _ _ _ _ h) rfl rfl ⟨by rw [I.2.1]; show d - 1 + 1 ≤ d; omega, by rw [I.2.1]; show 8 + (_ + 11) + 36 * (d - 1) ≤ 36 * d; omega⟩ (show 2 ≤ 8 by decide) ⟨by rw [I.2.1]; show 0 + 0 ≤ 0; decide, by rw [I.2.1]; show 0 + 0 ≤ 0; decide⟩ (fun q => q.elim) (fun E u q => q.elim) (fun r53 u hu => ?_)
          obtain ⟨V52, rfl, h⟩ := hu
          refine ab_goto O 75 dX5_followDown_71 rfl ?_
          refine ab_iast O dX5_followDown_75 (at_47 _ _ _) h.1 ?_
          have h := h.2
          refine ab_eq ?_ rfl rfl rfl (sa_47 _ _ _ _ _).symm
          obtain ⟨V54, eV54⟩ : ∃ z : Mm, z = wr V52 47 (Int32.toNatClampNeg (a0)) r53 := ⟨_, rfl⟩
          rw [← eV54]
          have h := h V54 eV54
          refine ab_aload_n O 0 dX5_followDown_76 rfl rfl ?_
          refine ab_get O fl_X5_24 dX5_followDown_77 (at_43 _ _ _) rfl ?_
          refine ab_iload_n O 1 dX5_followDown_80 rfl rfl ?_
          refine ab_aload_n O 0 dX5_followDown_81 rfl rfl ?_
          refine ab_get O fl_X5_30 dX5_followDown_82 (at_43 _ _ _) rfl ?_
          refine ab_iload_n O 1 dX5_followDown_85 rfl rfl ?_
          refine ab_callvI O I.2.2.2.2.2.2 (fr := False) (st := [.int (a0), .ref (48)]) lk_X5_38 rfl (at_1 _ _ _) dX5_followDown_86 (c_X3_valueOf (d - 1) (by omega) _ O.2.2.2.2.2.2.1 _ _ _ _ h) rfl rfl ⟨by rw [I.2.1]; show d - 1 + 1 ≤ d; omega, by rw [I.2.1]; show 8 + (_ + 11) + 36 * (d - 1) ≤ 36 * d; omega⟩ (show 2 ≤ 8 by decide) ⟨by rw [I.2.1]; show 0 + 0 ≤ 0; decide, by rw [I.2.1]; show 0 + 0 ≤ 0; decide⟩ (fun q => q.elim) (fun E u q => q.elim) (fun r56 u hu => ?_)
          obtain ⟨V55, rfl, h⟩ := hu
          refine ab_iload_n O 3 dX5_followDown_89 rfl rfl ?_
          refine ab_if_eq O 101 dX5_followDown_90 rfl (fun q => absurd q (by decide)) (fun _ => ?_)
          refine ab_aload_n O 0 dX5_followDown_93 rfl rfl ?_
          refine ab_iload_n O 2 dX5_followDown_94 rfl rfl ?_
          refine ab_callvI O I.2.2.2.2.2.2 (fr := False) (st := [.int (r56), .int (a0), .ref (48)]) lk_X5_80 rfl (at_43 _ _ _) dX5_followDown_95 (c_X5_sumToHead (d - 1) (by omega) _ O.2.2.2.2.2.2.1 _ _ _ _ h) rfl rfl ⟨by rw [I.2.1]; show d - 1 + 1 ≤ d; omega, by rw [I.2.1]; show 8 + (_ + 11) + 36 * (d - 1) ≤ 36 * d; omega⟩ (show 3 ≤ 8 by decide) ⟨by rw [I.2.1]; show 0 + 0 ≤ 0; decide, by rw [I.2.1]; show 0 + 0 ≤ 0; decide⟩ (fun q => q.elim) (fun E u q => q.elim) (fun r58 u hu => ?_)
          obtain ⟨V57, rfl, h⟩ := hu
          refine ab_goto O 102 dX5_followDown_98 rfl ?_
          refine ab_iadd O dX5_followDown_102 ?_
          refine ab_iast O dX5_followDown_103 (at_48 _ _ _) h.1 ?_
          have h := h.2
          refine ab_eq ?_ rfl rfl rfl (sa_48 _ _ _ _ _).symm
          obtain ⟨V59, eV59⟩ : ∃ z : Mm, z = wr V57 48 (Int32.toNatClampNeg (a0)) (r56 + r58) := ⟨_, rfl⟩
          rw [← eV59]
          have h := h V59 eV59
          refine ab_aload_n O 0 dX5_followDown_104 rfl rfl ?_
          refine ab_get O fl_X5_27 dX5_followDown_105 (at_43 _ _ _) rfl ?_
          refine ab_iload_n O 1 dX5_followDown_108 rfl rfl ?_
          refine ab_aload_n O 0 dX5_followDown_109 rfl rfl ?_
          refine ab_iload_n O 2 dX5_followDown_110 rfl rfl ?_
          refine ab_callvI O I.2.2.2.2.2.2 (fr := False) (st := [.int (a0), .ref (49)]) lk_X5_83 rfl (at_43 _ _ _) dX5_followDown_111 (c_X5_lightAbove (d - 1) (by omega) _ O.2.2.2.2.2.2.1 _ _ _ _ h) rfl rfl ⟨by rw [I.2.1]; show d - 1 + 1 ≤ d; omega, by rw [I.2.1]; show 8 + (_ + 11) + 36 * (d - 1) ≤ 36 * d; omega⟩ (show 2 ≤ 8 by decide) ⟨by rw [I.2.1]; show 0 + 0 ≤ 0; decide, by rw [I.2.1]; show 0 + 0 ≤ 0; decide⟩ (fun q => q.elim) (fun E u q => q.elim) (fun r61 u hu => ?_)
          obtain ⟨V60, rfl, h⟩ := hu
          refine ab_iload O dX5_followDown_114 rfl ?_
          refine ab_if_eq O 123 dX5_followDown_116 rfl (fun _ => ?_) (fun q => absurd q (by decide))
          refine ab_iconst O 0 dX5_followDown_123 rfl ?_
          refine ab_iadd O dX5_followDown_124 ?_
          refine ab_iast O dX5_followDown_125 (at_49 _ _ _) h.1 ?_
          have h := h.2
          refine ab_eq ?_ rfl rfl rfl (sa_49 _ _ _ _ _).symm
          obtain ⟨V62, eV62⟩ : ∃ z : Mm, z = wr V60 49 (Int32.toNatClampNeg (a0)) (r61 + 0) := ⟨_, rfl⟩
          rw [← eV62]
          have h := h V62 eV62
          exact ab_return O I dX5_followDown_126 (by decide) (by decide) ⟨_, rfl, h⟩
  · have h := h.1 q3
    exact ab_return O I dX5_followDown_11 (by decide) (by decide) ⟨_, rfl, h⟩

def wp_X5_build_L2 (post : Mm → Prop) (kx : Mm → Int32 → Prop) : Nat → Mm → Int32 → Prop
  | 0, _, _ => False
  | n2 + 1, V, x2_1 => ((20 ≤ x2_1 → kx (V) (x2_1)) ∧ (¬ 20 ≤ x2_1 → (vp_in x2_1 20 ∧ ∀ V2 : Mm, V2 = wr V 44 (Int32.toNatClampNeg (x2_1)) 1 → (wp_X3_valueOf V2 (x2_1) (fun (r4 : Int32) (V3 : Mm) => (vp_in x2_1 20 ∧ ∀ V5 : Mm, V5 = wr V3 45 (Int32.toNatClampNeg (x2_1)) r4 → (vp_in x2_1 20 ∧ ∀ V6 : Mm, V6 = wr V5 46 (Int32.toNatClampNeg (x2_1)) (-1) → wp_X5_build_L2 post kx n2 (V6) ((x2_1 + (1))))))))))

def wp_X5_build_L52 (post : Mm → Prop) (kx : Mm → Int32 → Prop) : Nat → Mm → Int32 → Prop
  | 0, _, _ => False
  | n52 + 1, V, x52_1 => ((x52_1 < 0 → kx (V) (x52_1)) ∧ (¬ x52_1 < 0 → (wp_X7_vertexAt V (x52_1) (fun (r13 : Int32) (V12 : Mm) => (wp_X5_handUp V12 (r13) (fun (V14 : Mm) => wp_X5_build_L52 post kx n52 (V14) ((x52_1 + (-1)))))))))

def wp_X5_build_L76 (post : Mm → Prop) (kx : Mm → Int32 → Prop) : Nat → Mm → Int32 → Prop
  | 0, _, _ => False
  | n76 + 1, V, x76_1 => (wp_X7_count V (fun (r18 : Int32) (V17 : Mm) => ((r18 ≤ x76_1 → kx (V17) (x76_1)) ∧ (¬ r18 ≤ x76_1 → (wp_X7_vertexAt V17 (x76_1) (fun (r21 : Int32) (V20 : Mm) => (wp_X5_followDown V20 (r21) (fun (V22 : Mm) => wp_X5_build_L76 post kx n76 (V22) ((x76_1 + (1)))))))))))

def wp_X5_build (V : Mm) (post : Mm → Prop) : Prop := (∃ m2 : Nat, wp_X5_build_L2 post (fun (V7 : Mm) (x8 : Int32) => (wp_X7_count V7 (fun (r10 : Int32) (V9 : Mm) => (∃ m52 : Nat, wp_X5_build_L52 post (fun (V15 : Mm) (x16 : Int32) => (∃ m76 : Nat, wp_X5_build_L76 post (fun (V23 : Mm) (x24 : Int32) => post V23) m76 (V15) (0))) m52 (V9) ((r10 - 1)))))) m2 (V) (0))
set_option maxHeartbeats 4000000 in
theorem cl_X5_build_L2 {X : ab_M} {g : ab_G} {l : Launch} {d : Nat} (hd : 4 ≤ d) {post : Mm → Prop} {kx : Mm → Int32 → Prop} {o : Nat → Int64} {D : Nat → UInt64} (O : ab_Ok X g cX5_build RX5) (I : ab_I X l tk_strs 2 none yX5_build.name d 0 0) (hk : ∀ (V : Mm) (x2_1 : Int32), kx V x2_1 → Ab X g 0 0 (tk_Q X g (tk_V g (fun u => ∃ V : Mm, u = SW V o D ∧ post V)) (fun _ _ => False) 0 0) 42 [some (.ref (43)), none] [] (SW V o D)) : ∀ (n : Nat) (V : Mm) (x2_1 : Int32), wp_X5_build_L2 post kx n V x2_1 → Ab X g 0 0 (tk_Q X g (tk_V g (fun u => ∃ V : Mm, u = SW V o D ∧ post V)) (fun _ _ => False) 0 0) 2 [some (.ref (43)), some (.int (x2_1))] [] (SW V o D) := by
  intro n
  induction n with
  | zero => intro V x2_1 h; exact h.elim
  | succ n ih =>
    intro V x2_1 h
    refine ab_iload_n O 1 dX5_build_2 rfl rfl ?_
    refine ab_bipush O 20 dX5_build_3 rfl ?_
    refine ab_icmp_ge O 42 dX5_build_5 rfl (fun q1 => ?_) (fun q1 => ?_)
    · have h := h.1 q1
      exact ab_less (hk (V) (x2_1) h) (ab_le_s (ab_le_n ab_le_0))
    · have h := h.2 q1
      refine ab_aload_n O 0 dX5_build_8 rfl rfl ?_
      refine ab_get O fl_X5_9 dX5_build_9 (at_43 _ _ _) rfl ?_
      refine ab_iload_n O 1 dX5_build_12 rfl rfl ?_
      refine ab_iconst O 1 dX5_build_13 rfl ?_
      refine ab_iast O dX5_build_14 (at_44 _ _ _) h.1 ?_
      have h := h.2
      refine ab_eq ?_ rfl rfl rfl (sa_44 _ _ _ _ _).symm
      obtain ⟨V2, eV2⟩ : ∃ z : Mm, z = wr V 44 (Int32.toNatClampNeg (x2_1)) 1 := ⟨_, rfl⟩
      rw [← eV2]
      have h := h V2 eV2
      refine ab_aload_n O 0 dX5_build_15 rfl rfl ?_
      refine ab_get O fl_X5_15 dX5_build_16 (at_43 _ _ _) rfl ?_
      refine ab_iload_n O 1 dX5_build_19 rfl rfl ?_
      refine ab_aload_n O 0 dX5_build_20 rfl rfl ?_
      refine ab_get O fl_X5_30 dX5_build_21 (at_43 _ _ _) rfl ?_
      refine ab_iload_n O 1 dX5_build_24 rfl rfl ?_
      refine ab_callvI O I.2.2.2.2.2.2 (fr := False) (st := [.int (x2_1), .ref (45)]) lk_X5_38 rfl (at_1 _ _ _) dX5_build_25 (c_X3_valueOf (d - 1) (by omega) _ O.2.2.2.2.2.2.1 _ _ _ _ h) rfl rfl ⟨by rw [I.2.1]; show d - 1 + 1 ≤ d; omega, by rw [I.2.1]; show 8 + (_ + 11) + 36 * (d - 1) ≤ 36 * d; omega⟩ (show 2 ≤ 8 by decide) ⟨by rw [I.2.1]; show 0 + 0 ≤ 0; decide, by rw [I.2.1]; show 0 + 0 ≤ 0; decide⟩ (fun q => q.elim) (fun E u q => q.elim) (fun r4 u hu => ?_)
      obtain ⟨V3, rfl, h⟩ := hu
      refine ab_iast O dX5_build_28 (at_45 _ _ _) h.1 ?_
      have h := h.2
      refine ab_eq ?_ rfl rfl rfl (sa_45 _ _ _ _ _).symm
      obtain ⟨V5, eV5⟩ : ∃ z : Mm, z = wr V3 45 (Int32.toNatClampNeg (x2_1)) r4 := ⟨_, rfl⟩
      rw [← eV5]
      have h := h V5 eV5
      refine ab_aload_n O 0 dX5_build_29 rfl rfl ?_
      refine ab_get O fl_X5_18 dX5_build_30 (at_43 _ _ _) rfl ?_
      refine ab_iload_n O 1 dX5_build_33 rfl rfl ?_
      refine ab_iconst O (-1) dX5_build_34 rfl ?_
      refine ab_iast O dX5_build_35 (at_46 _ _ _) h.1 ?_
      have h := h.2
      refine ab_eq ?_ rfl rfl rfl (sa_46 _ _ _ _ _).symm
      obtain ⟨V6, eV6⟩ : ∃ z : Mm, z = wr V5 46 (Int32.toNatClampNeg (x2_1)) (-1) := ⟨_, rfl⟩
      rw [← eV6]
      have h := h V6 eV6
      refine ab_iinc O ((x2_1 + (1))) dX5_build_36 rfl rfl ?_
      refine ab_goto O 2 dX5_build_39 rfl ?_
      exact ab_less (ih (V6) ((x2_1 + (1))) h) (ab_le_s (ab_le_s ab_le_0))
set_option maxHeartbeats 4000000 in
theorem cl_X5_build_L52 {X : ab_M} {g : ab_G} {l : Launch} {d : Nat} (hd : 4 ≤ d) {post : Mm → Prop} {kx : Mm → Int32 → Prop} {o : Nat → Int64} {D : Nat → UInt64} (O : ab_Ok X g cX5_build RX5) (I : ab_I X l tk_strs 2 none yX5_build.name d 0 0) (hk : ∀ (V : Mm) (x52_1 : Int32), kx V x52_1 → Ab X g 0 0 (tk_Q X g (tk_V g (fun u => ∃ V : Mm, u = SW V o D ∧ post V)) (fun _ _ => False) 0 0) 74 [some (.ref (43)), none] [] (SW V o D)) : ∀ (n : Nat) (V : Mm) (x52_1 : Int32), wp_X5_build_L52 post kx n V x52_1 → Ab X g 0 0 (tk_Q X g (tk_V g (fun u => ∃ V : Mm, u = SW V o D ∧ post V)) (fun _ _ => False) 0 0) 52 [some (.ref (43)), some (.int (x52_1))] [] (SW V o D) := by
  intro n
  induction n with
  | zero => intro V x52_1 h; exact h.elim
  | succ n ih =>
    intro V x52_1 h
    refine ab_iload_n O 1 dX5_build_52 rfl rfl ?_
    refine ab_if_lt O 74 dX5_build_53 rfl (fun q11 => ?_) (fun q11 => ?_)
    · have h := h.1 q11
      exact ab_less (hk (V) (x52_1) h) (ab_le_s (ab_le_n ab_le_0))
    · have h := h.2 q11
      refine ab_aload_n O 0 dX5_build_56 rfl rfl ?_
      refine ab_aload_n O 0 dX5_build_57 rfl rfl ?_
      refine ab_get O fl_X5_34 dX5_build_58 (at_43 _ _ _) rfl ?_
      refine ab_iload_n O 1 dX5_build_61 rfl rfl ?_
      refine ab_callvI O I.2.2.2.2.2.2 (fr := False) (st := [.ref (43)]) lk_X5_50 rfl (at_29 _ _ _) dX5_build_62 (c_X7_vertexAt (d - 1) (by omega) _ O.2.2.2.2.2.2.1 _ _ _ _ h) rfl rfl ⟨by rw [I.2.1]; show d - 1 + 1 ≤ d; omega, by rw [I.2.1]; show 8 + (_ + 11) + 36 * (d - 1) ≤ 36 * d; omega⟩ (show 1 ≤ 8 by decide) ⟨by rw [I.2.1]; show 0 + 0 ≤ 0; decide, by rw [I.2.1]; show 0 + 0 ≤ 0; decide⟩ (fun q => q.elim) (fun E u q => q.elim) (fun r13 u hu => ?_)
      obtain ⟨V12, rfl, h⟩ := hu
      refine ab_callvV O I.2.2.2.2.2.2 (fr := False) (st := []) lk_X5_53 rfl (at_43 _ _ _) dX5_build_65 (c_X5_handUp (d - 1) (by omega) _ O.2.2.2.2.2.2.1 _ _ _ _ h) rfl rfl ⟨by rw [I.2.1]; show d - 1 + 1 ≤ d; omega, by rw [I.2.1]; show 8 + (_ + 11) + 36 * (d - 1) ≤ 36 * d; omega⟩ (show 0 ≤ 8 by decide) ⟨by rw [I.2.1]; show 0 + 0 ≤ 0; decide, by rw [I.2.1]; show 0 + 0 ≤ 0; decide⟩ (fun q => q.elim) (fun E u q => q.elim) (fun u hu => ?_)
      obtain ⟨V14, rfl, h⟩ := hu
      refine ab_iinc O ((x52_1 + (-1))) dX5_build_68 rfl rfl ?_
      refine ab_goto O 52 dX5_build_71 rfl ?_
      exact ab_less (ih (V14) ((x52_1 + (-1))) h) (ab_le_s (ab_le_s ab_le_0))
set_option maxHeartbeats 4000000 in
theorem cl_X5_build_L76 {X : ab_M} {g : ab_G} {l : Launch} {d : Nat} (hd : 4 ≤ d) {post : Mm → Prop} {kx : Mm → Int32 → Prop} {o : Nat → Int64} {D : Nat → UInt64} (O : ab_Ok X g cX5_build RX5) (I : ab_I X l tk_strs 2 none yX5_build.name d 0 0) (hk : ∀ (V : Mm) (x76_1 : Int32), kx V x76_1 → Ab X g 0 0 (tk_Q X g (tk_V g (fun u => ∃ V : Mm, u = SW V o D ∧ post V)) (fun _ _ => False) 0 0) 105 [none, none] [] (SW V o D)) : ∀ (n : Nat) (V : Mm) (x76_1 : Int32), wp_X5_build_L76 post kx n V x76_1 → Ab X g 0 0 (tk_Q X g (tk_V g (fun u => ∃ V : Mm, u = SW V o D ∧ post V)) (fun _ _ => False) 0 0) 76 [some (.ref (43)), some (.int (x76_1))] [] (SW V o D) := by
  intro n
  induction n with
  | zero => intro V x76_1 h; exact h.elim
  | succ n ih =>
    intro V x76_1 h
    refine ab_iload_n O 1 dX5_build_76 rfl rfl ?_
    refine ab_aload_n O 0 dX5_build_77 rfl rfl ?_
    refine ab_get O fl_X5_34 dX5_build_78 (at_43 _ _ _) rfl ?_
    refine ab_callvI O I.2.2.2.2.2.2 (fr := False) (st := [.int (x76_1)]) lk_X5_44 rfl (at_29 _ _ _) dX5_build_81 (c_X7_count (d - 1) (by omega) _ O.2.2.2.2.2.2.1 _ _ _ h) rfl rfl ⟨by rw [I.2.1]; show d - 1 + 1 ≤ d; omega, by rw [I.2.1]; show 8 + (_ + 11) + 36 * (d - 1) ≤ 36 * d; omega⟩ (show 1 ≤ 8 by decide) ⟨by rw [I.2.1]; show 0 + 0 ≤ 0; decide, by rw [I.2.1]; show 0 + 0 ≤ 0; decide⟩ (fun q => q.elim) (fun E u q => q.elim) (fun r18 u hu => ?_)
    obtain ⟨V17, rfl, h⟩ := hu
    refine ab_icmp_ge O 105 dX5_build_84 rfl (fun q19 => ?_) (fun q19 => ?_)
    · have h := h.1 q19
      exact ab_less (hk (V17) (x76_1) h) (ab_le_n (ab_le_n ab_le_0))
    · have h := h.2 q19
      refine ab_aload_n O 0 dX5_build_87 rfl rfl ?_
      refine ab_aload_n O 0 dX5_build_88 rfl rfl ?_
      refine ab_get O fl_X5_34 dX5_build_89 (at_43 _ _ _) rfl ?_
      refine ab_iload_n O 1 dX5_build_92 rfl rfl ?_
      refine ab_callvI O I.2.2.2.2.2.2 (fr := False) (st := [.ref (43)]) lk_X5_50 rfl (at_29 _ _ _) dX5_build_93 (c_X7_vertexAt (d - 1) (by omega) _ O.2.2.2.2.2.2.1 _ _ _ _ h) rfl rfl ⟨by rw [I.2.1]; show d - 1 + 1 ≤ d; omega, by rw [I.2.1]; show 8 + (_ + 11) + 36 * (d - 1) ≤ 36 * d; omega⟩ (show 1 ≤ 8 by decide) ⟨by rw [I.2.1]; show 0 + 0 ≤ 0; decide, by rw [I.2.1]; show 0 + 0 ≤ 0; decide⟩ (fun q => q.elim) (fun E u q => q.elim) (fun r21 u hu => ?_)
      obtain ⟨V20, rfl, h⟩ := hu
      refine ab_callvV O I.2.2.2.2.2.2 (fr := False) (st := []) lk_X5_57 rfl (at_43 _ _ _) dX5_build_96 (c_X5_followDown (d - 1) (by omega) _ O.2.2.2.2.2.2.1 _ _ _ _ h) rfl rfl ⟨by rw [I.2.1]; show d - 1 + 1 ≤ d; omega, by rw [I.2.1]; show 8 + (_ + 11) + 36 * (d - 1) ≤ 36 * d; omega⟩ (show 0 ≤ 8 by decide) ⟨by rw [I.2.1]; show 0 + 0 ≤ 0; decide, by rw [I.2.1]; show 0 + 0 ≤ 0; decide⟩ (fun q => q.elim) (fun E u q => q.elim) (fun u hu => ?_)
      obtain ⟨V22, rfl, h⟩ := hu
      refine ab_iinc O ((x76_1 + (1))) dX5_build_99 rfl rfl ?_
      refine ab_goto O 76 dX5_build_102 rfl ?_
      exact ab_less (ih (V22) ((x76_1 + (1))) h) (ab_le_s (ab_le_s ab_le_0))
set_option maxHeartbeats 4000000 in
theorem c_X5_build (d : Nat) (hd : 4 ≤ d) (l : Launch) (hl : l.stackTraces = false) (g : ab_G) (o : Nat → Int64) (D : Nat → UInt64) {V : Mm} {post : Mm → Prop} (h : wp_X5_build V post) : Ct l g tk_strs False d 0 0 yX5_build cX5_build 2 none [.ref 43] (SW V o D) (tk_V g (fun u => ∃ V : Mm, u = SW V o D ∧ post V)) (fun _ _ => False) := by
  refine ct_in (by decide +kernel) (show 1 ≤ 2 by decide) (by simp [Value.category]) hl (fun X I O _ => ?_)
  show Ab X g 0 0 _ 0 [some (.ref (43)), none] [] _
  refine ab_iconst O 0 dX5_build_0 rfl ?_
  refine ab_istore_n O 1 dX5_build_1 rfl (show 1 < 2 by decide) ?_
  obtain ⟨n9, h⟩ := h
  refine ab_less (cl_X5_build_L2 hd O I (fun V7 x8 h => ?_) n9 (V) (0) h) (ab_le_s (ab_le_s ab_le_0))
  refine ab_aload_n O 0 dX5_build_42 rfl rfl ?_
  refine ab_get O fl_X5_34 dX5_build_43 (at_43 _ _ _) rfl ?_
  refine ab_callvI O I.2.2.2.2.2.2 (fr := False) (st := []) lk_X5_44 rfl (at_29 _ _ _) dX5_build_46 (c_X7_count (d - 1) (by omega) _ O.2.2.2.2.2.2.1 _ _ _ h) rfl rfl ⟨by rw [I.2.1]; show d - 1 + 1 ≤ d; omega, by rw [I.2.1]; show 8 + (_ + 11) + 36 * (d - 1) ≤ 36 * d; omega⟩ (show 0 ≤ 8 by decide) ⟨by rw [I.2.1]; show 0 + 0 ≤ 0; decide, by rw [I.2.1]; show 0 + 0 ≤ 0; decide⟩ (fun q => q.elim) (fun E u q => q.elim) (fun r10 u hu => ?_)
  obtain ⟨V9, rfl, h⟩ := hu
  refine ab_iconst O 1 dX5_build_49 rfl ?_
  refine ab_isub O dX5_build_50 ?_
  refine ab_istore_n O 1 dX5_build_51 rfl (show 1 < 2 by decide) ?_
  obtain ⟨n9, h⟩ := h
  refine ab_less (cl_X5_build_L52 hd O I (fun V15 x16 h => ?_) n9 (V9) ((r10 - 1)) h) (ab_le_s (ab_le_s ab_le_0))
  refine ab_iconst O 0 dX5_build_74 rfl ?_
  refine ab_istore_n O 1 dX5_build_75 rfl (show 1 < 2 by decide) ?_
  obtain ⟨n9, h⟩ := h
  refine ab_less (cl_X5_build_L76 hd O I (fun V23 x24 h => ?_) n9 (V15) (0) h) (ab_le_s (ab_le_s ab_le_0))
  exact ab_return O I dX5_build_105 (by decide) (by decide) ⟨_, rfl, h⟩

def wp_X5_countPaths_L4 (post : Int32 → Mm → Prop) (kx : Mm → Int32 → Int32 → Prop) : Nat → Mm → Int32 → Int32 → Prop
  | 0, _, _, _ => False
  | n4 + 1, V, x4_1, x4_2 => (wp_X7_count V (fun (r2 : Int32) (V1 : Mm) => ((r2 ≤ x4_2 → kx (V1) (x4_1) (x4_2)) ∧ (¬ r2 ≤ x4_2 → (wp_X7_vertexAt V1 (x4_2) (fun (r5 : Int32) (V4 : Mm) => (wp_X5_headOf V4 (r5) (fun (r7 : Int32) (V6 : Mm) => ((r7 = r5 → wp_X5_countPaths_L4 post kx n4 (V6) ((x4_1 + (1))) ((x4_2 + (1)))) ∧ (¬ r7 = r5 → wp_X5_countPaths_L4 post kx n4 (V6) (x4_1) ((x4_2 + (1)))))))))))))

def wp_X5_countPaths (V : Mm) (post : Int32 → Mm → Prop) : Prop := (∃ m4 : Nat, wp_X5_countPaths_L4 post (fun (V9 : Mm) (x10 : Int32) (x11 : Int32) => post x10 V9) m4 (V) (0) (0))
set_option maxHeartbeats 4000000 in
theorem cl_X5_countPaths_L4 {X : ab_M} {g : ab_G} {l : Launch} {d : Nat} (hd : 2 ≤ d) {post : Int32 → Mm → Prop} {kx : Mm → Int32 → Int32 → Prop} {o : Nat → Int64} {D : Nat → UInt64} (O : ab_Ok X g cX5_countPaths RX5) (I : ab_I X l tk_strs 4 (some .int) yX5_countPaths.name d 0 0) (hk : ∀ (V : Mm) (x4_1 : Int32) (x4_2 : Int32), kx V x4_1 x4_2 → Ab X g 0 0 (tk_Q X g (tk_I g (fun r u => ∃ V : Mm, u = SW V o D ∧ post r V)) (fun _ _ => False) 0 0) 42 [none, some (.int (x4_1)), none, none] [] (SW V o D)) : ∀ (n : Nat) (V : Mm) (x4_1 : Int32) (x4_2 : Int32), wp_X5_countPaths_L4 post kx n V x4_1 x4_2 → Ab X g 0 0 (tk_Q X g (tk_I g (fun r u => ∃ V : Mm, u = SW V o D ∧ post r V)) (fun _ _ => False) 0 0) 4 [some (.ref (43)), some (.int (x4_1)), some (.int (x4_2)), none] [] (SW V o D) := by
  intro n
  induction n with
  | zero => intro V x4_1 x4_2 h; exact h.elim
  | succ n ih =>
    intro V x4_1 x4_2 h
    refine ab_iload_n O 2 dX5_countPaths_4 rfl rfl ?_
    refine ab_aload_n O 0 dX5_countPaths_5 rfl rfl ?_
    refine ab_get O fl_X5_34 dX5_countPaths_6 (at_43 _ _ _) rfl ?_
    refine ab_callvI O I.2.2.2.2.2.2 (fr := False) (st := [.int (x4_2)]) lk_X5_44 rfl (at_29 _ _ _) dX5_countPaths_9 (c_X7_count (d - 1) (by omega) _ O.2.2.2.2.2.2.1 _ _ _ h) rfl rfl ⟨by rw [I.2.1]; show d - 1 + 1 ≤ d; omega, by rw [I.2.1]; show 8 + (_ + 11) + 36 * (d - 1) ≤ 36 * d; omega⟩ (show 1 ≤ 8 by decide) ⟨by rw [I.2.1]; show 0 + 0 ≤ 0; decide, by rw [I.2.1]; show 0 + 0 ≤ 0; decide⟩ (fun q => q.elim) (fun E u q => q.elim) (fun r2 u hu => ?_)
    obtain ⟨V1, rfl, h⟩ := hu
    refine ab_icmp_ge O 42 dX5_countPaths_12 rfl (fun q3 => ?_) (fun q3 => ?_)
    · have h := h.1 q3
      exact ab_less (hk (V1) (x4_1) (x4_2) h) (ab_le_n (ab_le_s (ab_le_n (ab_le_n ab_le_0))))
    · have h := h.2 q3
      refine ab_aload_n O 0 dX5_countPaths_15 rfl rfl ?_
      refine ab_get O fl_X5_34 dX5_countPaths_16 (at_43 _ _ _) rfl ?_
      refine ab_iload_n O 2 dX5_countPaths_19 rfl rfl ?_
      refine ab_callvI O I.2.2.2.2.2.2 (fr := False) (st := []) lk_X5_50 rfl (at_29 _ _ _) dX5_countPaths_20 (c_X7_vertexAt (d - 1) (by omega) _ O.2.2.2.2.2.2.1 _ _ _ _ h) rfl rfl ⟨by rw [I.2.1]; show d - 1 + 1 ≤ d; omega, by rw [I.2.1]; show 8 + (_ + 11) + 36 * (d - 1) ≤ 36 * d; omega⟩ (show 0 ≤ 8 by decide) ⟨by rw [I.2.1]; show 0 + 0 ≤ 0; decide, by rw [I.2.1]; show 0 + 0 ≤ 0; decide⟩ (fun q => q.elim) (fun E u q => q.elim) (fun r5 u hu => ?_)
      obtain ⟨V4, rfl, h⟩ := hu
      refine ab_istore_n O 3 dX5_countPaths_23 rfl (show 3 < 4 by decide) ?_
      refine ab_aload_n O 0 dX5_countPaths_24 rfl rfl ?_
      refine ab_iload_n O 3 dX5_countPaths_25 rfl rfl ?_
      refine ab_callvI O I.2.2.2.2.2.2 (fr := False) (st := []) lk_X5_77 rfl (at_43 _ _ _) dX5_countPaths_26 (c_X5_headOf (d - 1) (by omega) _ O.2.2.2.2.2.2.1 _ _ _ _ h) rfl rfl ⟨by rw [I.2.1]; show d - 1 + 1 ≤ d; omega, by rw [I.2.1]; show 8 + (_ + 11) + 36 * (d - 1) ≤ 36 * d; omega⟩ (show 0 ≤ 8 by decide) ⟨by rw [I.2.1]; show 0 + 0 ≤ 0; decide, by rw [I.2.1]; show 0 + 0 ≤ 0; decide⟩ (fun q => q.elim) (fun E u q => q.elim) (fun r7 u hu => ?_)
      obtain ⟨V6, rfl, h⟩ := hu
      refine ab_iload_n O 3 dX5_countPaths_29 rfl rfl ?_
      refine ab_icmp_ne O 36 dX5_countPaths_30 rfl (fun q8 => ?_) (fun q8 => ?_)
      · have h := h.2 q8
        refine ab_iinc O ((x4_2 + (1))) dX5_countPaths_36 rfl rfl ?_
        refine ab_goto O 4 dX5_countPaths_39 rfl ?_
        exact ab_less (ih (V6) (x4_1) ((x4_2 + (1))) h) (ab_le_s (ab_le_s (ab_le_s (ab_le_n ab_le_0))))
      · have h := h.1 q8
        refine ab_iinc O ((x4_1 + (1))) dX5_countPaths_33 rfl rfl ?_
        refine ab_iinc O ((x4_2 + (1))) dX5_countPaths_36 rfl rfl ?_
        refine ab_goto O 4 dX5_countPaths_39 rfl ?_
        exact ab_less (ih (V6) ((x4_1 + (1))) ((x4_2 + (1))) h) (ab_le_s (ab_le_s (ab_le_s (ab_le_n ab_le_0))))
set_option maxHeartbeats 4000000 in
theorem c_X5_countPaths (d : Nat) (hd : 2 ≤ d) (l : Launch) (hl : l.stackTraces = false) (g : ab_G) (o : Nat → Int64) (D : Nat → UInt64) {V : Mm} {post : Int32 → Mm → Prop} (h : wp_X5_countPaths V post) : Ct l g tk_strs False d 0 0 yX5_countPaths cX5_countPaths 4 (some .int) [.ref 43] (SW V o D) (tk_I g (fun r u => ∃ V : Mm, u = SW V o D ∧ post r V)) (fun _ _ => False) := by
  refine ct_in (by decide +kernel) (show 1 ≤ 4 by decide) (by simp [Value.category]) hl (fun X I O _ => ?_)
  show Ab X g 0 0 _ 0 [some (.ref (43)), none, none, none] [] _
  refine ab_iconst O 0 dX5_countPaths_0 rfl ?_
  refine ab_istore_n O 1 dX5_countPaths_1 rfl (show 1 < 4 by decide) ?_
  refine ab_iconst O 0 dX5_countPaths_2 rfl ?_
  refine ab_istore_n O 2 dX5_countPaths_3 rfl (show 2 < 4 by decide) ?_
  obtain ⟨n9, h⟩ := h
  refine ab_less (cl_X5_countPaths_L4 hd O I (fun V9 x10 x11 h => ?_) n9 (V) (0) (0) h) (ab_le_s (ab_le_s (ab_le_s (ab_le_n ab_le_0))))
  refine ab_iload_n O 1 dX5_countPaths_42 rfl rfl ?_
  exact ab_ireturn O I dX5_countPaths_43 (by decide) (by decide) (by rfl) ⟨_, rfl, h⟩

def wp_X5_sumBelow (V : Mm) (a0 : Int32) (post : Int32 → Mm → Prop) : Prop := (wp_X3_hasVertex V (a0) (fun (r2 : Int32) (V1 : Mm) => ((r2 = 0 → post 0 V1) ∧ (¬ r2 = 0 → (vp_in a0 20 ∧ post (V1 45 (Int32.toNatClampNeg (a0))) V1)))))
set_option maxHeartbeats 4000000 in
theorem c_X5_sumBelow (d : Nat) (hd : 1 ≤ d) (l : Launch) (hl : l.stackTraces = false) (g : ab_G) (o : Nat → Int64) (D : Nat → UInt64) (a0 : Int32) {V : Mm} {post : Int32 → Mm → Prop} (h : wp_X5_sumBelow V a0 post) : Ct l g tk_strs False d 0 0 yX5_sumBelow cX5_sumBelow 2 (some .int) [.ref 43, .int a0] (SW V o D) (tk_I g (fun r u => ∃ V : Mm, u = SW V o D ∧ post r V)) (fun _ _ => False) := by
  refine ct_in (by decide +kernel) (show 2 ≤ 2 by decide) (by simp [Value.category]) hl (fun X I O _ => ?_)
  show Ab X g 0 0 _ 0 [some (.ref (43)), some (.int (a0))] [] _
  refine ab_aload_n O 0 dX5_sumBelow_0 rfl rfl ?_
  refine ab_get O fl_X5_30 dX5_sumBelow_1 (at_43 _ _ _) rfl ?_
  refine ab_iload_n O 1 dX5_sumBelow_4 rfl rfl ?_
  refine ab_callvI O I.2.2.2.2.2.2 (fr := False) (st := []) lk_X5_63 rfl (at_1 _ _ _) dX5_sumBelow_5 (c_X3_hasVertex (d - 1) (by omega) _ O.2.2.2.2.2.2.1 _ _ _ _ h) rfl rfl ⟨by rw [I.2.1]; show d - 1 + 1 ≤ d; omega, by rw [I.2.1]; show 8 + (_ + 11) + 36 * (d - 1) ≤ 36 * d; omega⟩ (show 0 ≤ 8 by decide) ⟨by rw [I.2.1]; show 0 + 0 ≤ 0; decide, by rw [I.2.1]; show 0 + 0 ≤ 0; decide⟩ (fun q => q.elim) (fun E u q => q.elim) (fun r2 u hu => ?_)
  obtain ⟨V1, rfl, h⟩ := hu
  refine ab_if_eq O 20 dX5_sumBelow_8 rfl (fun q3 => ?_) (fun q3 => ?_)
  · have h := h.1 q3
    refine ab_iconst O 0 dX5_sumBelow_20 rfl ?_
    exact ab_ireturn O I dX5_sumBelow_21 (by decide) (by decide) (by rfl) ⟨_, rfl, h⟩
  · have h := h.2 q3
    refine ab_aload_n O 0 dX5_sumBelow_11 rfl rfl ?_
    refine ab_get O fl_X5_15 dX5_sumBelow_12 (at_43 _ _ _) rfl ?_
    refine ab_iload_n O 1 dX5_sumBelow_15 rfl rfl ?_
    refine ab_iald O dX5_sumBelow_16 (at_45 _ _ _) h.1 ?_
    have h := h.2
    refine ab_goto O 21 dX5_sumBelow_17 rfl ?_
    exact ab_ireturn O I dX5_sumBelow_21 (by decide) (by decide) (by rfl) ⟨_, rfl, h⟩

def wp_X5_sumToRoot_L7 (post : Int32 → Mm → Prop) (kx : Mm → Int32 → Int32 → Int32 → Prop) : Nat → Mm → Int32 → Int32 → Int32 → Prop
  | 0, _, _, _, _ => False
  | n7 + 1, V, x7_2, x7_3, x7_4 => ((20 ≤ x7_4 → kx (V) (x7_2) (x7_3) (x7_4)) ∧ (¬ 20 ≤ x7_4 → ((x7_3 = (-1) → kx (V) (x7_2) (x7_3) (x7_4)) ∧ (¬ x7_3 = (-1) → (wp_X5_sumToHead V (x7_3) (fun (r4 : Int32) (V3 : Mm) => (wp_X5_headOf V3 (x7_3) (fun (r6 : Int32) (V5 : Mm) => (wp_X7_above V5 (r6) (fun (r8 : Int32) (V7 : Mm) => wp_X5_sumToRoot_L7 post kx n7 (V7) ((x7_2 + r4)) (r8) ((x7_4 + (1)))))))))))))

def wp_X5_sumToRoot (V : Mm) (a0 : Int32) (post : Int32 → Mm → Prop) : Prop := (∃ m7 : Nat, wp_X5_sumToRoot_L7 post (fun (V9 : Mm) (x10 : Int32) (x11 : Int32) (x12 : Int32) => post x10 V9) m7 (V) (0) (a0) (0))
set_option maxHeartbeats 4000000 in
theorem cl_X5_sumToRoot_L7 {X : ab_M} {g : ab_G} {l : Launch} {d : Nat} (hd : 2 ≤ d) {post : Int32 → Mm → Prop} {kx : Mm → Int32 → Int32 → Int32 → Prop} {o : Nat → Int64} {D : Nat → UInt64} (O : ab_Ok X g cX5_sumToRoot RX5) (I : ab_I X l tk_strs 5 (some .int) yX5_sumToRoot.name d 0 0) (hk : ∀ (V : Mm) (x7_2 : Int32) (x7_3 : Int32) (x7_4 : Int32), kx V x7_2 x7_3 x7_4 → Ab X g 0 0 (tk_Q X g (tk_I g (fun r u => ∃ V : Mm, u = SW V o D ∧ post r V)) (fun _ _ => False) 0 0) 46 [none, none, some (.int (x7_2)), none, none] [] (SW V o D)) : ∀ (n : Nat) (V : Mm) (x7_2 : Int32) (x7_3 : Int32) (x7_4 : Int32), wp_X5_sumToRoot_L7 post kx n V x7_2 x7_3 x7_4 → Ab X g 0 0 (tk_Q X g (tk_I g (fun r u => ∃ V : Mm, u = SW V o D ∧ post r V)) (fun _ _ => False) 0 0) 7 [some (.ref (43)), none, some (.int (x7_2)), some (.int (x7_3)), some (.int (x7_4))] [] (SW V o D) := by
  intro n
  induction n with
  | zero => intro V x7_2 x7_3 x7_4 h; exact h.elim
  | succ n ih =>
    intro V x7_2 x7_3 x7_4 h
    refine ab_iload O dX5_sumToRoot_7 rfl ?_
    refine ab_bipush O 20 dX5_sumToRoot_9 rfl ?_
    refine ab_icmp_ge O 46 dX5_sumToRoot_11 rfl (fun q1 => ?_) (fun q1 => ?_)
    · have h := h.1 q1
      exact ab_less (hk (V) (x7_2) (x7_3) (x7_4) h) (ab_le_n (ab_le_n (ab_le_s (ab_le_n (ab_le_n ab_le_0)))))
    · have h := h.2 q1
      refine ab_iload_n O 3 dX5_sumToRoot_14 rfl rfl ?_
      refine ab_iconst O (-1) dX5_sumToRoot_15 rfl ?_
      refine ab_icmp_eq O 46 dX5_sumToRoot_16 rfl (fun q2 => ?_) (fun q2 => ?_)
      · have h := h.1 q2
        exact ab_less (hk (V) (x7_2) (x7_3) (x7_4) h) (ab_le_n (ab_le_n (ab_le_s (ab_le_n (ab_le_n ab_le_0)))))
      · have h := h.2 q2
        refine ab_iload_n O 2 dX5_sumToRoot_19 rfl rfl ?_
        refine ab_aload_n O 0 dX5_sumToRoot_20 rfl rfl ?_
        refine ab_iload_n O 3 dX5_sumToRoot_21 rfl rfl ?_
        refine ab_callvI O I.2.2.2.2.2.2 (fr := False) (st := [.int (x7_2)]) lk_X5_80 rfl (at_43 _ _ _) dX5_sumToRoot_22 (c_X5_sumToHead (d - 1) (by omega) _ O.2.2.2.2.2.2.1 _ _ _ _ h) rfl rfl ⟨by rw [I.2.1]; show d - 1 + 1 ≤ d; omega, by rw [I.2.1]; show 8 + (_ + 11) + 36 * (d - 1) ≤ 36 * d; omega⟩ (show 1 ≤ 8 by decide) ⟨by rw [I.2.1]; show 0 + 0 ≤ 0; decide, by rw [I.2.1]; show 0 + 0 ≤ 0; decide⟩ (fun q => q.elim) (fun E u q => q.elim) (fun r4 u hu => ?_)
        obtain ⟨V3, rfl, h⟩ := hu
        refine ab_iadd O dX5_sumToRoot_25 ?_
        refine ab_istore_n O 2 dX5_sumToRoot_26 rfl (show 2 < 5 by decide) ?_
        refine ab_aload_n O 0 dX5_sumToRoot_27 rfl rfl ?_
        refine ab_get O fl_X5_34 dX5_sumToRoot_28 (at_43 _ _ _) rfl ?_
        refine ab_aload_n O 0 dX5_sumToRoot_31 rfl rfl ?_
        refine ab_iload_n O 3 dX5_sumToRoot_32 rfl rfl ?_
        refine ab_callvI O I.2.2.2.2.2.2 (fr := False) (st := [.ref (29)]) lk_X5_77 rfl (at_43 _ _ _) dX5_sumToRoot_33 (c_X5_headOf (d - 1) (by omega) _ O.2.2.2.2.2.2.1 _ _ _ _ h) rfl rfl ⟨by rw [I.2.1]; show d - 1 + 1 ≤ d; omega, by rw [I.2.1]; show 8 + (_ + 11) + 36 * (d - 1) ≤ 36 * d; omega⟩ (show 1 ≤ 8 by decide) ⟨by rw [I.2.1]; show 0 + 0 ≤ 0; decide, by rw [I.2.1]; show 0 + 0 ≤ 0; decide⟩ (fun q => q.elim) (fun E u q => q.elim) (fun r6 u hu => ?_)
        obtain ⟨V5, rfl, h⟩ := hu
        refine ab_callvI O I.2.2.2.2.2.2 (fr := False) (st := []) lk_X5_60 rfl (at_29 _ _ _) dX5_sumToRoot_36 (c_X7_above (d - 1) (by omega) _ O.2.2.2.2.2.2.1 _ _ _ _ h) rfl rfl ⟨by rw [I.2.1]; show d - 1 + 1 ≤ d; omega, by rw [I.2.1]; show 8 + (_ + 11) + 36 * (d - 1) ≤ 36 * d; omega⟩ (show 0 ≤ 8 by decide) ⟨by rw [I.2.1]; show 0 + 0 ≤ 0; decide, by rw [I.2.1]; show 0 + 0 ≤ 0; decide⟩ (fun q => q.elim) (fun E u q => q.elim) (fun r8 u hu => ?_)
        obtain ⟨V7, rfl, h⟩ := hu
        refine ab_istore_n O 3 dX5_sumToRoot_39 rfl (show 3 < 5 by decide) ?_
        refine ab_iinc O ((x7_4 + (1))) dX5_sumToRoot_40 rfl rfl ?_
        refine ab_goto O 7 dX5_sumToRoot_43 rfl ?_
        exact ab_less (ih (V7) ((x7_2 + r4)) (r8) ((x7_4 + (1))) h) (ab_le_s (ab_le_n (ab_le_s (ab_le_s (ab_le_s ab_le_0)))))
set_option maxHeartbeats 4000000 in
theorem c_X5_sumToRoot (d : Nat) (hd : 2 ≤ d) (l : Launch) (hl : l.stackTraces = false) (g : ab_G) (o : Nat → Int64) (D : Nat → UInt64) (a0 : Int32) {V : Mm} {post : Int32 → Mm → Prop} (h : wp_X5_sumToRoot V a0 post) : Ct l g tk_strs False d 0 0 yX5_sumToRoot cX5_sumToRoot 5 (some .int) [.ref 43, .int a0] (SW V o D) (tk_I g (fun r u => ∃ V : Mm, u = SW V o D ∧ post r V)) (fun _ _ => False) := by
  refine ct_in (by decide +kernel) (show 2 ≤ 5 by decide) (by simp [Value.category]) hl (fun X I O _ => ?_)
  show Ab X g 0 0 _ 0 [some (.ref (43)), some (.int (a0)), none, none, none] [] _
  refine ab_iconst O 0 dX5_sumToRoot_0 rfl ?_
  refine ab_istore_n O 2 dX5_sumToRoot_1 rfl (show 2 < 5 by decide) ?_
  refine ab_iload_n O 1 dX5_sumToRoot_2 rfl rfl ?_
  refine ab_istore_n O 3 dX5_sumToRoot_3 rfl (show 3 < 5 by decide) ?_
  refine ab_iconst O 0 dX5_sumToRoot_4 rfl ?_
  refine ab_istore O dX5_sumToRoot_5 (show 4 < 5 by decide) ?_
  obtain ⟨n9, h⟩ := h
  refine ab_less (cl_X5_sumToRoot_L7 hd O I (fun V9 x10 x11 x12 h => ?_) n9 (V) (0) (a0) (0) h) (ab_le_s (ab_le_n (ab_le_s (ab_le_s (ab_le_s ab_le_0)))))
  refine ab_iload_n O 2 dX5_sumToRoot_46 rfl rfl ?_
  exact ab_ireturn O I dX5_sumToRoot_47 (by decide) (by decide) (by rfl) ⟨_, rfl, h⟩

def wp_X6_jump (V : Mm) (a0 a1 : Int32) (post : Int32 → Mm → Prop) : Prop := (wp_X3_hasVertex V (a0) (fun (r2 : Int32) (V1 : Mm) => ((r2 = 0 → post (-1) V1) ∧ (¬ r2 = 0 → ((a1 < 0 → post (-1) V1) ∧ (¬ a1 < 0 → ((a1 < 5 → (vp_in a1 5 ∧ (vp_in a0 20 ∧ post (V1 (52 + Int32.toNatClampNeg (a1)) (Int32.toNatClampNeg (a0))) V1))) ∧ (¬ a1 < 5 → post (-1) V1))))))))
set_option maxHeartbeats 4000000 in
theorem c_X6_jump (d : Nat) (hd : 1 ≤ d) (l : Launch) (hl : l.stackTraces = false) (g : ab_G) (o : Nat → Int64) (D : Nat → UInt64) (a0 : Int32) (a1 : Int32) {V : Mm} {post : Int32 → Mm → Prop} (h : wp_X6_jump V a0 a1 post) : Ct l g tk_strs False d 0 0 yX6_jump cX6_jump 3 (some .int) [.ref 50, .int a0, .int a1] (SW V o D) (tk_I g (fun r u => ∃ V : Mm, u = SW V o D ∧ post r V)) (fun _ _ => False) := by
  refine ct_in (by decide +kernel) (show 3 ≤ 3 by decide) (by simp [Value.category]) hl (fun X I O _ => ?_)
  show Ab X g 0 0 _ 0 [some (.ref (50)), some (.int (a0)), some (.int (a1))] [] _
  refine ab_aload_n O 0 dX6_jump_0 rfl rfl ?_
  refine ab_get O fl_X6_16 dX6_jump_1 (at_50 _ _ _) rfl ?_
  refine ab_iload_n O 1 dX6_jump_4 rfl rfl ?_
  refine ab_callvI O I.2.2.2.2.2.2 (fr := False) (st := []) lk_X6_34 rfl (at_1 _ _ _) dX6_jump_5 (c_X3_hasVertex (d - 1) (by omega) _ O.2.2.2.2.2.2.1 _ _ _ _ h) rfl rfl ⟨by rw [I.2.1]; show d - 1 + 1 ≤ d; omega, by rw [I.2.1]; show 8 + (_ + 11) + 36 * (d - 1) ≤ 36 * d; omega⟩ (show 0 ≤ 8 by decide) ⟨by rw [I.2.1]; show 0 + 0 ≤ 0; decide, by rw [I.2.1]; show 0 + 0 ≤ 0; decide⟩ (fun q => q.elim) (fun E u q => q.elim) (fun r2 u hu => ?_)
  obtain ⟨V1, rfl, h⟩ := hu
  refine ab_if_eq O 20 dX6_jump_8 rfl (fun q3 => ?_) (fun q3 => ?_)
  · have h := h.1 q3
    refine ab_iconst O (-1) dX6_jump_20 rfl ?_
    exact ab_ireturn O I dX6_jump_21 (by decide) (by decide) (by rfl) ⟨_, rfl, h⟩
  · have h := h.2 q3
    refine ab_iload_n O 2 dX6_jump_11 rfl rfl ?_
    refine ab_if_lt O 20 dX6_jump_12 rfl (fun q4 => ?_) (fun q4 => ?_)
    · have h := h.1 q4
      refine ab_iconst O (-1) dX6_jump_20 rfl ?_
      exact ab_ireturn O I dX6_jump_21 (by decide) (by decide) (by rfl) ⟨_, rfl, h⟩
    · have h := h.2 q4
      refine ab_iload_n O 2 dX6_jump_15 rfl rfl ?_
      refine ab_iconst O 5 dX6_jump_16 rfl ?_
      refine ab_icmp_lt O 22 dX6_jump_17 rfl (fun q5 => ?_) (fun q5 => ?_)
      · have h := h.1 q5
        refine ab_aload_n O 0 dX6_jump_22 rfl rfl ?_
        refine ab_get O fl_X6_11 dX6_jump_23 (at_50 _ _ _) rfl ?_
        refine ab_iload_n O 2 dX6_jump_26 rfl rfl ?_
        have b6 := h.1
        have h := h.2
        refine ab_aald O dX6_jump_27 (at_51 _ _ _) b6 (if_pos (Nat.not_le.mp fun q => b6 (Or.inr q))) ?_
        refine ab_iload_n O 1 dX6_jump_28 rfl rfl ?_
        refine ab_iald O dX6_jump_29 (at_r52 _ _ _ _ (Nat.not_le.mp fun q => b6 (Or.inr q))) h.1 ?_
        have h := h.2
        exact ab_ireturn O I dX6_jump_30 (by decide) (by decide) (by rfl) ⟨_, rfl, h⟩
      · have h := h.2 q5
        refine ab_iconst O (-1) dX6_jump_20 rfl ?_
        exact ab_ireturn O I dX6_jump_21 (by decide) (by decide) (by rfl) ⟨_, rfl, h⟩

def wp_X6_build_L2 (post : Mm → Prop) (kx : Mm → Int32 → Prop) : Nat → Mm → Int32 → Prop
  | 0, _, _ => False
  | n2 + 1, V, x2_1 => ((20 ≤ x2_1 → kx (V) (x2_1)) ∧ (¬ 20 ≤ x2_1 → (vp_in 0 5 ∧ (wp_X7_above V (x2_1) (fun (r4 : Int32) (V3 : Mm) => (vp_in x2_1 20 ∧ ∀ V5 : Mm, V5 = wr V3 (52 + Int32.toNatClampNeg (0)) (Int32.toNatClampNeg (x2_1)) r4 → wp_X6_build_L2 post kx n2 (V5) ((x2_1 + (1)))))))))

def wp_X6_build_L39 (y39_1 : Int32) (post : Mm → Prop) (kx : Mm → Int32 → Prop) : Nat → Mm → Int32 → Prop
  | 0, _, _ => False
  | n39 + 1, V, x39_2 => ((20 ≤ x39_2 → kx (V) (x39_2)) ∧ (¬ 20 ≤ x39_2 → (vp_in y39_1 5 ∧ (wp_X6_jump V (x39_2) ((y39_1 - 1)) (fun (r12 : Int32) (V11 : Mm) => (wp_X6_jump V11 (r12) ((y39_1 - 1)) (fun (r14 : Int32) (V13 : Mm) => (vp_in x39_2 20 ∧ ∀ V15 : Mm, V15 = wr V13 (52 + Int32.toNatClampNeg (y39_1)) (Int32.toNatClampNeg (x39_2)) r14 → wp_X6_build_L39 y39_1 post kx n39 (V15) ((x39_2 + (1)))))))))))

def wp_X6_build_L32 (post : Mm → Prop) (kx : Mm → Int32 → Prop) : Nat → Mm → Int32 → Prop
  | 0, _, _ => False
  | n32 + 1, V, x32_1 => ((5 ≤ x32_1 → kx (V) (x32_1)) ∧ (¬ 5 ≤ x32_1 → (∃ m39 : Nat, wp_X6_build_L39 (x32_1) post (fun (V16 : Mm) (x17 : Int32) => wp_X6_build_L32 post kx n32 (V16) ((x32_1 + (1)))) m39 (V) (0))))

def wp_X6_build (V : Mm) (post : Mm → Prop) : Prop := (∃ m2 : Nat, wp_X6_build_L2 post (fun (V6 : Mm) (x7 : Int32) => (∃ m32 : Nat, wp_X6_build_L32 post (fun (V18 : Mm) (x19 : Int32) => post V18) m32 (V6) (1))) m2 (V) (0))
set_option maxHeartbeats 4000000 in
theorem cl_X6_build_L2 {X : ab_M} {g : ab_G} {l : Launch} {d : Nat} (hd : 2 ≤ d) {post : Mm → Prop} {kx : Mm → Int32 → Prop} {o : Nat → Int64} {D : Nat → UInt64} (O : ab_Ok X g cX6_build RX6) (I : ab_I X l tk_strs 3 none yX6_build.name d 0 0) (hk : ∀ (V : Mm) (x2_1 : Int32), kx V x2_1 → Ab X g 0 0 (tk_Q X g (tk_V g (fun u => ∃ V : Mm, u = SW V o D ∧ post V)) (fun _ _ => False) 0 0) 30 [some (.ref (50)), none, none] [] (SW V o D)) : ∀ (n : Nat) (V : Mm) (x2_1 : Int32), wp_X6_build_L2 post kx n V x2_1 → Ab X g 0 0 (tk_Q X g (tk_V g (fun u => ∃ V : Mm, u = SW V o D ∧ post V)) (fun _ _ => False) 0 0) 2 [some (.ref (50)), some (.int (x2_1)), none] [] (SW V o D) := by
  intro n
  induction n with
  | zero => intro V x2_1 h; exact h.elim
  | succ n ih =>
    intro V x2_1 h
    refine ab_iload_n O 1 dX6_build_2 rfl rfl ?_
    refine ab_bipush O 20 dX6_build_3 rfl ?_
    refine ab_icmp_ge O 30 dX6_build_5 rfl (fun q1 => ?_) (fun q1 => ?_)
    · have h := h.1 q1
      exact ab_less (hk (V) (x2_1) h) (ab_le_s (ab_le_n (ab_le_n ab_le_0)))
    · have h := h.2 q1
      refine ab_aload_n O 0 dX6_build_8 rfl rfl ?_
      refine ab_get O fl_X6_11 dX6_build_9 (at_50 _ _ _) rfl ?_
      refine ab_iconst O 0 dX6_build_12 rfl ?_
      have b2 := h.1
      have h := h.2
      refine ab_aald O dX6_build_13 (at_51 _ _ _) b2 (if_pos (Nat.not_le.mp fun q => b2 (Or.inr q))) ?_
      refine ab_iload_n O 1 dX6_build_14 rfl rfl ?_
      refine ab_aload_n O 0 dX6_build_15 rfl rfl ?_
      refine ab_get O fl_X6_20 dX6_build_16 (at_50 _ _ _) rfl ?_
      refine ab_iload_n O 1 dX6_build_19 rfl rfl ?_
      refine ab_callvI O I.2.2.2.2.2.2 (fr := False) (st := [.int (x2_1), .ref (52 + Int32.toNatClampNeg (0))]) lk_X6_24 rfl (at_29 _ _ _) dX6_build_20 (c_X7_above (d - 1) (by omega) _ O.2.2.2.2.2.2.1 _ _ _ _ h) rfl rfl ⟨by rw [I.2.1]; show d - 1 + 1 ≤ d; omega, by rw [I.2.1]; show 8 + (_ + 11) + 36 * (d - 1) ≤ 36 * d; omega⟩ (show 2 ≤ 8 by decide) ⟨by rw [I.2.1]; show 0 + 0 ≤ 0; decide, by rw [I.2.1]; show 0 + 0 ≤ 0; decide⟩ (fun q => q.elim) (fun E u q => q.elim) (fun r4 u hu => ?_)
      obtain ⟨V3, rfl, h⟩ := hu
      refine ab_iast O dX6_build_23 (at_r52 _ _ _ _ (Nat.not_le.mp fun q => b2 (Or.inr q))) h.1 ?_
      have h := h.2
      refine ab_eq ?_ rfl rfl rfl (sa_r52 _ _ _ _ _ _ (Nat.not_le.mp fun q => b2 (Or.inr q))).symm
      obtain ⟨V5, eV5⟩ : ∃ z : Mm, z = wr V3 (52 + Int32.toNatClampNeg (0)) (Int32.toNatClampNeg (x2_1)) r4 := ⟨_, rfl⟩
      rw [← eV5]
      have h := h V5 eV5
      refine ab_iinc O ((x2_1 + (1))) dX6_build_24 rfl rfl ?_
      refine ab_goto O 2 dX6_build_27 rfl ?_
      exact ab_less (ih (V5) ((x2_1 + (1))) h) (ab_le_s (ab_le_s (ab_le_n ab_le_0)))
set_option maxHeartbeats 4000000 in
theorem cl_X6_build_L39 {X : ab_M} {g : ab_G} {l : Launch} {d : Nat} (hd : 2 ≤ d) (y39_1 : Int32) {post : Mm → Prop} {kx : Mm → Int32 → Prop} {o : Nat → Int64} {D : Nat → UInt64} (O : ab_Ok X g cX6_build RX6) (I : ab_I X l tk_strs 3 none yX6_build.name d 0 0) (hk : ∀ (V : Mm) (x39_2 : Int32), kx V x39_2 → Ab X g 0 0 (tk_Q X g (tk_V g (fun u => ∃ V : Mm, u = SW V o D ∧ post V)) (fun _ _ => False) 0 0) 74 [some (.ref (50)), some (.int (y39_1)), none] [] (SW V o D)) : ∀ (n : Nat) (V : Mm) (x39_2 : Int32), wp_X6_build_L39 y39_1 post kx n V x39_2 → Ab X g 0 0 (tk_Q X g (tk_V g (fun u => ∃ V : Mm, u = SW V o D ∧ post V)) (fun _ _ => False) 0 0) 39 [some (.ref (50)), some (.int (y39_1)), some (.int (x39_2))] [] (SW V o D) := by
  intro n
  induction n with
  | zero => intro V x39_2 h; exact h.elim
  | succ n ih =>
    intro V x39_2 h
    refine ab_iload_n O 2 dX6_build_39 rfl rfl ?_
    refine ab_bipush O 20 dX6_build_40 rfl ?_
    refine ab_icmp_ge O 74 dX6_build_42 rfl (fun q9 => ?_) (fun q9 => ?_)
    · have h := h.1 q9
      exact ab_less (hk (V) (x39_2) h) (ab_le_s (ab_le_s (ab_le_n ab_le_0)))
    · have h := h.2 q9
      refine ab_aload_n O 0 dX6_build_45 rfl rfl ?_
      refine ab_get O fl_X6_11 dX6_build_46 (at_50 _ _ _) rfl ?_
      refine ab_iload_n O 1 dX6_build_49 rfl rfl ?_
      have b10 := h.1
      have h := h.2
      refine ab_aald O dX6_build_50 (at_51 _ _ _) b10 (if_pos (Nat.not_le.mp fun q => b10 (Or.inr q))) ?_
      refine ab_iload_n O 2 dX6_build_51 rfl rfl ?_
      refine ab_aload_n O 0 dX6_build_52 rfl rfl ?_
      refine ab_aload_n O 0 dX6_build_53 rfl rfl ?_
      refine ab_iload_n O 2 dX6_build_54 rfl rfl ?_
      refine ab_iload_n O 1 dX6_build_55 rfl rfl ?_
      refine ab_iconst O 1 dX6_build_56 rfl ?_
      refine ab_isub O dX6_build_57 ?_
      refine ab_callvI O I.2.2.2.2.2.2 (fr := False) (st := [.ref (50), .int (x39_2), .ref (52 + Int32.toNatClampNeg (y39_1))]) lk_X6_30 rfl (at_50 _ _ _) dX6_build_58 (c_X6_jump (d - 1) (by omega) _ O.2.2.2.2.2.2.1 _ _ _ _ _ h) rfl rfl ⟨by rw [I.2.1]; show d - 1 + 1 ≤ d; omega, by rw [I.2.1]; show 8 + (_ + 11) + 36 * (d - 1) ≤ 36 * d; omega⟩ (show 3 ≤ 8 by decide) ⟨by rw [I.2.1]; show 0 + 0 ≤ 0; decide, by rw [I.2.1]; show 0 + 0 ≤ 0; decide⟩ (fun q => q.elim) (fun E u q => q.elim) (fun r12 u hu => ?_)
      obtain ⟨V11, rfl, h⟩ := hu
      refine ab_iload_n O 1 dX6_build_61 rfl rfl ?_
      refine ab_iconst O 1 dX6_build_62 rfl ?_
      refine ab_isub O dX6_build_63 ?_
      refine ab_callvI O I.2.2.2.2.2.2 (fr := False) (st := [.int (x39_2), .ref (52 + Int32.toNatClampNeg (y39_1))]) lk_X6_30 rfl (at_50 _ _ _) dX6_build_64 (c_X6_jump (d - 1) (by omega) _ O.2.2.2.2.2.2.1 _ _ _ _ _ h) rfl rfl ⟨by rw [I.2.1]; show d - 1 + 1 ≤ d; omega, by rw [I.2.1]; show 8 + (_ + 11) + 36 * (d - 1) ≤ 36 * d; omega⟩ (show 2 ≤ 8 by decide) ⟨by rw [I.2.1]; show 0 + 0 ≤ 0; decide, by rw [I.2.1]; show 0 + 0 ≤ 0; decide⟩ (fun q => q.elim) (fun E u q => q.elim) (fun r14 u hu => ?_)
      obtain ⟨V13, rfl, h⟩ := hu
      refine ab_iast O dX6_build_67 (at_r52 _ _ _ _ (Nat.not_le.mp fun q => b10 (Or.inr q))) h.1 ?_
      have h := h.2
      refine ab_eq ?_ rfl rfl rfl (sa_r52 _ _ _ _ _ _ (Nat.not_le.mp fun q => b10 (Or.inr q))).symm
      obtain ⟨V15, eV15⟩ : ∃ z : Mm, z = wr V13 (52 + Int32.toNatClampNeg (y39_1)) (Int32.toNatClampNeg (x39_2)) r14 := ⟨_, rfl⟩
      rw [← eV15]
      have h := h V15 eV15
      refine ab_iinc O ((x39_2 + (1))) dX6_build_68 rfl rfl ?_
      refine ab_goto O 39 dX6_build_71 rfl ?_
      exact ab_less (ih (V15) ((x39_2 + (1))) h) (ab_le_s (ab_le_s (ab_le_s ab_le_0)))
set_option maxHeartbeats 4000000 in
theorem cl_X6_build_L32 {X : ab_M} {g : ab_G} {l : Launch} {d : Nat} (hd : 2 ≤ d) {post : Mm → Prop} {kx : Mm → Int32 → Prop} {o : Nat → Int64} {D : Nat → UInt64} (O : ab_Ok X g cX6_build RX6) (I : ab_I X l tk_strs 3 none yX6_build.name d 0 0) (hk : ∀ (V : Mm) (x32_1 : Int32), kx V x32_1 → Ab X g 0 0 (tk_Q X g (tk_V g (fun u => ∃ V : Mm, u = SW V o D ∧ post V)) (fun _ _ => False) 0 0) 80 [none, none, none] [] (SW V o D)) : ∀ (n : Nat) (V : Mm) (x32_1 : Int32), wp_X6_build_L32 post kx n V x32_1 → Ab X g 0 0 (tk_Q X g (tk_V g (fun u => ∃ V : Mm, u = SW V o D ∧ post V)) (fun _ _ => False) 0 0) 32 [some (.ref (50)), some (.int (x32_1)), none] [] (SW V o D) := by
  intro n
  induction n with
  | zero => intro V x32_1 h; exact h.elim
  | succ n ih =>
    intro V x32_1 h
    refine ab_iload_n O 1 dX6_build_32 rfl rfl ?_
    refine ab_iconst O 5 dX6_build_33 rfl ?_
    refine ab_icmp_ge O 80 dX6_build_34 rfl (fun q8 => ?_) (fun q8 => ?_)
    · have h := h.1 q8
      exact ab_less (hk (V) (x32_1) h) (ab_le_n (ab_le_n (ab_le_n ab_le_0)))
    · have h := h.2 q8
      refine ab_iconst O 0 dX6_build_37 rfl ?_
      refine ab_istore_n O 2 dX6_build_38 rfl (show 2 < 3 by decide) ?_
      obtain ⟨n9, h⟩ := h
      refine ab_less (cl_X6_build_L39 hd (x32_1) O I (fun V16 x17 h => ?_) n9 (V) (0) h) (ab_le_s (ab_le_s (ab_le_s ab_le_0)))
      refine ab_iinc O ((x32_1 + (1))) dX6_build_74 rfl rfl ?_
      refine ab_goto O 32 dX6_build_77 rfl ?_
      exact ab_less (ih (V16) ((x32_1 + (1))) h) (ab_le_s (ab_le_s (ab_le_n ab_le_0)))
set_option maxHeartbeats 4000000 in
theorem c_X6_build (d : Nat) (hd : 2 ≤ d) (l : Launch) (hl : l.stackTraces = false) (g : ab_G) (o : Nat → Int64) (D : Nat → UInt64) {V : Mm} {post : Mm → Prop} (h : wp_X6_build V post) : Ct l g tk_strs False d 0 0 yX6_build cX6_build 3 none [.ref 50] (SW V o D) (tk_V g (fun u => ∃ V : Mm, u = SW V o D ∧ post V)) (fun _ _ => False) := by
  refine ct_in (by decide +kernel) (show 1 ≤ 3 by decide) (by simp [Value.category]) hl (fun X I O _ => ?_)
  show Ab X g 0 0 _ 0 [some (.ref (50)), none, none] [] _
  refine ab_iconst O 0 dX6_build_0 rfl ?_
  refine ab_istore_n O 1 dX6_build_1 rfl (show 1 < 3 by decide) ?_
  obtain ⟨n9, h⟩ := h
  refine ab_less (cl_X6_build_L2 hd O I (fun V6 x7 h => ?_) n9 (V) (0) h) (ab_le_s (ab_le_s (ab_le_n ab_le_0)))
  refine ab_iconst O 1 dX6_build_30 rfl ?_
  refine ab_istore_n O 1 dX6_build_31 rfl (show 1 < 3 by decide) ?_
  obtain ⟨n9, h⟩ := h
  refine ab_less (cl_X6_build_L32 hd O I (fun V18 x19 h => ?_) n9 (V6) (1) h) (ab_le_s (ab_le_s (ab_le_n ab_le_0)))
  exact ab_return O I dX6_build_80 (by decide) (by decide) ⟨_, rfl, h⟩

def wp_X6_climb_L5 (y5_2 : Int32) (post : Int32 → Mm → Prop) (kx : Mm → Int32 → Int32 → Prop) : Nat → Mm → Int32 → Int32 → Prop
  | 0, _, _, _ => False
  | n5 + 1, V, x5_3, x5_4 => ((5 ≤ x5_4 → kx (V) (x5_3) (x5_4)) ∧ (¬ 5 ≤ x5_4 → ((((y5_2 >>> (x5_4 &&& 31)) &&& 1) = 1 → (wp_X6_jump V (x5_3) (x5_4) (fun (r4 : Int32) (V3 : Mm) => wp_X6_climb_L5 y5_2 post kx n5 (V3) (r4) ((x5_4 + (1)))))) ∧ (¬ ((y5_2 >>> (x5_4 &&& 31)) &&& 1) = 1 → wp_X6_climb_L5 y5_2 post kx n5 (V) (x5_3) ((x5_4 + (1)))))))

def wp_X6_climb (V : Mm) (a0 a1 : Int32) (post : Int32 → Mm → Prop) : Prop := (∃ m5 : Nat, wp_X6_climb_L5 (a1) post (fun (V5 : Mm) (x6 : Int32) (x7 : Int32) => post x6 V5) m5 (V) (a0) (0))
set_option maxHeartbeats 4000000 in
theorem cl_X6_climb_L5 {X : ab_M} {g : ab_G} {l : Launch} {d : Nat} (hd : 2 ≤ d) (y5_2 : Int32) {post : Int32 → Mm → Prop} {kx : Mm → Int32 → Int32 → Prop} {o : Nat → Int64} {D : Nat → UInt64} (O : ab_Ok X g cX6_climb RX6) (I : ab_I X l tk_strs 5 (some .int) yX6_climb.name d 0 0) (hk : ∀ (V : Mm) (x5_3 : Int32) (x5_4 : Int32), kx V x5_3 x5_4 → Ab X g 0 0 (tk_Q X g (tk_I g (fun r u => ∃ V : Mm, u = SW V o D ∧ post r V)) (fun _ _ => False) 0 0) 35 [none, none, none, some (.int (x5_3)), none] [] (SW V o D)) : ∀ (n : Nat) (V : Mm) (x5_3 : Int32) (x5_4 : Int32), wp_X6_climb_L5 y5_2 post kx n V x5_3 x5_4 → Ab X g 0 0 (tk_Q X g (tk_I g (fun r u => ∃ V : Mm, u = SW V o D ∧ post r V)) (fun _ _ => False) 0 0) 5 [some (.ref (50)), none, some (.int (y5_2)), some (.int (x5_3)), some (.int (x5_4))] [] (SW V o D) := by
  intro n
  induction n with
  | zero => intro V x5_3 x5_4 h; exact h.elim
  | succ n ih =>
    intro V x5_3 x5_4 h
    refine ab_iload O dX6_climb_5 rfl ?_
    refine ab_iconst O 5 dX6_climb_7 rfl ?_
    refine ab_icmp_ge O 35 dX6_climb_8 rfl (fun q1 => ?_) (fun q1 => ?_)
    · have h := h.1 q1
      exact ab_less (hk (V) (x5_3) (x5_4) h) (ab_le_n (ab_le_n (ab_le_n (ab_le_s (ab_le_n ab_le_0)))))
    · have h := h.2 q1
      refine ab_iload_n O 2 dX6_climb_11 rfl rfl ?_
      refine ab_iload O dX6_climb_12 rfl ?_
      refine ab_ishr O dX6_climb_14 ?_
      refine ab_iconst O 1 dX6_climb_15 rfl ?_
      refine ab_iand O dX6_climb_16 ?_
      refine ab_iconst O 1 dX6_climb_17 rfl ?_
      refine ab_icmp_ne O 29 dX6_climb_18 rfl (fun q2 => ?_) (fun q2 => ?_)
      · have h := h.2 q2
        refine ab_iinc O ((x5_4 + (1))) dX6_climb_29 rfl rfl ?_
        refine ab_goto O 5 dX6_climb_32 rfl ?_
        exact ab_less (ih (V) (x5_3) ((x5_4 + (1))) h) (ab_le_s (ab_le_n (ab_le_s (ab_le_s (ab_le_s ab_le_0)))))
      · have h := h.1 q2
        refine ab_aload_n O 0 dX6_climb_21 rfl rfl ?_
        refine ab_iload_n O 3 dX6_climb_22 rfl rfl ?_
        refine ab_iload O dX6_climb_23 rfl ?_
        refine ab_callvI O I.2.2.2.2.2.2 (fr := False) (st := []) lk_X6_30 rfl (at_50 _ _ _) dX6_climb_25 (c_X6_jump (d - 1) (by omega) _ O.2.2.2.2.2.2.1 _ _ _ _ _ h) rfl rfl ⟨by rw [I.2.1]; show d - 1 + 1 ≤ d; omega, by rw [I.2.1]; show 8 + (_ + 11) + 36 * (d - 1) ≤ 36 * d; omega⟩ (show 0 ≤ 8 by decide) ⟨by rw [I.2.1]; show 0 + 0 ≤ 0; decide, by rw [I.2.1]; show 0 + 0 ≤ 0; decide⟩ (fun q => q.elim) (fun E u q => q.elim) (fun r4 u hu => ?_)
        obtain ⟨V3, rfl, h⟩ := hu
        refine ab_istore_n O 3 dX6_climb_28 rfl (show 3 < 5 by decide) ?_
        refine ab_iinc O ((x5_4 + (1))) dX6_climb_29 rfl rfl ?_
        refine ab_goto O 5 dX6_climb_32 rfl ?_
        exact ab_less (ih (V3) (r4) ((x5_4 + (1))) h) (ab_le_s (ab_le_n (ab_le_s (ab_le_s (ab_le_s ab_le_0)))))
set_option maxHeartbeats 4000000 in
theorem c_X6_climb (d : Nat) (hd : 2 ≤ d) (l : Launch) (hl : l.stackTraces = false) (g : ab_G) (o : Nat → Int64) (D : Nat → UInt64) (a0 : Int32) (a1 : Int32) {V : Mm} {post : Int32 → Mm → Prop} (h : wp_X6_climb V a0 a1 post) : Ct l g tk_strs False d 0 0 yX6_climb cX6_climb 5 (some .int) [.ref 50, .int a0, .int a1] (SW V o D) (tk_I g (fun r u => ∃ V : Mm, u = SW V o D ∧ post r V)) (fun _ _ => False) := by
  refine ct_in (by decide +kernel) (show 3 ≤ 5 by decide) (by simp [Value.category]) hl (fun X I O _ => ?_)
  show Ab X g 0 0 _ 0 [some (.ref (50)), some (.int (a0)), some (.int (a1)), none, none] [] _
  refine ab_iload_n O 1 dX6_climb_0 rfl rfl ?_
  refine ab_istore_n O 3 dX6_climb_1 rfl (show 3 < 5 by decide) ?_
  refine ab_iconst O 0 dX6_climb_2 rfl ?_
  refine ab_istore O dX6_climb_3 (show 4 < 5 by decide) ?_
  obtain ⟨n9, h⟩ := h
  refine ab_less (cl_X6_climb_L5 hd (a1) O I (fun V5 x6 x7 h => ?_) n9 (V) (a0) (0) h) (ab_le_s (ab_le_n (ab_le_s (ab_le_s (ab_le_s ab_le_0)))))
  refine ab_iload_n O 3 dX6_climb_35 rfl rfl ?_
  exact ab_ireturn O I dX6_climb_36 (by decide) (by decide) (by rfl) ⟨_, rfl, h⟩

def wp_X6_meet_L66 (post : Int32 → Mm → Prop) (kx : Mm → Int32 → Int32 → Int32 → Prop) : Nat → Mm → Int32 → Int32 → Int32 → Prop
  | 0, _, _, _, _ => False
  | n66 + 1, V, x66_3, x66_4, x66_5 => ((x66_5 < 0 → kx (V) (x66_3) (x66_4) (x66_5)) ∧ (¬ x66_5 < 0 → (wp_X6_jump V (x66_3) (x66_5) (fun (r16 : Int32) (V15 : Mm) => (wp_X6_jump V15 (x66_4) (x66_5) (fun (r18 : Int32) (V17 : Mm) => ((r16 = r18 → wp_X6_meet_L66 post kx n66 (V17) (x66_3) (x66_4) ((x66_5 + (-1)))) ∧ (¬ r16 = r18 → (wp_X6_jump V17 (x66_3) (x66_5) (fun (r21 : Int32) (V20 : Mm) => (wp_X6_jump V20 (x66_4) (x66_5) (fun (r23 : Int32) (V22 : Mm) => wp_X6_meet_L66 post kx n66 (V22) (r21) (r23) ((x66_5 + (-1)))))))))))))))

def wp_X6_meet (V : Mm) (a0 a1 : Int32) (post : Int32 → Mm → Prop) : Prop := (wp_X7_depthOf V (a0) (fun (r2 : Int32) (V1 : Mm) => (wp_X7_depthOf V1 (a1) (fun (r4 : Int32) (V3 : Mm) => (wp_X6_climb V3 (a0) ((if 0 < (r2 - r4) then (r2 - r4) else 0)) (fun (r6 : Int32) (V5 : Mm) => (wp_X7_depthOf V5 (a1) (fun (r8 : Int32) (V7 : Mm) => (wp_X7_depthOf V7 (a0) (fun (r10 : Int32) (V9 : Mm) => (wp_X6_climb V9 (a1) ((if 0 < (r8 - r10) then (r8 - r10) else 0)) (fun (r12 : Int32) (V11 : Mm) => ((r6 = r12 → post r6 V11) ∧ (¬ r6 = r12 → (∃ m66 : Nat, wp_X6_meet_L66 post (fun (V24 : Mm) (x25 : Int32) (x26 : Int32) (x27 : Int32) => (wp_X6_jump V24 (x25) (0) (fun (r29 : Int32) (V28 : Mm) => post r29 V28))) m66 (V11) (r6) (r12) (4))))))))))))))))
set_option maxHeartbeats 4000000 in
theorem cl_X6_meet_L66 {X : ab_M} {g : ab_G} {l : Launch} {d : Nat} (hd : 3 ≤ d) {post : Int32 → Mm → Prop} {kx : Mm → Int32 → Int32 → Int32 → Prop} {o : Nat → Int64} {D : Nat → UInt64} (O : ab_Ok X g cX6_meet RX6) (I : ab_I X l tk_strs 6 (some .int) yX6_meet.name d 0 0) (hk : ∀ (V : Mm) (x66_3 : Int32) (x66_4 : Int32) (x66_5 : Int32), kx V x66_3 x66_4 x66_5 → Ab X g 0 0 (tk_Q X g (tk_I g (fun r u => ∃ V : Mm, u = SW V o D ∧ post r V)) (fun _ _ => False) 0 0) 113 [some (.ref (50)), none, none, some (.int (x66_3)), none, none] [] (SW V o D)) : ∀ (n : Nat) (V : Mm) (x66_3 : Int32) (x66_4 : Int32) (x66_5 : Int32), wp_X6_meet_L66 post kx n V x66_3 x66_4 x66_5 → Ab X g 0 0 (tk_Q X g (tk_I g (fun r u => ∃ V : Mm, u = SW V o D ∧ post r V)) (fun _ _ => False) 0 0) 66 [some (.ref (50)), none, none, some (.int (x66_3)), some (.int (x66_4)), some (.int (x66_5))] [] (SW V o D) := by
  intro n
  induction n with
  | zero => intro V x66_3 x66_4 x66_5 h; exact h.elim
  | succ n ih =>
    intro V x66_3 x66_4 x66_5 h
    refine ab_iload O dX6_meet_66 rfl ?_
    refine ab_if_lt O 113 dX6_meet_68 rfl (fun q14 => ?_) (fun q14 => ?_)
    · have h := h.1 q14
      exact ab_less (hk (V) (x66_3) (x66_4) (x66_5) h) (ab_le_s (ab_le_n (ab_le_n (ab_le_s (ab_le_n (ab_le_n ab_le_0))))))
    · have h := h.2 q14
      refine ab_aload_n O 0 dX6_meet_71 rfl rfl ?_
      refine ab_iload_n O 3 dX6_meet_72 rfl rfl ?_
      refine ab_iload O dX6_meet_73 rfl ?_
      refine ab_callvI O I.2.2.2.2.2.2 (fr := False) (st := []) lk_X6_30 rfl (at_50 _ _ _) dX6_meet_75 (c_X6_jump (d - 1) (by omega) _ O.2.2.2.2.2.2.1 _ _ _ _ _ h) rfl rfl ⟨by rw [I.2.1]; show d - 1 + 1 ≤ d; omega, by rw [I.2.1]; show 8 + (_ + 11) + 36 * (d - 1) ≤ 36 * d; omega⟩ (show 0 ≤ 8 by decide) ⟨by rw [I.2.1]; show 0 + 0 ≤ 0; decide, by rw [I.2.1]; show 0 + 0 ≤ 0; decide⟩ (fun q => q.elim) (fun E u q => q.elim) (fun r16 u hu => ?_)
      obtain ⟨V15, rfl, h⟩ := hu
      refine ab_aload_n O 0 dX6_meet_78 rfl rfl ?_
      refine ab_iload O dX6_meet_79 rfl ?_
      refine ab_iload O dX6_meet_81 rfl ?_
      refine ab_callvI O I.2.2.2.2.2.2 (fr := False) (st := [.int (r16)]) lk_X6_30 rfl (at_50 _ _ _) dX6_meet_83 (c_X6_jump (d - 1) (by omega) _ O.2.2.2.2.2.2.1 _ _ _ _ _ h) rfl rfl ⟨by rw [I.2.1]; show d - 1 + 1 ≤ d; omega, by rw [I.2.1]; show 8 + (_ + 11) + 36 * (d - 1) ≤ 36 * d; omega⟩ (show 1 ≤ 8 by decide) ⟨by rw [I.2.1]; show 0 + 0 ≤ 0; decide, by rw [I.2.1]; show 0 + 0 ≤ 0; decide⟩ (fun q => q.elim) (fun E u q => q.elim) (fun r18 u hu => ?_)
      obtain ⟨V17, rfl, h⟩ := hu
      refine ab_icmp_eq O 107 dX6_meet_86 rfl (fun q19 => ?_) (fun q19 => ?_)
      · have h := h.1 q19
        refine ab_iinc O ((x66_5 + (-1))) dX6_meet_107 rfl rfl ?_
        refine ab_goto O 66 dX6_meet_110 rfl ?_
        exact ab_less (ih (V17) (x66_3) (x66_4) ((x66_5 + (-1))) h) (ab_le_s (ab_le_n (ab_le_n (ab_le_s (ab_le_s (ab_le_s ab_le_0))))))
      · have h := h.2 q19
        refine ab_aload_n O 0 dX6_meet_89 rfl rfl ?_
        refine ab_iload_n O 3 dX6_meet_90 rfl rfl ?_
        refine ab_iload O dX6_meet_91 rfl ?_
        refine ab_callvI O I.2.2.2.2.2.2 (fr := False) (st := []) lk_X6_30 rfl (at_50 _ _ _) dX6_meet_93 (c_X6_jump (d - 1) (by omega) _ O.2.2.2.2.2.2.1 _ _ _ _ _ h) rfl rfl ⟨by rw [I.2.1]; show d - 1 + 1 ≤ d; omega, by rw [I.2.1]; show 8 + (_ + 11) + 36 * (d - 1) ≤ 36 * d; omega⟩ (show 0 ≤ 8 by decide) ⟨by rw [I.2.1]; show 0 + 0 ≤ 0; decide, by rw [I.2.1]; show 0 + 0 ≤ 0; decide⟩ (fun q => q.elim) (fun E u q => q.elim) (fun r21 u hu => ?_)
        obtain ⟨V20, rfl, h⟩ := hu
        refine ab_istore_n O 3 dX6_meet_96 rfl (show 3 < 6 by decide) ?_
        refine ab_aload_n O 0 dX6_meet_97 rfl rfl ?_
        refine ab_iload O dX6_meet_98 rfl ?_
        refine ab_iload O dX6_meet_100 rfl ?_
        refine ab_callvI O I.2.2.2.2.2.2 (fr := False) (st := []) lk_X6_30 rfl (at_50 _ _ _) dX6_meet_102 (c_X6_jump (d - 1) (by omega) _ O.2.2.2.2.2.2.1 _ _ _ _ _ h) rfl rfl ⟨by rw [I.2.1]; show d - 1 + 1 ≤ d; omega, by rw [I.2.1]; show 8 + (_ + 11) + 36 * (d - 1) ≤ 36 * d; omega⟩ (show 0 ≤ 8 by decide) ⟨by rw [I.2.1]; show 0 + 0 ≤ 0; decide, by rw [I.2.1]; show 0 + 0 ≤ 0; decide⟩ (fun q => q.elim) (fun E u q => q.elim) (fun r23 u hu => ?_)
        obtain ⟨V22, rfl, h⟩ := hu
        refine ab_istore O dX6_meet_105 (show 4 < 6 by decide) ?_
        refine ab_iinc O ((x66_5 + (-1))) dX6_meet_107 rfl rfl ?_
        refine ab_goto O 66 dX6_meet_110 rfl ?_
        exact ab_less (ih (V22) (r21) (r23) ((x66_5 + (-1))) h) (ab_le_s (ab_le_n (ab_le_n (ab_le_s (ab_le_s (ab_le_s ab_le_0))))))
set_option maxHeartbeats 4000000 in
theorem c_X6_meet (d : Nat) (hd : 3 ≤ d) (l : Launch) (hl : l.stackTraces = false) (g : ab_G) (o : Nat → Int64) (D : Nat → UInt64) (a0 : Int32) (a1 : Int32) {V : Mm} {post : Int32 → Mm → Prop} (h : wp_X6_meet V a0 a1 post) : Ct l g tk_strs False d 0 0 yX6_meet cX6_meet 6 (some .int) [.ref 50, .int a0, .int a1] (SW V o D) (tk_I g (fun r u => ∃ V : Mm, u = SW V o D ∧ post r V)) (fun _ _ => False) := by
  refine ct_in (by decide +kernel) (show 3 ≤ 6 by decide) (by simp [Value.category]) hl (fun X I O _ => ?_)
  show Ab X g 0 0 _ 0 [some (.ref (50)), some (.int (a0)), some (.int (a1)), none, none, none] [] _
  refine ab_aload_n O 0 dX6_meet_0 rfl rfl ?_
  refine ab_iload_n O 1 dX6_meet_1 rfl rfl ?_
  refine ab_iconst O 0 dX6_meet_2 rfl ?_
  refine ab_aload_n O 0 dX6_meet_3 rfl rfl ?_
  refine ab_get O fl_X6_20 dX6_meet_4 (at_50 _ _ _) rfl ?_
  refine ab_iload_n O 1 dX6_meet_7 rfl rfl ?_
  refine ab_callvI O I.2.2.2.2.2.2 (fr := False) (st := [.int (0), .int (a0), .ref (50)]) lk_X6_40 rfl (at_29 _ _ _) dX6_meet_8 (c_X7_depthOf (d - 1) (by omega) _ O.2.2.2.2.2.2.1 _ _ _ _ h) rfl rfl ⟨by rw [I.2.1]; show d - 1 + 1 ≤ d; omega, by rw [I.2.1]; show 8 + (_ + 11) + 36 * (d - 1) ≤ 36 * d; omega⟩ (show 3 ≤ 8 by decide) ⟨by rw [I.2.1]; show 0 + 0 ≤ 0; decide, by rw [I.2.1]; show 0 + 0 ≤ 0; decide⟩ (fun q => q.elim) (fun E u q => q.elim) (fun r2 u hu => ?_)
  obtain ⟨V1, rfl, h⟩ := hu
  refine ab_aload_n O 0 dX6_meet_11 rfl rfl ?_
  refine ab_get O fl_X6_20 dX6_meet_12 (at_50 _ _ _) rfl ?_
  refine ab_iload_n O 2 dX6_meet_15 rfl rfl ?_
  refine ab_callvI O I.2.2.2.2.2.2 (fr := False) (st := [.int (r2), .int (0), .int (a0), .ref (50)]) lk_X6_40 rfl (at_29 _ _ _) dX6_meet_16 (c_X7_depthOf (d - 1) (by omega) _ O.2.2.2.2.2.2.1 _ _ _ _ h) rfl rfl ⟨by rw [I.2.1]; show d - 1 + 1 ≤ d; omega, by rw [I.2.1]; show 8 + (_ + 11) + 36 * (d - 1) ≤ 36 * d; omega⟩ (show 4 ≤ 8 by decide) ⟨by rw [I.2.1]; show 0 + 0 ≤ 0; decide, by rw [I.2.1]; show 0 + 0 ≤ 0; decide⟩ (fun q => q.elim) (fun E u q => q.elim) (fun r4 u hu => ?_)
  obtain ⟨V3, rfl, h⟩ := hu
  refine ab_isub O dX6_meet_19 ?_
  refine ab_max O dX6_meet_20 lm_X6_43 mm_s mm_i mm_c (by rw [I.2.1]; show 1 ≤ d; omega) (by rw [I.2.1]; show 2 + 13 ≤ 36 * d; omega) (by rw [I.2.1]; show 0 ≤ 0; decide) (by rw [I.2.1]; show 0 ≤ 0; decide) ?_
  refine ab_callvI O I.2.2.2.2.2.2 (fr := False) (st := []) lk_X6_48 rfl (at_50 _ _ _) dX6_meet_23 (c_X6_climb (d - 1) (by omega) _ O.2.2.2.2.2.2.1 _ _ _ _ _ h) rfl rfl ⟨by rw [I.2.1]; show d - 1 + 1 ≤ d; omega, by rw [I.2.1]; show 8 + (_ + 11) + 36 * (d - 1) ≤ 36 * d; omega⟩ (show 0 ≤ 8 by decide) ⟨by rw [I.2.1]; show 0 + 0 ≤ 0; decide, by rw [I.2.1]; show 0 + 0 ≤ 0; decide⟩ (fun q => q.elim) (fun E u q => q.elim) (fun r6 u hu => ?_)
  obtain ⟨V5, rfl, h⟩ := hu
  refine ab_istore_n O 3 dX6_meet_26 rfl (show 3 < 6 by decide) ?_
  refine ab_aload_n O 0 dX6_meet_27 rfl rfl ?_
  refine ab_iload_n O 2 dX6_meet_28 rfl rfl ?_
  refine ab_iconst O 0 dX6_meet_29 rfl ?_
  refine ab_aload_n O 0 dX6_meet_30 rfl rfl ?_
  refine ab_get O fl_X6_20 dX6_meet_31 (at_50 _ _ _) rfl ?_
  refine ab_iload_n O 2 dX6_meet_34 rfl rfl ?_
  refine ab_callvI O I.2.2.2.2.2.2 (fr := False) (st := [.int (0), .int (a1), .ref (50)]) lk_X6_40 rfl (at_29 _ _ _) dX6_meet_35 (c_X7_depthOf (d - 1) (by omega) _ O.2.2.2.2.2.2.1 _ _ _ _ h) rfl rfl ⟨by rw [I.2.1]; show d - 1 + 1 ≤ d; omega, by rw [I.2.1]; show 8 + (_ + 11) + 36 * (d - 1) ≤ 36 * d; omega⟩ (show 3 ≤ 8 by decide) ⟨by rw [I.2.1]; show 0 + 0 ≤ 0; decide, by rw [I.2.1]; show 0 + 0 ≤ 0; decide⟩ (fun q => q.elim) (fun E u q => q.elim) (fun r8 u hu => ?_)
  obtain ⟨V7, rfl, h⟩ := hu
  refine ab_aload_n O 0 dX6_meet_38 rfl rfl ?_
  refine ab_get O fl_X6_20 dX6_meet_39 (at_50 _ _ _) rfl ?_
  refine ab_iload_n O 1 dX6_meet_42 rfl rfl ?_
  refine ab_callvI O I.2.2.2.2.2.2 (fr := False) (st := [.int (r8), .int (0), .int (a1), .ref (50)]) lk_X6_40 rfl (at_29 _ _ _) dX6_meet_43 (c_X7_depthOf (d - 1) (by omega) _ O.2.2.2.2.2.2.1 _ _ _ _ h) rfl rfl ⟨by rw [I.2.1]; show d - 1 + 1 ≤ d; omega, by rw [I.2.1]; show 8 + (_ + 11) + 36 * (d - 1) ≤ 36 * d; omega⟩ (show 4 ≤ 8 by decide) ⟨by rw [I.2.1]; show 0 + 0 ≤ 0; decide, by rw [I.2.1]; show 0 + 0 ≤ 0; decide⟩ (fun q => q.elim) (fun E u q => q.elim) (fun r10 u hu => ?_)
  obtain ⟨V9, rfl, h⟩ := hu
  refine ab_isub O dX6_meet_46 ?_
  refine ab_max O dX6_meet_47 lm_X6_43 mm_s mm_i mm_c (by rw [I.2.1]; show 1 ≤ d; omega) (by rw [I.2.1]; show 2 + 13 ≤ 36 * d; omega) (by rw [I.2.1]; show 0 ≤ 0; decide) (by rw [I.2.1]; show 0 ≤ 0; decide) ?_
  refine ab_callvI O I.2.2.2.2.2.2 (fr := False) (st := []) lk_X6_48 rfl (at_50 _ _ _) dX6_meet_50 (c_X6_climb (d - 1) (by omega) _ O.2.2.2.2.2.2.1 _ _ _ _ _ h) rfl rfl ⟨by rw [I.2.1]; show d - 1 + 1 ≤ d; omega, by rw [I.2.1]; show 8 + (_ + 11) + 36 * (d - 1) ≤ 36 * d; omega⟩ (show 0 ≤ 8 by decide) ⟨by rw [I.2.1]; show 0 + 0 ≤ 0; decide, by rw [I.2.1]; show 0 + 0 ≤ 0; decide⟩ (fun q => q.elim) (fun E u q => q.elim) (fun r12 u hu => ?_)
  obtain ⟨V11, rfl, h⟩ := hu
  refine ab_istore O dX6_meet_53 (show 4 < 6 by decide) ?_
  refine ab_iload_n O 3 dX6_meet_55 rfl rfl ?_
  refine ab_iload O dX6_meet_56 rfl ?_
  refine ab_icmp_ne O 63 dX6_meet_58 rfl (fun q13 => ?_) (fun q13 => ?_)
  · have h := h.2 q13
    refine ab_iconst O 4 dX6_meet_63 rfl ?_
    refine ab_istore O dX6_meet_64 (show 5 < 6 by decide) ?_
    obtain ⟨n9, h⟩ := h
    refine ab_less (cl_X6_meet_L66 hd O I (fun V24 x25 x26 x27 h => ?_) n9 (V11) (r6) (r12) (4) h) (ab_le_s (ab_le_n (ab_le_n (ab_le_s (ab_le_s (ab_le_s ab_le_0))))))
    refine ab_aload_n O 0 dX6_meet_113 rfl rfl ?_
    refine ab_iload_n O 3 dX6_meet_114 rfl rfl ?_
    refine ab_iconst O 0 dX6_meet_115 rfl ?_
    refine ab_callvI O I.2.2.2.2.2.2 (fr := False) (st := []) lk_X6_30 rfl (at_50 _ _ _) dX6_meet_116 (c_X6_jump (d - 1) (by omega) _ O.2.2.2.2.2.2.1 _ _ _ _ _ h) rfl rfl ⟨by rw [I.2.1]; show d - 1 + 1 ≤ d; omega, by rw [I.2.1]; show 8 + (_ + 11) + 36 * (d - 1) ≤ 36 * d; omega⟩ (show 0 ≤ 8 by decide) ⟨by rw [I.2.1]; show 0 + 0 ≤ 0; decide, by rw [I.2.1]; show 0 + 0 ≤ 0; decide⟩ (fun q => q.elim) (fun E u q => q.elim) (fun r29 u hu => ?_)
    obtain ⟨V28, rfl, h⟩ := hu
    exact ab_ireturn O I dX6_meet_119 (by decide) (by decide) (by rfl) ⟨_, rfl, h⟩
  · have h := h.1 q13
    refine ab_iload_n O 3 dX6_meet_61 rfl rfl ?_
    exact ab_ireturn O I dX6_meet_62 (by decide) (by decide) (by rfl) ⟨_, rfl, h⟩
