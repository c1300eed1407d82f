def wp_X9_isBetween (V : Mm) (a0 a1 a2 : Int32) (post : Int32 → Mm → Prop) : Prop := ((a0 < a1 → post 0 V) ∧ (¬ a0 < a1 → ((a2 < a0 → post 0 V) ∧ (¬ a2 < a0 → post 1 V))))
set_option maxHeartbeats 4000000 in
theorem c_X9_isBetween (d : Nat) (hd : 0 ≤ d) (l : Launch) (hl : l.stackTraces = false) (g : ab_G) (o : Nat → Int64) (D : Nat → UInt64) (a0 : Int32) (a1 : Int32) (a2 : Int32) {V : Mm} {post : Int32 → Mm → Prop} (h : wp_X9_isBetween V a0 a1 a2 post) : Ct l g tk_strs False d 0 0 yX9_isBetween cX9_isBetween 3 (some .boolean) [.int a0, .int a1, .int a2] (SW V o D) (tk_I g (fun r u => ∃ V : Mm, u = SW V o D ∧ post r V)) (fun _ _ => False) := by
  refine ct_in (by decide +kernel) (show 3 ≤ 3 by decide) (by simp [Value.category]) hl (fun X I O _ => ?_)
  show Ab X g 0 0 _ 0 [some (.int (a0)), some (.int (a1)), some (.int (a2))] [] _
  refine ab_iload_n O 1 dX9_isBetween_0 rfl rfl ?_
  refine ab_iload_n O 0 dX9_isBetween_1 rfl rfl ?_
  refine ab_icmp_gt O 14 dX9_isBetween_2 rfl (fun q1 => ?_) (fun q1 => ?_)
  · have h := h.1 q1
    refine ab_iconst O 0 dX9_isBetween_14 rfl ?_
    exact ab_ireturn O I dX9_isBetween_15 (by decide) (by decide) (by rfl) ⟨_, rfl, h⟩
  · have h := h.2 q1
    refine ab_iload_n O 0 dX9_isBetween_5 rfl rfl ?_
    refine ab_iload_n O 2 dX9_isBetween_6 rfl rfl ?_
    refine ab_icmp_gt O 14 dX9_isBetween_7 rfl (fun q2 => ?_) (fun q2 => ?_)
    · have h := h.1 q2
      refine ab_iconst O 0 dX9_isBetween_14 rfl ?_
      exact ab_ireturn O I dX9_isBetween_15 (by decide) (by decide) (by rfl) ⟨_, rfl, h⟩
    · have h := h.2 q2
      refine ab_iconst O 1 dX9_isBetween_10 rfl ?_
      refine ab_goto O 15 dX9_isBetween_11 rfl ?_
      exact ab_ireturn O I dX9_isBetween_15 (by decide) (by decide) (by rfl) ⟨_, rfl, h⟩

def wp_X9_isVertex (V : Mm) (a0 : Int32) (post : Int32 → Mm → Prop) : Prop := (wp_X9_isBetween V (a0) (0) (((V 57 9) - 1)) (fun (r2 : Int32) (V1 : Mm) => (narrow .boolean (.int r2) = .int r2 ∧ post r2 V1)))
set_option maxHeartbeats 4000000 in
theorem c_X9_isVertex (d : Nat) (hd : 1 ≤ d) (l : Launch) (hl : l.stackTraces = false) (g : ab_G) (o : Nat → Int64) (D : Nat → UInt64) (a0 : Int32) {V : Mm} {post : Int32 → Mm → Prop} (h : wp_X9_isVertex V a0 post) : Ct l g tk_strs False d 0 0 yX9_isVertex cX9_isVertex 2 (some .boolean) [.ref 57, .int a0] (SW V o D) (tk_I g (fun r u => ∃ V : Mm, u = SW V o D ∧ post r V)) (fun _ _ => False) := by
  refine ct_in (by decide +kernel) (show 2 ≤ 2 by decide) (by simp [Value.category]) hl (fun X I O _ => ?_)
  show Ab X g 0 0 _ 0 [some (.ref (57)), some (.int (a0))] [] _
  refine ab_iload_n O 1 dX9_isVertex_0 rfl rfl ?_
  refine ab_iconst O 0 dX9_isVertex_1 rfl ?_
  refine ab_aload_n O 0 dX9_isVertex_2 rfl rfl ?_
  refine ab_get O fl_X9_57 dX9_isVertex_3 (at_57 _ _ _) rfl ?_
  refine ab_iconst O 1 dX9_isVertex_6 rfl ?_
  refine ab_isub O dX9_isVertex_7 ?_
  refine ab_callsI O I.2.2.2.2.2.2 (fr := False) (st := []) lk_X9_60 dX9_isVertex_8 (c_X9_isBetween (d - 1) (by omega) _ O.2.2.2.2.2.2.1 _ _ _ _ _ _ h) rfl rfl ⟨by rw [I.2.1]; show d - 1 + 1 ≤ d; omega, by rw [I.2.1]; show 8 + (_ + 11) + 36 * (d - 1) ≤ 36 * d; omega⟩ (show 0 ≤ 8 by decide) ⟨by rw [I.2.1]; show 0 + 0 ≤ 0; decide, by rw [I.2.1]; show 0 + 0 ≤ 0; decide⟩ (fun q => q.elim) (fun E u q => q.elim) (fun r2 u hu => ?_)
  obtain ⟨V1, rfl, h⟩ := hu
  exact ab_ireturn O I dX9_isVertex_11 (by decide) (by decide) h.1 ⟨_, rfl, h.2⟩

def wp_X9_fails (V : Mm) (a0 : Int32) (post : Int32 → Mm → Prop) : Prop := (∀ V1 : Mm, V1 = wr V 57 0 a0 → post 0 V1)
set_option maxHeartbeats 4000000 in
theorem c_X9_fails (d : Nat) (hd : 0 ≤ d) (l : Launch) (hl : l.stackTraces = false) (g : ab_G) (o : Nat → Int64) (D : Nat → UInt64) (a0 : Int32) {V : Mm} {post : Int32 → Mm → Prop} (h : wp_X9_fails V a0 post) : Ct l g tk_strs False d 0 0 yX9_fails cX9_fails 2 (some .int) [.ref 57, .int a0] (SW V o D) (tk_I g (fun r u => ∃ V : Mm, u = SW V o D ∧ post r V)) (fun _ _ => False) := by
  refine ct_in (by decide +kernel) (show 2 ≤ 2 by decide) (by simp [Value.category]) hl (fun X I O _ => ?_)
  show Ab X g 0 0 _ 0 [some (.ref (57)), some (.int (a0))] [] _
  refine ab_aload_n O 0 dX9_fails_0 rfl rfl ?_
  refine ab_iload_n O 1 dX9_fails_1 rfl rfl ?_
  refine ab_put O fl_X9_53 cl_X9 dX9_fails_2 (at_57 _ _ _) rfl .int (by decide +kernel) (fun _ => rfl) (fun _ => rfl) (show 0 < 18 by decide) ?_
  refine ab_eq ?_ rfl rfl rfl (sf_57_0 _ _ _ _).symm
  obtain ⟨V1, eV1⟩ : ∃ z : Mm, z = wr V 57 0 a0 := ⟨_, rfl⟩
  rw [← eV1]
  have h := h V1 eV1
  refine ab_iconst O 0 dX9_fails_5 rfl ?_
  exact ab_ireturn O I dX9_fails_6 (by decide) (by decide) (by rfl) ⟨_, rfl, h⟩

def wp_X9_comesBefore (V : Mm) (a0 a1 : Int32) (post : Int32 → Mm → Prop) : Prop := (vp_in a0 60 ∧ (vp_in a1 60 ∧ (((V 61 (Int32.toNatClampNeg (a0))) = (V 61 (Int32.toNatClampNeg (a1))) → ((a1 ≤ a0 → post 0 V) ∧ (¬ a1 ≤ a0 → post 1 V))) ∧ (¬ (V 61 (Int32.toNatClampNeg (a0))) = (V 61 (Int32.toNatClampNeg (a1))) → (vp_in a0 60 ∧ (vp_in a1 60 ∧ (((V 61 (Int32.toNatClampNeg (a1))) ≤ (V 61 (Int32.toNatClampNeg (a0))) → post 0 V) ∧ (¬ (V 61 (Int32.toNatClampNeg (a1))) ≤ (V 61 (Int32.toNatClampNeg (a0))) → post 1 V))))))))
set_option maxHeartbeats 4000000 in
theorem c_X9_comesBefore (d : Nat) (hd : 0 ≤ d) (l : Launch) (hl : l.stackTraces = false) (g : ab_G) (o : Nat → Int64) (D : Nat → UInt64) (a0 : Int32) (a1 : Int32) {V : Mm} {post : Int32 → Mm → Prop} (h : wp_X9_comesBefore V a0 a1 post) : Ct l g tk_strs False d 0 0 yX9_comesBefore cX9_comesBefore 3 (some .boolean) [.ref 57, .int a0, .int a1] (SW V o D) (tk_I g (fun r u => ∃ V : Mm, u = SW V o D ∧ post r V)) (fun _ _ => False) := by
  refine ct_in (by decide +kernel) (show 3 ≤ 3 by decide) (by simp [Value.category]) hl (fun X I O _ => ?_)
  show Ab X g 0 0 _ 0 [some (.ref (57)), some (.int (a0)), some (.int (a1))] [] _
  refine ab_aload_n O 0 dX9_comesBefore_0 rfl rfl ?_
  refine ab_get O fl_X9_19 dX9_comesBefore_1 (at_57 _ _ _) rfl ?_
  refine ab_iload_n O 1 dX9_comesBefore_4 rfl rfl ?_
  refine ab_iald O dX9_comesBefore_5 (at_61 _ _ _) h.1 ?_
  have h := h.2
  refine ab_aload_n O 0 dX9_comesBefore_6 rfl rfl ?_
  refine ab_get O fl_X9_19 dX9_comesBefore_7 (at_57 _ _ _) rfl ?_
  refine ab_iload_n O 2 dX9_comesBefore_10 rfl rfl ?_
  refine ab_iald O dX9_comesBefore_11 (at_61 _ _ _) h.1 ?_
  have h := h.2
  refine ab_icmp_eq O 38 dX9_comesBefore_12 rfl (fun q1 => ?_) (fun q1 => ?_)
  · have h := h.1 q1
    refine ab_iload_n O 1 dX9_comesBefore_38 rfl rfl ?_
    refine ab_iload_n O 2 dX9_comesBefore_39 rfl rfl ?_
    refine ab_icmp_ge O 47 dX9_comesBefore_40 rfl (fun q2 => ?_) (fun q2 => ?_)
    · have h := h.1 q2
      refine ab_iconst O 0 dX9_comesBefore_47 rfl ?_
      exact ab_ireturn O I dX9_comesBefore_48 (by decide) (by decide) (by rfl) ⟨_, rfl, h⟩
    · have h := h.2 q2
      refine ab_iconst O 1 dX9_comesBefore_43 rfl ?_
      refine ab_goto O 48 dX9_comesBefore_44 rfl ?_
      exact ab_ireturn O I dX9_comesBefore_48 (by decide) (by decide) (by rfl) ⟨_, rfl, h⟩
  · have h := h.2 q1
    refine ab_aload_n O 0 dX9_comesBefore_15 rfl rfl ?_
    refine ab_get O fl_X9_19 dX9_comesBefore_16 (at_57 _ _ _) rfl ?_
    refine ab_iload_n O 1 dX9_comesBefore_19 rfl rfl ?_
    refine ab_iald O dX9_comesBefore_20 (at_61 _ _ _) h.1 ?_
    have h := h.2
    refine ab_aload_n O 0 dX9_comesBefore_21 rfl rfl ?_
    refine ab_get O fl_X9_19 dX9_comesBefore_22 (at_57 _ _ _) rfl ?_
    refine ab_iload_n O 2 dX9_comesBefore_25 rfl rfl ?_
    refine ab_iald O dX9_comesBefore_26 (at_61 _ _ _) h.1 ?_
    have h := h.2
    refine ab_icmp_ge O 34 dX9_comesBefore_27 rfl (fun q3 => ?_) (fun q3 => ?_)
    · have h := h.1 q3
      refine ab_iconst O 0 dX9_comesBefore_34 rfl ?_
      refine ab_goto O 48 dX9_comesBefore_35 rfl ?_
      exact ab_ireturn O I dX9_comesBefore_48 (by decide) (by decide) (by rfl) ⟨_, rfl, h⟩
    · have h := h.2 q3
      refine ab_iconst O 1 dX9_comesBefore_30 rfl ?_
      refine ab_goto O 48 dX9_comesBefore_31 rfl ?_
      exact ab_ireturn O I dX9_comesBefore_48 (by decide) (by decide) (by rfl) ⟨_, rfl, h⟩

def wp_X9_sorts_L12 (y12_1 : Int32) (post : Mm → Prop) (kx : Mm → Int32 → Prop) : Nat → Mm → Int32 → Prop
  | 0, _, _ => False
  | n12 + 1, V, x12_2 => ((x12_2 ≤ 0 → kx (V) (x12_2)) ∧ (¬ x12_2 ≤ 0 → (vp_in (x12_2 - 1) 60 ∧ (wp_X9_comesBefore V (y12_1) ((V 62 (Int32.toNatClampNeg ((x12_2 - 1))))) (fun (r4 : Int32) (V3 : Mm) => ((r4 = 0 → kx (V3) (x12_2)) ∧ (¬ r4 = 0 → (vp_in (x12_2 - 1) 60 ∧ (vp_in x12_2 60 ∧ ∀ V6 : Mm, V6 = wr V3 62 (Int32.toNatClampNeg (x12_2)) (V3 62 (Int32.toNatClampNeg ((x12_2 - 1)))) → wp_X9_sorts_L12 y12_1 post kx n12 (V6) ((x12_2 + (-1))))))))))))

def wp_X9_sorts_L2 (post : Mm → Prop) (kx : Mm → Int32 → Prop) : Nat → Mm → Int32 → Prop
  | 0, _, _ => False
  | n2 + 1, V, x2_1 => (((V 57 10) ≤ x2_1 → kx (V) (x2_1)) ∧ (¬ (V 57 10) ≤ x2_1 → (∃ m12 : Nat, wp_X9_sorts_L12 (x2_1) post (fun (V7 : Mm) (x8 : Int32) => (vp_in x8 60 ∧ ∀ V9 : Mm, V9 = wr V7 62 (Int32.toNatClampNeg (x8)) x2_1 → wp_X9_sorts_L2 post kx n2 (V9) ((x2_1 + (1))))) m12 (V) (x2_1))))

def wp_X9_sorts (V : Mm) (post : Mm → Prop) : Prop := (∃ m2 : Nat, wp_X9_sorts_L2 post (fun (V10 : Mm) (x11 : Int32) => post V10) m2 (V) (0))
set_option maxHeartbeats 4000000 in
theorem cl_X9_sorts_L12 {X : ab_M} {g : ab_G} {l : Launch} {d : Nat} (hd : 1 ≤ d) (y12_1 : Int32) {post : Mm → Prop} {kx : Mm → Int32 → Prop} {o : Nat → Int64} {D : Nat → UInt64} (O : ab_Ok X g cX9_sorts RX9) (I : ab_I X l tk_strs 3 none yX9_sorts.name d 0 0) (hk : ∀ (V : Mm) (x12_2 : Int32), kx V x12_2 → Ab X g 0 0 (tk_Q X g (tk_V g (fun u => ∃ V : Mm, u = SW V o D ∧ post V)) (fun _ _ => False) 0 0) 52 [some (.ref (57)), some (.int (y12_1)), some (.int (x12_2))] [] (SW V o D)) : ∀ (n : Nat) (V : Mm) (x12_2 : Int32), wp_X9_sorts_L12 y12_1 post kx n V x12_2 → Ab X g 0 0 (tk_Q X g (tk_V g (fun u => ∃ V : Mm, u = SW V o D ∧ post V)) (fun _ _ => False) 0 0) 12 [some (.ref (57)), some (.int (y12_1)), some (.int (x12_2))] [] (SW V o D) := by
  intro n
  induction n with
  | zero => intro V x12_2 h; exact h.elim
  | succ n ih =>
    intro V x12_2 h
    refine ab_iload_n O 2 dX9_sorts_12 rfl rfl ?_
    refine ab_if_le O 52 dX9_sorts_13 rfl (fun q2 => ?_) (fun q2 => ?_)
    · have h := h.1 q2
      exact ab_less (hk (V) (x12_2) h) (ab_le_s (ab_le_s (ab_le_s ab_le_0)))
    · have h := h.2 q2
      refine ab_aload_n O 0 dX9_sorts_16 rfl rfl ?_
      refine ab_iload_n O 1 dX9_sorts_17 rfl rfl ?_
      refine ab_aload_n O 0 dX9_sorts_18 rfl rfl ?_
      refine ab_get O fl_X9_22 dX9_sorts_19 (at_57 _ _ _) rfl ?_
      refine ab_iload_n O 2 dX9_sorts_22 rfl rfl ?_
      refine ab_iconst O 1 dX9_sorts_23 rfl ?_
      refine ab_isub O dX9_sorts_24 ?_
      refine ab_iald O dX9_sorts_25 (at_62 _ _ _) h.1 ?_
      have h := h.2
      refine ab_callvI O I.2.2.2.2.2.2 (fr := False) (st := []) lk_X9_67 rfl (at_57 _ _ _) dX9_sorts_26 (c_X9_comesBefore (d - 1) (by omega) _ O.2.2.2.2.2.2.1 _ _ _ _ _ h) rfl rfl ⟨by rw [I.2.1]; show d - 1 + 1 ≤ d; omega, by rw [I.2.1]; show 8 + (_ + 11) + 36 * (d - 1) ≤ 36 * d; omega⟩ (show 0 ≤ 8 by decide) ⟨by rw [I.2.1]; show 0 + 0 ≤ 0; decide, by rw [I.2.1]; show 0 + 0 ≤ 0; decide⟩ (fun q => q.elim) (fun E u q => q.elim) (fun r4 u hu => ?_)
      obtain ⟨V3, rfl, h⟩ := hu
      refine ab_if_eq O 52 dX9_sorts_29 rfl (fun q5 => ?_) (fun q5 => ?_)
      · have h := h.1 q5
        exact ab_less (hk (V3) (x12_2) h) (ab_le_s (ab_le_s (ab_le_s ab_le_0)))
      · have h := h.2 q5
        refine ab_aload_n O 0 dX9_sorts_32 rfl rfl ?_
        refine ab_get O fl_X9_22 dX9_sorts_33 (at_57 _ _ _) rfl ?_
        refine ab_iload_n O 2 dX9_sorts_36 rfl rfl ?_
        refine ab_aload_n O 0 dX9_sorts_37 rfl rfl ?_
        refine ab_get O fl_X9_22 dX9_sorts_38 (at_57 _ _ _) rfl ?_
        refine ab_iload_n O 2 dX9_sorts_41 rfl rfl ?_
        refine ab_iconst O 1 dX9_sorts_42 rfl ?_
        refine ab_isub O dX9_sorts_43 ?_
        refine ab_iald O dX9_sorts_44 (at_62 _ _ _) h.1 ?_
        have h := h.2
        refine ab_iast O dX9_sorts_45 (at_62 _ _ _) h.1 ?_
        have h := h.2
        refine ab_eq ?_ rfl rfl rfl (sa_62 _ _ _ _ _).symm
        obtain ⟨V6, eV6⟩ : ∃ z : Mm, z = wr V3 62 (Int32.toNatClampNeg (x12_2)) (V3 62 (Int32.toNatClampNeg ((x12_2 - 1)))) := ⟨_, rfl⟩
        rw [← eV6]
        have h := h V6 eV6
        refine ab_iinc O ((x12_2 + (-1))) dX9_sorts_46 rfl rfl ?_
        refine ab_goto O 12 dX9_sorts_49 rfl ?_
        exact ab_less (ih (V6) ((x12_2 + (-1))) h) (ab_le_s (ab_le_s (ab_le_s ab_le_0)))
set_option maxHeartbeats 4000000 in
theorem cl_X9_sorts_L2 {X : ab_M} {g : ab_G} {l : Launch} {d : Nat} (hd : 1 ≤ d) {post : Mm → Prop} {kx : Mm → Int32 → Prop} {o : Nat → Int64} {D : Nat → UInt64} (O : ab_Ok X g cX9_sorts RX9) (I : ab_I X l tk_strs 3 none yX9_sorts.name d 0 0) (hk : ∀ (V : Mm) (x2_1 : Int32), kx V x2_1 → Ab X g 0 0 (tk_Q X g (tk_V g (fun u => ∃ V : Mm, u = SW V o D ∧ post V)) (fun _ _ => False) 0 0) 65 [none, none, none] [] (SW V o D)) : ∀ (n : Nat) (V : Mm) (x2_1 : Int32), wp_X9_sorts_L2 post kx n V x2_1 → Ab X g 0 0 (tk_Q X g (tk_V g (fun u => ∃ V : Mm, u = SW V o D ∧ post V)) (fun _ _ => False) 0 0) 2 [some (.ref (57)), some (.int (x2_1)), none] [] (SW V o D) := by
  intro n
  induction n with
  | zero => intro V x2_1 h; exact h.elim
  | succ n ih =>
    intro V x2_1 h
    refine ab_iload_n O 1 dX9_sorts_2 rfl rfl ?_
    refine ab_aload_n O 0 dX9_sorts_3 rfl rfl ?_
    refine ab_get O fl_X9_64 dX9_sorts_4 (at_57 _ _ _) rfl ?_
    refine ab_icmp_ge O 65 dX9_sorts_7 rfl (fun q1 => ?_) (fun q1 => ?_)
    · have h := h.1 q1
      exact ab_less (hk (V) (x2_1) h) (ab_le_n (ab_le_n (ab_le_n ab_le_0)))
    · have h := h.2 q1
      refine ab_iload_n O 1 dX9_sorts_10 rfl rfl ?_
      refine ab_istore_n O 2 dX9_sorts_11 rfl (show 2 < 3 by decide) ?_
      obtain ⟨n9, h⟩ := h
      refine ab_less (cl_X9_sorts_L12 hd (x2_1) O I (fun V7 x8 h => ?_) n9 (V) (x2_1) h) (ab_le_s (ab_le_s (ab_le_s ab_le_0)))
      refine ab_aload_n O 0 dX9_sorts_52 rfl rfl ?_
      refine ab_get O fl_X9_22 dX9_sorts_53 (at_57 _ _ _) rfl ?_
      refine ab_iload_n O 2 dX9_sorts_56 rfl rfl ?_
      refine ab_iload_n O 1 dX9_sorts_57 rfl rfl ?_
      refine ab_iast O dX9_sorts_58 (at_62 _ _ _) h.1 ?_
      have h := h.2
      refine ab_eq ?_ rfl rfl rfl (sa_62 _ _ _ _ _).symm
      obtain ⟨V9, eV9⟩ : ∃ z : Mm, z = wr V7 62 (Int32.toNatClampNeg (x8)) x2_1 := ⟨_, rfl⟩
      rw [← eV9]
      have h := h V9 eV9
      refine ab_iinc O ((x2_1 + (1))) dX9_sorts_59 rfl rfl ?_
      refine ab_goto O 2 dX9_sorts_62 rfl ?_
      exact ab_less (ih (V9) ((x2_1 + (1))) h) (ab_le_s (ab_le_s (ab_le_n ab_le_0)))
set_option maxHeartbeats 4000000 in
theorem c_X9_sorts (d : Nat) (hd : 1 ≤ d) (l : Launch) (hl : l.stackTraces = false) (g : ab_G) (o : Nat → Int64) (D : Nat → UInt64) {V : Mm} {post : Mm → Prop} (h : wp_X9_sorts V post) : Ct l g tk_strs False d 0 0 yX9_sorts cX9_sorts 3 none [.ref 57] (SW V o D) (tk_V g (fun u => ∃ V : Mm, u = SW V o D ∧ post V)) (fun _ _ => False) := by
  refine ct_in (by decide +kernel) (show 1 ≤ 3 by decide) (by simp [Value.category]) hl (fun X I O _ => ?_)
  show Ab X g 0 0 _ 0 [some (.ref (57)), none, none] [] _
  refine ab_iconst O 0 dX9_sorts_0 rfl ?_
  refine ab_istore_n O 1 dX9_sorts_1 rfl (show 1 < 3 by decide) ?_
  obtain ⟨n9, h⟩ := h
  refine ab_less (cl_X9_sorts_L2 hd O I (fun V10 x11 h => ?_) n9 (V) (0) h) (ab_le_s (ab_le_s (ab_le_n ab_le_0)))
  exact ab_return O I dX9_sorts_65 (by decide) (by decide) ⟨_, rfl, h⟩

def wp_X9_finds_65_L6 (y6_1 : Int32) (post : Mm → Prop) (kx : Mm → Int32 → Prop) : Nat → Mm → Int32 → Prop
  | 0, _, _ => False
  | n6 + 1, V, x6_3 => (((V 57 9) ≤ x6_3 → kx (V) (x6_3)) ∧ (¬ (V 57 9) ≤ x6_3 → (vp_in x6_3 20 ∧ ∀ V3 : Mm, V3 = wr V 63 (Int32.toNatClampNeg (x6_3)) x6_3 → wp_X9_finds_65_L6 y6_1 post kx n6 (V3) ((x6_3 + (1))))))

def wp_X9_finds_65_L118 (y118_1 y118_3 y118_5 y118_6 : Int32) (post : Mm → Prop) (kx : Mm → Int32 → Prop) : Nat → Mm → Int32 → Prop
  | 0, _, _ => False
  | n118 + 1, V, x118_7 => (((V 57 9) ≤ x118_7 → kx (V) (x118_7)) ∧ (¬ (V 57 9) ≤ x118_7 → (vp_in x118_7 20 ∧ (((V 63 (Int32.toNatClampNeg (x118_7))) = y118_6 → (vp_in x118_7 20 ∧ ∀ V12 : Mm, V12 = wr V 63 (Int32.toNatClampNeg (x118_7)) y118_5 → wp_X9_finds_65_L118 y118_1 y118_3 y118_5 y118_6 post kx n118 (V12) ((x118_7 + (1))))) ∧ (¬ (V 63 (Int32.toNatClampNeg (x118_7))) = y118_6 → wp_X9_finds_65_L118 y118_1 y118_3 y118_5 y118_6 post kx n118 (V) ((x118_7 + (1))))))))

def wp_X9_finds_65_L29 (y29_1 : Int32) (post : Mm → Prop) (kx : Mm → Int32 → Prop) : Nat → Mm → Int32 → Prop
  | 0, _, _ => False
  | n29 + 1, V, x29_3 => (((V 57 10) ≤ x29_3 → kx (V) (x29_3)) ∧ (¬ (V 57 10) ≤ x29_3 → (vp_in x29_3 60 ∧ (vp_in (V 62 (Int32.toNatClampNeg (x29_3))) 60 ∧ (vp_in (V 59 (Int32.toNatClampNeg ((V 62 (Int32.toNatClampNeg (x29_3)))))) 20 ∧ (vp_in (V 62 (Int32.toNatClampNeg (x29_3))) 60 ∧ (vp_in (V 60 (Int32.toNatClampNeg ((V 62 (Int32.toNatClampNeg (x29_3)))))) 20 ∧ (vp_in (V 62 (Int32.toNatClampNeg (x29_3))) 60 ∧ (((V 64 (Int32.toNatClampNeg ((V 62 (Int32.toNatClampNeg (x29_3)))))) = 0 → (vp_in (V 62 (Int32.toNatClampNeg (x29_3))) 60 ∧ ∀ V8 : Mm, V8 = wr V 65 (Int32.toNatClampNeg ((V 62 (Int32.toNatClampNeg (x29_3))))) 0 → (vp_in (V 62 (Int32.toNatClampNeg (x29_3))) 60 ∧ (((V8 65 (Int32.toNatClampNeg ((V 62 (Int32.toNatClampNeg (x29_3)))))) = 0 → wp_X9_finds_65_L29 y29_1 post kx n29 (V8) ((x29_3 + (1)))) ∧ (¬ (V8 65 (Int32.toNatClampNeg ((V 62 (Int32.toNatClampNeg (x29_3)))))) = 0 → (∃ m118 : Nat, wp_X9_finds_65_L118 (y29_1) (x29_3) ((V 63 (Int32.toNatClampNeg ((V 59 (Int32.toNatClampNeg ((V 62 (Int32.toNatClampNeg (x29_3)))))))))) ((V 63 (Int32.toNatClampNeg ((V 60 (Int32.toNatClampNeg ((V 62 (Int32.toNatClampNeg (x29_3)))))))))) post (fun (V13 : Mm) (x14 : Int32) => wp_X9_finds_65_L29 y29_1 post kx n29 (V13) ((x29_3 + (1)))) m118 (V8) (0))))))) ∧ (¬ (V 64 (Int32.toNatClampNeg ((V 62 (Int32.toNatClampNeg (x29_3)))))) = 0 → (((V 62 (Int32.toNatClampNeg (x29_3))) = y29_1 → (vp_in (V 62 (Int32.toNatClampNeg (x29_3))) 60 ∧ ∀ V16 : Mm, V16 = wr V 65 (Int32.toNatClampNeg ((V 62 (Int32.toNatClampNeg (x29_3))))) 0 → (vp_in (V 62 (Int32.toNatClampNeg (x29_3))) 60 ∧ (((V16 65 (Int32.toNatClampNeg ((V 62 (Int32.toNatClampNeg (x29_3)))))) = 0 → wp_X9_finds_65_L29 y29_1 post kx n29 (V16) ((x29_3 + (1)))) ∧ (¬ (V16 65 (Int32.toNatClampNeg ((V 62 (Int32.toNatClampNeg (x29_3)))))) = 0 → (∃ m118 : Nat, wp_X9_finds_65_L118 (y29_1) (x29_3) ((V 63 (Int32.toNatClampNeg ((V 59 (Int32.toNatClampNeg ((V 62 (Int32.toNatClampNeg (x29_3)))))))))) ((V 63 (Int32.toNatClampNeg ((V 60 (Int32.toNatClampNeg ((V 62 (Int32.toNatClampNeg (x29_3)))))))))) post (fun (V21 : Mm) (x22 : Int32) => wp_X9_finds_65_L29 y29_1 post kx n29 (V21) ((x29_3 + (1)))) m118 (V16) (0))))))) ∧ (¬ (V 62 (Int32.toNatClampNeg (x29_3))) = y29_1 → (((V 63 (Int32.toNatClampNeg ((V 59 (Int32.toNatClampNeg ((V 62 (Int32.toNatClampNeg (x29_3))))))))) = (V 63 (Int32.toNatClampNeg ((V 60 (Int32.toNatClampNeg ((V 62 (Int32.toNatClampNeg (x29_3))))))))) → (vp_in (V 62 (Int32.toNatClampNeg (x29_3))) 60 ∧ ∀ V24 : Mm, V24 = wr V 65 (Int32.toNatClampNeg ((V 62 (Int32.toNatClampNeg (x29_3))))) 0 → (vp_in (V 62 (Int32.toNatClampNeg (x29_3))) 60 ∧ (((V24 65 (Int32.toNatClampNeg ((V 62 (Int32.toNatClampNeg (x29_3)))))) = 0 → wp_X9_finds_65_L29 y29_1 post kx n29 (V24) ((x29_3 + (1)))) ∧ (¬ (V24 65 (Int32.toNatClampNeg ((V 62 (Int32.toNatClampNeg (x29_3)))))) = 0 → (∃ m118 : Nat, wp_X9_finds_65_L118 (y29_1) (x29_3) ((V 63 (Int32.toNatClampNeg ((V 59 (Int32.toNatClampNeg ((V 62 (Int32.toNatClampNeg (x29_3)))))))))) ((V 63 (Int32.toNatClampNeg ((V 60 (Int32.toNatClampNeg ((V 62 (Int32.toNatClampNeg (x29_3)))))))))) post (fun (V29 : Mm) (x30 : Int32) => wp_X9_finds_65_L29 y29_1 post kx n29 (V29) ((x29_3 + (1)))) m118 (V24) (0))))))) ∧ (¬ (V 63 (Int32.toNatClampNeg ((V 59 (Int32.toNatClampNeg ((V 62 (Int32.toNatClampNeg (x29_3))))))))) = (V 63 (Int32.toNatClampNeg ((V 60 (Int32.toNatClampNeg ((V 62 (Int32.toNatClampNeg (x29_3))))))))) → (vp_in (V 62 (Int32.toNatClampNeg (x29_3))) 60 ∧ ∀ V31 : Mm, V31 = wr V 65 (Int32.toNatClampNeg ((V 62 (Int32.toNatClampNeg (x29_3))))) 1 → (vp_in (V 62 (Int32.toNatClampNeg (x29_3))) 60 ∧ (((V31 65 (Int32.toNatClampNeg ((V 62 (Int32.toNatClampNeg (x29_3)))))) = 0 → wp_X9_finds_65_L29 y29_1 post kx n29 (V31) ((x29_3 + (1)))) ∧ (¬ (V31 65 (Int32.toNatClampNeg ((V 62 (Int32.toNatClampNeg (x29_3)))))) = 0 → (∃ m118 : Nat, wp_X9_finds_65_L118 (y29_1) (x29_3) ((V 63 (Int32.toNatClampNeg ((V 59 (Int32.toNatClampNeg ((V 62 (Int32.toNatClampNeg (x29_3)))))))))) ((V 63 (Int32.toNatClampNeg ((V 60 (Int32.toNatClampNeg ((V 62 (Int32.toNatClampNeg (x29_3)))))))))) post (fun (V36 : Mm) (x37 : Int32) => wp_X9_finds_65_L29 y29_1 post kx n29 (V36) ((x29_3 + (1)))) m118 (V31) (0))))))))))))))))))))

def wp_X9_finds_65 (V : Mm) (a0 : Int32) (post : Mm → Prop) : Prop := (wp_X9_sorts V (fun (V1 : Mm) => (∃ m6 : Nat, wp_X9_finds_65_L6 (a0) post (fun (V4 : Mm) (x5 : Int32) => (∃ m29 : Nat, wp_X9_finds_65_L29 (a0) post (fun (V38 : Mm) (x39 : Int32) => post V38) m29 (V4) (0))) m6 (V1) (0))))
set_option maxHeartbeats 4000000 in
theorem cl_X9_finds_65_L6 {X : ab_M} {g : ab_G} {l : Launch} {d : Nat} (hd : 2 ≤ d) (y6_1 : Int32) {post : Mm → Prop} {kx : Mm → Int32 → Prop} {o : Nat → Int64} {D : Nat → UInt64} (O : ab_Ok X g cX9_finds RX9) (I : ab_I X l tk_strs 8 none yX9_finds.name d 0 0) (hk : ∀ (V : Mm) (x6_3 : Int32), kx V x6_3 → Ab X g 0 0 (tk_Q X g (tk_V g (fun u => ∃ V : Mm, u = SW V o D ∧ post V)) (fun _ _ => False) 0 0) 27 [some (.ref (57)), some (.int (y6_1)), some (.ref (65)), none, none, none, none, none] [] (SW V o D)) : ∀ (n : Nat) (V : Mm) (x6_3 : Int32), wp_X9_finds_65_L6 y6_1 post kx n V x6_3 → Ab X g 0 0 (tk_Q X g (tk_V g (fun u => ∃ V : Mm, u = SW V o D ∧ post V)) (fun _ _ => False) 0 0) 6 [some (.ref (57)), some (.int (y6_1)), some (.ref (65)), some (.int (x6_3)), none, none, none, none] [] (SW V o D) := by
  intro n
  induction n with
  | zero => intro V x6_3 h; exact h.elim
  | succ n ih =>
    intro V x6_3 h
    refine ab_iload_n O 3 dX9_finds_6 rfl rfl ?_
    refine ab_aload_n O 0 dX9_finds_7 rfl rfl ?_
    refine ab_get O fl_X9_57 dX9_finds_8 (at_57 _ _ _) rfl ?_
    refine ab_icmp_ge O 27 dX9_finds_11 rfl (fun q2 => ?_) (fun q2 => ?_)
    · have h := h.1 q2
      exact ab_less (hk (V) (x6_3) h) (ab_le_s (ab_le_s (ab_le_s (ab_le_n (ab_le_n (ab_le_n (ab_le_n (ab_le_n ab_le_0))))))))
    · have h := h.2 q2
      refine ab_aload_n O 0 dX9_finds_14 rfl rfl ?_
      refine ab_get O fl_X9_25 dX9_finds_15 (at_57 _ _ _) rfl ?_
      refine ab_iload_n O 3 dX9_finds_18 rfl rfl ?_
      refine ab_iload_n O 3 dX9_finds_19 rfl rfl ?_
      refine ab_iast O dX9_finds_20 (at_63 _ _ _) h.1 ?_
      have h := h.2
      refine ab_eq ?_ rfl rfl rfl (sa_63 _ _ _ _ _).symm
      obtain ⟨V3, eV3⟩ : ∃ z : Mm, z = wr V 63 (Int32.toNatClampNeg (x6_3)) x6_3 := ⟨_, rfl⟩
      rw [← eV3]
      have h := h V3 eV3
      refine ab_iinc O ((x6_3 + (1))) dX9_finds_21 rfl rfl ?_
      refine ab_goto O 6 dX9_finds_24 rfl ?_
      exact ab_less (ih (V3) ((x6_3 + (1))) h) (ab_le_s (ab_le_s (ab_le_s (ab_le_s (ab_le_n (ab_le_n (ab_le_n (ab_le_n ab_le_0))))))))
set_option maxHeartbeats 4000000 in
theorem cl_X9_finds_65_L118 {X : ab_M} {g : ab_G} {l : Launch} {d : Nat} (hd : 2 ≤ d) (y118_1 y118_3 y118_5 y118_6 : Int32) {post : Mm → Prop} {kx : Mm → Int32 → Prop} {o : Nat → Int64} {D : Nat → UInt64} (O : ab_Ok X g cX9_finds RX9) (I : ab_I X l tk_strs 8 none yX9_finds.name d 0 0) (hk : ∀ (V : Mm) (x118_7 : Int32), kx V x118_7 → Ab X g 0 0 (tk_Q X g (tk_V g (fun u => ∃ V : Mm, u = SW V o D ∧ post V)) (fun _ _ => False) 0 0) 154 [some (.ref (57)), some (.int (y118_1)), some (.ref (65)), some (.int (y118_3)), none, none, none, none] [] (SW V o D)) : ∀ (n : Nat) (V : Mm) (x118_7 : Int32), wp_X9_finds_65_L118 y118_1 y118_3 y118_5 y118_6 post kx n V x118_7 → Ab X g 0 0 (tk_Q X g (tk_V g (fun u => ∃ V : Mm, u = SW V o D ∧ post V)) (fun _ _ => False) 0 0) 118 [some (.ref (57)), some (.int (y118_1)), some (.ref (65)), some (.int (y118_3)), none, some (.int (y118_5)), some (.int (y118_6)), some (.int (x118_7))] [] (SW V o D) := by
  intro n
  induction n with
  | zero => intro V x118_7 h; exact h.elim
  | succ n ih =>
    intro V x118_7 h
    refine ab_iload O dX9_finds_118 rfl ?_
    refine ab_aload_n O 0 dX9_finds_120 rfl rfl ?_
    refine ab_get O fl_X9_57 dX9_finds_121 (at_57 _ _ _) rfl ?_
    refine ab_icmp_ge O 154 dX9_finds_124 rfl (fun q10 => ?_) (fun q10 => ?_)
    · have h := h.1 q10
      exact ab_less (hk (V) (x118_7) h) (ab_le_s (ab_le_s (ab_le_s (ab_le_s (ab_le_n (ab_le_n (ab_le_n (ab_le_n ab_le_0))))))))
    · have h := h.2 q10
      refine ab_aload_n O 0 dX9_finds_127 rfl rfl ?_
      refine ab_get O fl_X9_25 dX9_finds_128 (at_57 _ _ _) rfl ?_
      refine ab_iload O dX9_finds_131 rfl ?_
      refine ab_iald O dX9_finds_133 (at_63 _ _ _) h.1 ?_
      have h := h.2
      refine ab_iload O dX9_finds_134 rfl ?_
      refine ab_icmp_ne O 148 dX9_finds_136 rfl (fun q11 => ?_) (fun q11 => ?_)
      · have h := h.2 q11
        refine ab_iinc O ((x118_7 + (1))) dX9_finds_148 rfl rfl ?_
        refine ab_goto O 118 dX9_finds_151 rfl ?_
        exact ab_less (ih (V) ((x118_7 + (1))) h) (ab_le_s (ab_le_s (ab_le_s (ab_le_s (ab_le_n (ab_le_s (ab_le_s (ab_le_s ab_le_0))))))))
      · have h := h.1 q11
        refine ab_aload_n O 0 dX9_finds_139 rfl rfl ?_
        refine ab_get O fl_X9_25 dX9_finds_140 (at_57 _ _ _) rfl ?_
        refine ab_iload O dX9_finds_143 rfl ?_
        refine ab_iload O dX9_finds_145 rfl ?_
        refine ab_iast O dX9_finds_147 (at_63 _ _ _) h.1 ?_
        have h := h.2
        refine ab_eq ?_ rfl rfl rfl (sa_63 _ _ _ _ _).symm
        obtain ⟨V12, eV12⟩ : ∃ z : Mm, z = wr V 63 (Int32.toNatClampNeg (x118_7)) y118_5 := ⟨_, rfl⟩
        rw [← eV12]
        have h := h V12 eV12
        refine ab_iinc O ((x118_7 + (1))) dX9_finds_148 rfl rfl ?_
        refine ab_goto O 118 dX9_finds_151 rfl ?_
        exact ab_less (ih (V12) ((x118_7 + (1))) h) (ab_le_s (ab_le_s (ab_le_s (ab_le_s (ab_le_n (ab_le_s (ab_le_s (ab_le_s ab_le_0))))))))
set_option maxHeartbeats 4000000 in
theorem cl_X9_finds_65_L29 {X : ab_M} {g : ab_G} {l : Launch} {d : Nat} (hd : 2 ≤ d) (y29_1 : Int32) {post : Mm → Prop} {kx : Mm → Int32 → Prop} {o : Nat → Int64} {D : Nat → UInt64} (O : ab_Ok X g cX9_finds RX9) (I : ab_I X l tk_strs 8 none yX9_finds.name d 0 0) (hk : ∀ (V : Mm) (x29_3 : Int32), kx V x29_3 → Ab X g 0 0 (tk_Q X g (tk_V g (fun u => ∃ V : Mm, u = SW V o D ∧ post V)) (fun _ _ => False) 0 0) 160 [none, none, none, none, none, none, none, none] [] (SW V o D)) : ∀ (n : Nat) (V : Mm) (x29_3 : Int32), wp_X9_finds_65_L29 y29_1 post kx n V x29_3 → Ab X g 0 0 (tk_Q X g (tk_V g (fun u => ∃ V : Mm, u = SW V o D ∧ post V)) (fun _ _ => False) 0 0) 29 [some (.ref (57)), some (.int (y29_1)), some (.ref (65)), some (.int (x29_3)), none, none, none, none] [] (SW V o D) := by
  intro n
  induction n with
  | zero => intro V x29_3 h; exact h.elim
  | succ n ih =>
    intro V x29_3 h
    refine ab_iload_n O 3 dX9_finds_29 rfl rfl ?_
    refine ab_aload_n O 0 dX9_finds_30 rfl rfl ?_
    refine ab_get O fl_X9_64 dX9_finds_31 (at_57 _ _ _) rfl ?_
    refine ab_icmp_ge O 160 dX9_finds_34 rfl (fun q6 => ?_) (fun q6 => ?_)
    · have h := h.1 q6
      exact ab_less (hk (V) (x29_3) h) (ab_le_n (ab_le_n (ab_le_n (ab_le_n (ab_le_n (ab_le_n (ab_le_n (ab_le_n ab_le_0))))))))
    · have h := h.2 q6
      refine ab_aload_n O 0 dX9_finds_37 rfl rfl ?_
      refine ab_get O fl_X9_22 dX9_finds_38 (at_57 _ _ _) rfl ?_
      refine ab_iload_n O 3 dX9_finds_41 rfl rfl ?_
      refine ab_iald O dX9_finds_42 (at_62 _ _ _) h.1 ?_
      have h := h.2
      refine ab_istore O dX9_finds_43 (show 4 < 8 by decide) ?_
      refine ab_aload_n O 0 dX9_finds_45 rfl rfl ?_
      refine ab_get O fl_X9_25 dX9_finds_46 (at_57 _ _ _) rfl ?_
      refine ab_aload_n O 0 dX9_finds_49 rfl rfl ?_
      refine ab_get O fl_X9_13 dX9_finds_50 (at_57 _ _ _) rfl ?_
      refine ab_iload O dX9_finds_53 rfl ?_
      refine ab_iald O dX9_finds_55 (at_59 _ _ _) h.1 ?_
      have h := h.2
      refine ab_iald O dX9_finds_56 (at_63 _ _ _) h.1 ?_
      have h := h.2
      refine ab_istore O dX9_finds_57 (show 5 < 8 by decide) ?_
      refine ab_aload_n O 0 dX9_finds_59 rfl rfl ?_
      refine ab_get O fl_X9_25 dX9_finds_60 (at_57 _ _ _) rfl ?_
      refine ab_aload_n O 0 dX9_finds_63 rfl rfl ?_
      refine ab_get O fl_X9_16 dX9_finds_64 (at_57 _ _ _) rfl ?_
      refine ab_iload O dX9_finds_67 rfl ?_
      refine ab_iald O dX9_finds_69 (at_60 _ _ _) h.1 ?_
      have h := h.2
      refine ab_iald O dX9_finds_70 (at_63 _ _ _) h.1 ?_
      have h := h.2
      refine ab_istore O dX9_finds_71 (show 6 < 8 by decide) ?_
      refine ab_aload_n O 2 dX9_finds_73 rfl rfl ?_
      refine ab_iload O dX9_finds_74 rfl ?_
      refine ab_aload_n O 0 dX9_finds_76 rfl rfl ?_
      refine ab_get O fl_X9_28 dX9_finds_77 (at_57 _ _ _) rfl ?_
      refine ab_iload O dX9_finds_80 rfl ?_
      refine ab_zald O dX9_finds_82 (at_64 _ _ _) h.1 ?_
      have h := h.2
      refine ab_if_eq O 103 dX9_finds_83 rfl (fun q7 => ?_) (fun q7 => ?_)
      · have h := h.1 q7
        refine ab_iconst O 0 dX9_finds_103 rfl ?_
        refine ab_zast O dX9_finds_104 (at_65 _ _ _) h.1 ?_
        have h := h.2
        refine ab_eq ?_ rfl rfl rfl (sa_65 _ _ _ _ _).symm
        show Ab _ _ _ _ _ _ _ _ (SW (wr V 65 (Int32.toNatClampNeg ((V 62 (Int32.toNatClampNeg (x29_3))))) 0) _ _)
        obtain ⟨V8, eV8⟩ : ∃ z : Mm, z = wr V 65 (Int32.toNatClampNeg ((V 62 (Int32.toNatClampNeg (x29_3))))) 0 := ⟨_, rfl⟩
        rw [← eV8]
        have h := h V8 eV8
        refine ab_aload_n O 2 dX9_finds_105 rfl rfl ?_
        refine ab_iload O dX9_finds_106 rfl ?_
        refine ab_zald O dX9_finds_108 (at_65 _ _ _) h.1 ?_
        have h := h.2
        refine ab_if_ne O 115 dX9_finds_109 rfl (fun q9 => ?_) (fun q9 => ?_)
        · have h := h.2 q9
          refine ab_iconst O 0 dX9_finds_115 rfl ?_
          refine ab_istore O dX9_finds_116 (show 7 < 8 by decide) ?_
          obtain ⟨n9, h⟩ := h
          refine ab_less (cl_X9_finds_65_L118 hd (y29_1) (x29_3) ((V 63 (Int32.toNatClampNeg ((V 59 (Int32.toNatClampNeg ((V 62 (Int32.toNatClampNeg (x29_3)))))))))) ((V 63 (Int32.toNatClampNeg ((V 60 (Int32.toNatClampNeg ((V 62 (Int32.toNatClampNeg (x29_3)))))))))) O I (fun V13 x14 h => ?_) n9 (V8) (0) h) (ab_le_s (ab_le_s (ab_le_s (ab_le_s (ab_le_n (ab_le_s (ab_le_s (ab_le_s ab_le_0))))))))
          refine ab_iinc O ((x29_3 + (1))) dX9_finds_154 rfl rfl ?_
          refine ab_goto O 29 dX9_finds_157 rfl ?_
          exact ab_less (ih (V13) ((x29_3 + (1))) h) (ab_le_s (ab_le_s (ab_le_s (ab_le_s (ab_le_n (ab_le_n (ab_le_n (ab_le_n ab_le_0))))))))
        · have h := h.1 q9
          refine ab_goto O 154 dX9_finds_112 rfl ?_
          refine ab_iinc O ((x29_3 + (1))) dX9_finds_154 rfl rfl ?_
          refine ab_goto O 29 dX9_finds_157 rfl ?_
          exact ab_less (ih (V8) ((x29_3 + (1))) h) (ab_le_s (ab_le_s (ab_le_s (ab_le_s (ab_le_n (ab_le_n (ab_le_n (ab_le_n ab_le_0))))))))
      · have h := h.2 q7
        refine ab_iload O dX9_finds_86 rfl ?_
        refine ab_iload_n O 1 dX9_finds_88 rfl rfl ?_
        refine ab_icmp_eq O 103 dX9_finds_89 rfl (fun q15 => ?_) (fun q15 => ?_)
        · have h := h.1 q15
          refine ab_iconst O 0 dX9_finds_103 rfl ?_
          refine ab_zast O dX9_finds_104 (at_65 _ _ _) h.1 ?_
          have h := h.2
          refine ab_eq ?_ rfl rfl rfl (sa_65 _ _ _ _ _).symm
          show Ab _ _ _ _ _ _ _ _ (SW (wr V 65 (Int32.toNatClampNeg ((V 62 (Int32.toNatClampNeg (x29_3))))) 0) _ _)
          obtain ⟨V16, eV16⟩ : ∃ z : Mm, z = wr V 65 (Int32.toNatClampNeg ((V 62 (Int32.toNatClampNeg (x29_3))))) 0 := ⟨_, rfl⟩
          rw [← eV16]
          have h := h V16 eV16
          refine ab_aload_n O 2 dX9_finds_105 rfl rfl ?_
          refine ab_iload O dX9_finds_106 rfl ?_
          refine ab_zald O dX9_finds_108 (at_65 _ _ _) h.1 ?_
          have h := h.2
          refine ab_if_ne O 115 dX9_finds_109 rfl (fun q17 => ?_) (fun q17 => ?_)
          · have h := h.2 q17
            refine ab_iconst O 0 dX9_finds_115 rfl ?_
            refine ab_istore O dX9_finds_116 (show 7 < 8 by decide) ?_
            obtain ⟨n9, h⟩ := h
            refine ab_less (cl_X9_finds_65_L118 hd (y29_1) (x29_3) ((V 63 (Int32.toNatClampNeg ((V 59 (Int32.toNatClampNeg ((V 62 (Int32.toNatClampNeg (x29_3)))))))))) ((V 63 (Int32.toNatClampNeg ((V 60 (Int32.toNatClampNeg ((V 62 (Int32.toNatClampNeg (x29_3)))))))))) O I (fun V21 x22 h => ?_) n9 (V16) (0) h) (ab_le_s (ab_le_s (ab_le_s (ab_le_s (ab_le_n (ab_le_s (ab_le_s (ab_le_s ab_le_0))))))))
            refine ab_iinc O ((x29_3 + (1))) dX9_finds_154 rfl rfl ?_
            refine ab_goto O 29 dX9_finds_157 rfl ?_
            exact ab_less (ih (V21) ((x29_3 + (1))) h) (ab_le_s (ab_le_s (ab_le_s (ab_le_s (ab_le_n (ab_le_n (ab_le_n (ab_le_n ab_le_0))))))))
          · have h := h.1 q17
            refine ab_goto O 154 dX9_finds_112 rfl ?_
            refine ab_iinc O ((x29_3 + (1))) dX9_finds_154 rfl rfl ?_
            refine ab_goto O 29 dX9_finds_157 rfl ?_
            exact ab_less (ih (V16) ((x29_3 + (1))) h) (ab_le_s (ab_le_s (ab_le_s (ab_le_s (ab_le_n (ab_le_n (ab_le_n (ab_le_n ab_le_0))))))))
        · have h := h.2 q15
          refine ab_iload O dX9_finds_92 rfl ?_
          refine ab_iload O dX9_finds_94 rfl ?_
          refine ab_icmp_eq O 103 dX9_finds_96 rfl (fun q23 => ?_) (fun q23 => ?_)
          · have h := h.1 q23
            refine ab_iconst O 0 dX9_finds_103 rfl ?_
            refine ab_zast O dX9_finds_104 (at_65 _ _ _) h.1 ?_
            have h := h.2
            refine ab_eq ?_ rfl rfl rfl (sa_65 _ _ _ _ _).symm
            show Ab _ _ _ _ _ _ _ _ (SW (wr V 65 (Int32.toNatClampNeg ((V 62 (Int32.toNatClampNeg (x29_3))))) 0) _ _)
            obtain ⟨V24, eV24⟩ : ∃ z : Mm, z = wr V 65 (Int32.toNatClampNeg ((V 62 (Int32.toNatClampNeg (x29_3))))) 0 := ⟨_, rfl⟩
            rw [← eV24]
            have h := h V24 eV24
            refine ab_aload_n O 2 dX9_finds_105 rfl rfl ?_
            refine ab_iload O dX9_finds_106 rfl ?_
            refine ab_zald O dX9_finds_108 (at_65 _ _ _) h.1 ?_
            have h := h.2
            refine ab_if_ne O 115 dX9_finds_109 rfl (fun q25 => ?_) (fun q25 => ?_)
            · have h := h.2 q25
              refine ab_iconst O 0 dX9_finds_115 rfl ?_
              refine ab_istore O dX9_finds_116 (show 7 < 8 by decide) ?_
              obtain ⟨n9, h⟩ := h
              refine ab_less (cl_X9_finds_65_L118 hd (y29_1) (x29_3) ((V 63 (Int32.toNatClampNeg ((V 59 (Int32.toNatClampNeg ((V 62 (Int32.toNatClampNeg (x29_3)))))))))) ((V 63 (Int32.toNatClampNeg ((V 60 (Int32.toNatClampNeg ((V 62 (Int32.toNatClampNeg (x29_3)))))))))) O I (fun V29 x30 h => ?_) n9 (V24) (0) h) (ab_le_s (ab_le_s (ab_le_s (ab_le_s (ab_le_n (ab_le_s (ab_le_s (ab_le_s ab_le_0))))))))
              refine ab_iinc O ((x29_3 + (1))) dX9_finds_154 rfl rfl ?_
              refine ab_goto O 29 dX9_finds_157 rfl ?_
              exact ab_less (ih (V29) ((x29_3 + (1))) h) (ab_le_s (ab_le_s (ab_le_s (ab_le_s (ab_le_n (ab_le_n (ab_le_n (ab_le_n ab_le_0))))))))
            · have h := h.1 q25
              refine ab_goto O 154 dX9_finds_112 rfl ?_
              refine ab_iinc O ((x29_3 + (1))) dX9_finds_154 rfl rfl ?_
              refine ab_goto O 29 dX9_finds_157 rfl ?_
              exact ab_less (ih (V24) ((x29_3 + (1))) h) (ab_le_s (ab_le_s (ab_le_s (ab_le_s (ab_le_n (ab_le_n (ab_le_n (ab_le_n ab_le_0))))))))
          · have h := h.2 q23
            refine ab_iconst O 1 dX9_finds_99 rfl ?_
            refine ab_goto O 104 dX9_finds_100 rfl ?_
            refine ab_zast O dX9_finds_104 (at_65 _ _ _) h.1 ?_
            have h := h.2
            refine ab_eq ?_ rfl rfl rfl (sa_65 _ _ _ _ _).symm
            show Ab _ _ _ _ _ _ _ _ (SW (wr V 65 (Int32.toNatClampNeg ((V 62 (Int32.toNatClampNeg (x29_3))))) 1) _ _)
            obtain ⟨V31, eV31⟩ : ∃ z : Mm, z = wr V 65 (Int32.toNatClampNeg ((V 62 (Int32.toNatClampNeg (x29_3))))) 1 := ⟨_, rfl⟩
            rw [← eV31]
            have h := h V31 eV31
            refine ab_aload_n O 2 dX9_finds_105 rfl rfl ?_
            refine ab_iload O dX9_finds_106 rfl ?_
            refine ab_zald O dX9_finds_108 (at_65 _ _ _) h.1 ?_
            have h := h.2
            refine ab_if_ne O 115 dX9_finds_109 rfl (fun q32 => ?_) (fun q32 => ?_)
            · have h := h.2 q32
              refine ab_iconst O 0 dX9_finds_115 rfl ?_
              refine ab_istore O dX9_finds_116 (show 7 < 8 by decide) ?_
              obtain ⟨n9, h⟩ := h
              refine ab_less (cl_X9_finds_65_L118 hd (y29_1) (x29_3) ((V 63 (Int32.toNatClampNeg ((V 59 (Int32.toNatClampNeg ((V 62 (Int32.toNatClampNeg (x29_3)))))))))) ((V 63 (Int32.toNatClampNeg ((V 60 (Int32.toNatClampNeg ((V 62 (Int32.toNatClampNeg (x29_3)))))))))) O I (fun V36 x37 h => ?_) n9 (V31) (0) h) (ab_le_s (ab_le_s (ab_le_s (ab_le_s (ab_le_n (ab_le_s (ab_le_s (ab_le_s ab_le_0))))))))
              refine ab_iinc O ((x29_3 + (1))) dX9_finds_154 rfl rfl ?_
              refine ab_goto O 29 dX9_finds_157 rfl ?_
              exact ab_less (ih (V36) ((x29_3 + (1))) h) (ab_le_s (ab_le_s (ab_le_s (ab_le_s (ab_le_n (ab_le_n (ab_le_n (ab_le_n ab_le_0))))))))
            · have h := h.1 q32
              refine ab_goto O 154 dX9_finds_112 rfl ?_
              refine ab_iinc O ((x29_3 + (1))) dX9_finds_154 rfl rfl ?_
              refine ab_goto O 29 dX9_finds_157 rfl ?_
              exact ab_less (ih (V31) ((x29_3 + (1))) h) (ab_le_s (ab_le_s (ab_le_s (ab_le_s (ab_le_n (ab_le_n (ab_le_n (ab_le_n ab_le_0))))))))
set_option maxHeartbeats 4000000 in
theorem c_X9_finds_65 (d : Nat) (hd : 2 ≤ d) (l : Launch) (hl : l.stackTraces = false) (g : ab_G) (o : Nat → Int64) (D : Nat → UInt64) (a0 : Int32) {V : Mm} {post : Mm → Prop} (h : wp_X9_finds_65 V a0 post) : Ct l g tk_strs False d 0 0 yX9_finds cX9_finds 8 none [.ref 57, .int a0, .ref 65] (SW V o D) (tk_V g (fun u => ∃ V : Mm, u = SW V o D ∧ post V)) (fun _ _ => False) := by
  refine ct_in (by decide +kernel) (show 3 ≤ 8 by decide) (by simp [Value.category]) hl (fun X I O _ => ?_)
  show Ab X g 0 0 _ 0 [some (.ref (57)), some (.int (a0)), some (.ref (65)), none, none, none, none, none] [] _
  refine ab_aload_n O 0 dX9_finds_0 rfl rfl ?_
  refine ab_callvV O I.2.2.2.2.2.2 (fr := False) (st := []) lk_X9_71 rfl (at_57 _ _ _) dX9_finds_1 (c_X9_sorts (d - 1) (by omega) _ O.2.2.2.2.2.2.1 _ _ _ h) rfl rfl ⟨by rw [I.2.1]; show d - 1 + 1 ≤ d; omega, by rw [I.2.1]; show 8 + (_ + 11) + 36 * (d - 1) ≤ 36 * d; omega⟩ (show 0 ≤ 8 by decide) ⟨by rw [I.2.1]; show 0 + 0 ≤ 0; decide, by rw [I.2.1]; show 0 + 0 ≤ 0; decide⟩ (fun q => q.elim) (fun E u q => q.elim) (fun u hu => ?_)
  obtain ⟨V1, rfl, h⟩ := hu
  refine ab_iconst O 0 dX9_finds_4 rfl ?_
  refine ab_istore_n O 3 dX9_finds_5 rfl (show 3 < 8 by decide) ?_
  obtain ⟨n9, h⟩ := h
  refine ab_less (cl_X9_finds_65_L6 hd (a0) O I (fun V4 x5 h => ?_) n9 (V1) (0) h) (ab_le_s (ab_le_s (ab_le_s (ab_le_s (ab_le_n (ab_le_n (ab_le_n (ab_le_n ab_le_0))))))))
  refine ab_iconst O 0 dX9_finds_27 rfl ?_
  refine ab_istore_n O 3 dX9_finds_28 rfl (show 3 < 8 by decide) ?_
  obtain ⟨n9, h⟩ := h
  refine ab_less (cl_X9_finds_65_L29 hd (a0) O I (fun V38 x39 h => ?_) n9 (V4) (0) h) (ab_le_s (ab_le_s (ab_le_s (ab_le_s (ab_le_n (ab_le_n (ab_le_n (ab_le_n ab_le_0))))))))
  exact ab_return O I dX9_finds_160 (by decide) (by decide) ⟨_, rfl, h⟩

def wp_X9_finds_ (V : Mm) (post : Mm → Prop) : Prop := (wp_X9_finds_65 V ((-1)) (fun (V1 : Mm) => post V1))
set_option maxHeartbeats 4000000 in
theorem c_X9_finds_ (d : Nat) (hd : 3 ≤ d) (l : Launch) (hl : l.stackTraces = false) (g : ab_G) (o : Nat → Int64) (D : Nat → UInt64) {V : Mm} {post : Mm → Prop} (h : wp_X9_finds_ V post) : Ct l g tk_strs False d 0 0 yX9_finds_ cX9_finds_ 1 none [.ref 57] (SW V o D) (tk_V g (fun u => ∃ V : Mm, u = SW V o D ∧ post V)) (fun _ _ => False) := by
  refine ct_in (by decide +kernel) (show 1 ≤ 1 by decide) (by simp [Value.category]) hl (fun X I O _ => ?_)
  show Ab X g 0 0 _ 0 [some (.ref (57))] [] _
  refine ab_aload_n O 0 dX9_finds__0 rfl rfl ?_
  refine ab_iconst O (-1) dX9_finds__1 rfl ?_
  refine ab_aload_n O 0 dX9_finds__2 rfl rfl ?_
  refine ab_get O fl_X9_32 dX9_finds__3 (at_57 _ _ _) rfl ?_
  refine ab_callvV O I.2.2.2.2.2.2 (fr := False) (st := []) lk_X9_74 rfl (at_57 _ _ _) dX9_finds__6 (c_X9_finds_65 (d - 1) (by omega) _ O.2.2.2.2.2.2.1 _ _ _ _ h) rfl rfl ⟨by rw [I.2.1]; show d - 1 + 1 ≤ d; omega, by rw [I.2.1]; show 8 + (_ + 11) + 36 * (d - 1) ≤ 36 * d; omega⟩ (show 0 ≤ 8 by decide) ⟨by rw [I.2.1]; show 0 + 0 ≤ 0; decide, by rw [I.2.1]; show 0 + 0 ≤ 0; decide⟩ (fun q => q.elim) (fun E u q => q.elim) (fun u hu => ?_)
  obtain ⟨V1, rfl, h⟩ := hu
  exact ab_return O I dX9_finds__9 (by decide) (by decide) ⟨_, rfl, h⟩

def wp_X9_addEdge (V : Mm) (a0 a1 a2 : Int32) (post : Int32 → Mm → Prop) : Prop := (∀ V1 : Mm, V1 = wr V 57 0 0 → (wp_X9_isVertex V1 (a0) (fun (r3 : Int32) (V2 : Mm) => ((r3 = 0 → (wp_X9_fails V2 (1) (fun (r6 : Int32) (V5 : Mm) => post r6 V5))) ∧ (¬ r3 = 0 → (wp_X9_isVertex V2 (a1) (fun (r8 : Int32) (V7 : Mm) => ((r8 = 0 → (wp_X9_fails V7 (1) (fun (r28 : Int32) (V27 : Mm) => post r28 V27))) ∧ (¬ r8 = 0 → (wp_X9_isBetween V7 (a2) (1) (99) (fun (r11 : Int32) (V10 : Mm) => ((r11 = 0 → (wp_X9_fails V10 (2) (fun (r26 : Int32) (V25 : Mm) => post r26 V25))) ∧ (¬ r11 = 0 → ((a0 = a1 → (wp_X9_fails V10 (3) (fun (r24 : Int32) (V23 : Mm) => post r24 V23))) ∧ (¬ a0 = a1 → (((V10 57 10) = 60 → (wp_X9_fails V10 (4) (fun (r22 : Int32) (V21 : Mm) => post r22 V21))) ∧ (¬ (V10 57 10) = 60 → (vp_in (V10 57 10) 60 ∧ ∀ V15 : Mm, V15 = wr V10 59 (Int32.toNatClampNeg ((V10 57 10))) a0 → (vp_in (V15 57 10) 60 ∧ ∀ V16 : Mm, V16 = wr V15 60 (Int32.toNatClampNeg ((V15 57 10))) a1 → (vp_in (V16 57 10) 60 ∧ ∀ V17 : Mm, V17 = wr V16 61 (Int32.toNatClampNeg ((V16 57 10))) a2 → (vp_in (V17 57 10) 60 ∧ ∀ V18 : Mm, V18 = wr V17 64 (Int32.toNatClampNeg ((V17 57 10))) 1 → (∀ V19 : Mm, V19 = wr V18 57 10 ((V18 57 10) + 1) → (wp_X9_finds_ V19 (fun (V20 : Mm) => post ((V20 57 10) - 1) V20))))))))))))))))))))))))
set_option maxHeartbeats 4000000 in
theorem c_X9_addEdge (d : Nat) (hd : 4 ≤ d) (l : Launch) (hl : l.stackTraces = false) (g : ab_G) (o : Nat → Int64) (D : Nat → UInt64) (a0 : Int32) (a1 : Int32) (a2 : Int32) {V : Mm} {post : Int32 → Mm → Prop} (h : wp_X9_addEdge V a0 a1 a2 post) : Ct l g tk_strs False d 0 0 yX9_addEdge cX9_addEdge 4 (some .int) [.ref 57, .int a0, .int a1, .int a2] (SW V o D) (tk_I g (fun r u => ∃ V : Mm, u = SW V o D ∧ post r V)) (fun _ _ => False) := by
  refine ct_in (by decide +kernel) (show 4 ≤ 4 by decide) (by simp [Value.category]) hl (fun X I O _ => ?_)
  show Ab X g 0 0 _ 0 [some (.ref (57)), some (.int (a0)), some (.int (a1)), some (.int (a2))] [] _
  refine ab_aload_n O 0 dX9_addEdge_0 rfl rfl ?_
  refine ab_iconst O 0 dX9_addEdge_1 rfl ?_
  refine ab_put O fl_X9_53 cl_X9 dX9_addEdge_2 (at_57 _ _ _) rfl .int (by decide +kernel) (fun _ => rfl) (fun _ => rfl) (show 0 < 18 by decide) ?_
  refine ab_eq ?_ rfl rfl rfl (sf_57_0 _ _ _ _).symm
  obtain ⟨V1, eV1⟩ : ∃ z : Mm, z = wr V 57 0 0 := ⟨_, rfl⟩
  rw [← eV1]
  have h := h V1 eV1
  refine ab_aload_n O 0 dX9_addEdge_5 rfl rfl ?_
  refine ab_iload_n O 1 dX9_addEdge_6 rfl rfl ?_
  refine ab_callvI O I.2.2.2.2.2.2 (fr := False) (st := []) lk_X9_84 rfl (at_57 _ _ _) dX9_addEdge_7 (c_X9_isVertex (d - 1) (by omega) _ O.2.2.2.2.2.2.1 _ _ _ _ h) rfl rfl ⟨by rw [I.2.1]; show d - 1 + 1 ≤ d; omega, by rw [I.2.1]; show 8 + (_ + 11) + 36 * (d - 1) ≤ 36 * d; omega⟩ (show 0 ≤ 8 by decide) ⟨by rw [I.2.1]; show 0 + 0 ≤ 0; decide, by rw [I.2.1]; show 0 + 0 ≤ 0; decide⟩ (fun q => q.elim) (fun E u q => q.elim) (fun r3 u hu => ?_)
  obtain ⟨V2, rfl, h⟩ := hu
  refine ab_if_eq O 21 dX9_addEdge_10 rfl (fun q4 => ?_) (fun q4 => ?_)
  · have h := h.1 q4
    refine ab_aload_n O 0 dX9_addEdge_21 rfl rfl ?_
    refine ab_iconst O 1 dX9_addEdge_22 rfl ?_
    refine ab_callvI O I.2.2.2.2.2.2 (fr := False) (st := []) lk_X9_78 rfl (at_57 _ _ _) dX9_addEdge_23 (c_X9_fails (d - 1) (by omega) _ O.2.2.2.2.2.2.1 _ _ _ _ h) rfl rfl ⟨by rw [I.2.1]; show d - 1 + 1 ≤ d; omega, by rw [I.2.1]; show 8 + (_ + 11) + 36 * (d - 1) ≤ 36 * d; omega⟩ (show 0 ≤ 8 by decide) ⟨by rw [I.2.1]; show 0 + 0 ≤ 0; decide, by rw [I.2.1]; show 0 + 0 ≤ 0; decide⟩ (fun q => q.elim) (fun E u q => q.elim) (fun r6 u hu => ?_)
    obtain ⟨V5, rfl, h⟩ := hu
    exact ab_ireturn O I dX9_addEdge_26 (by decide) (by decide) (by rfl) ⟨_, rfl, h⟩
  · have h := h.2 q4
    refine ab_aload_n O 0 dX9_addEdge_13 rfl rfl ?_
    refine ab_iload_n O 2 dX9_addEdge_14 rfl rfl ?_
    refine ab_callvI O I.2.2.2.2.2.2 (fr := False) (st := []) lk_X9_84 rfl (at_57 _ _ _) dX9_addEdge_15 (c_X9_isVertex (d - 1) (by omega) _ O.2.2.2.2.2.2.1 _ _ _ _ h) rfl rfl ⟨by rw [I.2.1]; show d - 1 + 1 ≤ d; omega, by rw [I.2.1]; show 8 + (_ + 11) + 36 * (d - 1) ≤ 36 * d; omega⟩ (show 0 ≤ 8 by decide) ⟨by rw [I.2.1]; show 0 + 0 ≤ 0; decide, by rw [I.2.1]; show 0 + 0 ≤ 0; decide⟩ (fun q => q.elim) (fun E u q => q.elim) (fun r8 u hu => ?_)
    obtain ⟨V7, rfl, h⟩ := hu
    refine ab_if_ne O 27 dX9_addEdge_18 rfl (fun q9 => ?_) (fun q9 => ?_)
    · have h := h.2 q9
      refine ab_iload_n O 3 dX9_addEdge_27 rfl rfl ?_
      refine ab_iconst O 1 dX9_addEdge_28 rfl ?_
      refine ab_bipush O 99 dX9_addEdge_29 rfl ?_
      refine ab_callsI O I.2.2.2.2.2.2 (fr := False) (st := []) lk_X9_60 dX9_addEdge_31 (c_X9_isBetween (d - 1) (by omega) _ O.2.2.2.2.2.2.1 _ _ _ _ _ _ h) rfl rfl ⟨by rw [I.2.1]; show d - 1 + 1 ≤ d; omega, by rw [I.2.1]; show 8 + (_ + 11) + 36 * (d - 1) ≤ 36 * d; omega⟩ (show 0 ≤ 8 by decide) ⟨by rw [I.2.1]; show 0 + 0 ≤ 0; decide, by rw [I.2.1]; show 0 + 0 ≤ 0; decide⟩ (fun q => q.elim) (fun E u q => q.elim) (fun r11 u hu => ?_)
      obtain ⟨V10, rfl, h⟩ := hu
      refine ab_if_ne O 43 dX9_addEdge_34 rfl (fun q12 => ?_) (fun q12 => ?_)
      · have h := h.2 q12
        refine ab_iload_n O 1 dX9_addEdge_43 rfl rfl ?_
        refine ab_iload_n O 2 dX9_addEdge_44 rfl rfl ?_
        refine ab_icmp_ne O 54 dX9_addEdge_45 rfl (fun q13 => ?_) (fun q13 => ?_)
        · have h := h.2 q13
          refine ab_aload_n O 0 dX9_addEdge_54 rfl rfl ?_
          refine ab_get O fl_X9_64 dX9_addEdge_55 (at_57 _ _ _) rfl ?_
          refine ab_bipush O 60 dX9_addEdge_58 rfl ?_
          refine ab_icmp_ne O 69 dX9_addEdge_60 rfl (fun q14 => ?_) (fun q14 => ?_)
          · have h := h.2 q14
            refine ab_aload_n O 0 dX9_addEdge_69 rfl rfl ?_
            refine ab_get O fl_X9_13 dX9_addEdge_70 (at_57 _ _ _) rfl ?_
            refine ab_aload_n O 0 dX9_addEdge_73 rfl rfl ?_
            refine ab_get O fl_X9_64 dX9_addEdge_74 (at_57 _ _ _) rfl ?_
            refine ab_iload_n O 1 dX9_addEdge_77 rfl rfl ?_
            refine ab_iast O dX9_addEdge_78 (at_59 _ _ _) h.1 ?_
            have h := h.2
            refine ab_eq ?_ rfl rfl rfl (sa_59 _ _ _ _ _).symm
            obtain ⟨V15, eV15⟩ : ∃ z : Mm, z = wr V10 59 (Int32.toNatClampNeg ((V10 57 10))) a0 := ⟨_, rfl⟩
            rw [← eV15]
            have h := h V15 eV15
            refine ab_aload_n O 0 dX9_addEdge_79 rfl rfl ?_
            refine ab_get O fl_X9_16 dX9_addEdge_80 (at_57 _ _ _) rfl ?_
            refine ab_aload_n O 0 dX9_addEdge_83 rfl rfl ?_
            refine ab_get O fl_X9_64 dX9_addEdge_84 (at_57 _ _ _) rfl ?_
            refine ab_iload_n O 2 dX9_addEdge_87 rfl rfl ?_
            refine ab_iast O dX9_addEdge_88 (at_60 _ _ _) h.1 ?_
            have h := h.2
            refine ab_eq ?_ rfl rfl rfl (sa_60 _ _ _ _ _).symm
            obtain ⟨V16, eV16⟩ : ∃ z : Mm, z = wr V15 60 (Int32.toNatClampNeg ((V15 57 10))) a1 := ⟨_, rfl⟩
            rw [← eV16]
            have h := h V16 eV16
            refine ab_aload_n O 0 dX9_addEdge_89 rfl rfl ?_
            refine ab_get O fl_X9_19 dX9_addEdge_90 (at_57 _ _ _) rfl ?_
            refine ab_aload_n O 0 dX9_addEdge_93 rfl rfl ?_
            refine ab_get O fl_X9_64 dX9_addEdge_94 (at_57 _ _ _) rfl ?_
            refine ab_iload_n O 3 dX9_addEdge_97 rfl rfl ?_
            refine ab_iast O dX9_addEdge_98 (at_61 _ _ _) h.1 ?_
            have h := h.2
            refine ab_eq ?_ rfl rfl rfl (sa_61 _ _ _ _ _).symm
            obtain ⟨V17, eV17⟩ : ∃ z : Mm, z = wr V16 61 (Int32.toNatClampNeg ((V16 57 10))) a2 := ⟨_, rfl⟩
            rw [← eV17]
            have h := h V17 eV17
            refine ab_aload_n O 0 dX9_addEdge_99 rfl rfl ?_
            refine ab_get O fl_X9_28 dX9_addEdge_100 (at_57 _ _ _) rfl ?_
            refine ab_aload_n O 0 dX9_addEdge_103 rfl rfl ?_
            refine ab_get O fl_X9_64 dX9_addEdge_104 (at_57 _ _ _) rfl ?_
            refine ab_iconst O 1 dX9_addEdge_107 rfl ?_
            refine ab_zast O dX9_addEdge_108 (at_64 _ _ _) h.1 ?_
            have h := h.2
            refine ab_eq ?_ rfl rfl rfl (sa_64 _ _ _ _ _).symm
            show Ab _ _ _ _ _ _ _ _ (SW (wr V17 64 (Int32.toNatClampNeg ((V17 57 10))) 1) _ _)
            obtain ⟨V18, eV18⟩ : ∃ z : Mm, z = wr V17 64 (Int32.toNatClampNeg ((V17 57 10))) 1 := ⟨_, rfl⟩
            rw [← eV18]
            have h := h V18 eV18
            refine ab_aload_n O 0 dX9_addEdge_109 rfl rfl ?_
            refine ab_dup O dX9_addEdge_110 rfl ?_
            refine ab_get O fl_X9_64 dX9_addEdge_111 (at_57 _ _ _) rfl ?_
            refine ab_iconst O 1 dX9_addEdge_114 rfl ?_
            refine ab_iadd O dX9_addEdge_115 ?_
            refine ab_put O fl_X9_64 cl_X9 dX9_addEdge_116 (at_57 _ _ _) rfl .int (by decide +kernel) (fun _ => rfl) (fun _ => rfl) (show 10 < 18 by decide) ?_
            refine ab_eq ?_ rfl rfl rfl (sf_57_10 _ _ _ _).symm
            obtain ⟨V19, eV19⟩ : ∃ z : Mm, z = wr V18 57 10 ((V18 57 10) + 1) := ⟨_, rfl⟩
            rw [← eV19]
            have h := h V19 eV19
            refine ab_aload_n O 0 dX9_addEdge_119 rfl rfl ?_
            refine ab_callvV O I.2.2.2.2.2.2 (fr := False) (st := []) lk_X9_82 rfl (at_57 _ _ _) dX9_addEdge_120 (c_X9_finds_ (d - 1) (by omega) _ O.2.2.2.2.2.2.1 _ _ _ h) rfl rfl ⟨by rw [I.2.1]; show d - 1 + 1 ≤ d; omega, by rw [I.2.1]; show 8 + (_ + 11) + 36 * (d - 1) ≤ 36 * d; omega⟩ (show 0 ≤ 8 by decide) ⟨by rw [I.2.1]; show 0 + 0 ≤ 0; decide, by rw [I.2.1]; show 0 + 0 ≤ 0; decide⟩ (fun q => q.elim) (fun E u q => q.elim) (fun u hu => ?_)
            obtain ⟨V20, rfl, h⟩ := hu
            refine ab_aload_n O 0 dX9_addEdge_123 rfl rfl ?_
            refine ab_get O fl_X9_64 dX9_addEdge_124 (at_57 _ _ _) rfl ?_
            refine ab_iconst O 1 dX9_addEdge_127 rfl ?_
            refine ab_isub O dX9_addEdge_128 ?_
            exact ab_ireturn O I dX9_addEdge_129 (by decide) (by decide) (by rfl) ⟨_, rfl, h⟩
          · have h := h.1 q14
            refine ab_aload_n O 0 dX9_addEdge_63 rfl rfl ?_
            refine ab_iconst O 4 dX9_addEdge_64 rfl ?_
            refine ab_callvI O I.2.2.2.2.2.2 (fr := False) (st := []) lk_X9_78 rfl (at_57 _ _ _) dX9_addEdge_65 (c_X9_fails (d - 1) (by omega) _ O.2.2.2.2.2.2.1 _ _ _ _ h) rfl rfl ⟨by rw [I.2.1]; show d - 1 + 1 ≤ d; omega, by rw [I.2.1]; show 8 + (_ + 11) + 36 * (d - 1) ≤ 36 * d; omega⟩ (show 0 ≤ 8 by decide) ⟨by rw [I.2.1]; show 0 + 0 ≤ 0; decide, by rw [I.2.1]; show 0 + 0 ≤ 0; decide⟩ (fun q => q.elim) (fun E u q => q.elim) (fun r22 u hu => ?_)
            obtain ⟨V21, rfl, h⟩ := hu
            exact ab_ireturn O I dX9_addEdge_68 (by decide) (by decide) (by rfl) ⟨_, rfl, h⟩
        · have h := h.1 q13
          refine ab_aload_n O 0 dX9_addEdge_48 rfl rfl ?_
          refine ab_iconst O 3 dX9_addEdge_49 rfl ?_
          refine ab_callvI O I.2.2.2.2.2.2 (fr := False) (st := []) lk_X9_78 rfl (at_57 _ _ _) dX9_addEdge_50 (c_X9_fails (d - 1) (by omega) _ O.2.2.2.2.2.2.1 _ _ _ _ h) rfl rfl ⟨by rw [I.2.1]; show d - 1 + 1 ≤ d; omega, by rw [I.2.1]; show 8 + (_ + 11) + 36 * (d - 1) ≤ 36 * d; omega⟩ (show 0 ≤ 8 by decide) ⟨by rw [I.2.1]; show 0 + 0 ≤ 0; decide, by rw [I.2.1]; show 0 + 0 ≤ 0; decide⟩ (fun q => q.elim) (fun E u q => q.elim) (fun r24 u hu => ?_)
          obtain ⟨V23, rfl, h⟩ := hu
          exact ab_ireturn O I dX9_addEdge_53 (by decide) (by decide) (by rfl) ⟨_, rfl, h⟩
      · have h := h.1 q12
        refine ab_aload_n O 0 dX9_addEdge_37 rfl rfl ?_
        refine ab_iconst O 2 dX9_addEdge_38 rfl ?_
        refine ab_callvI O I.2.2.2.2.2.2 (fr := False) (st := []) lk_X9_78 rfl (at_57 _ _ _) dX9_addEdge_39 (c_X9_fails (d - 1) (by omega) _ O.2.2.2.2.2.2.1 _ _ _ _ h) rfl rfl ⟨by rw [I.2.1]; show d - 1 + 1 ≤ d; omega, by rw [I.2.1]; show 8 + (_ + 11) + 36 * (d - 1) ≤ 36 * d; omega⟩ (show 0 ≤ 8 by decide) ⟨by rw [I.2.1]; show 0 + 0 ≤ 0; decide, by rw [I.2.1]; show 0 + 0 ≤ 0; decide⟩ (fun q => q.elim) (fun E u q => q.elim) (fun r26 u hu => ?_)
        obtain ⟨V25, rfl, h⟩ := hu
        exact ab_ireturn O I dX9_addEdge_42 (by decide) (by decide) (by rfl) ⟨_, rfl, h⟩
    · have h := h.1 q9
      refine ab_aload_n O 0 dX9_addEdge_21 rfl rfl ?_
      refine ab_iconst O 1 dX9_addEdge_22 rfl ?_
      refine ab_callvI O I.2.2.2.2.2.2 (fr := False) (st := []) lk_X9_78 rfl (at_57 _ _ _) dX9_addEdge_23 (c_X9_fails (d - 1) (by omega) _ O.2.2.2.2.2.2.1 _ _ _ _ h) rfl rfl ⟨by rw [I.2.1]; show d - 1 + 1 ≤ d; omega, by rw [I.2.1]; show 8 + (_ + 11) + 36 * (d - 1) ≤ 36 * d; omega⟩ (show 0 ≤ 8 by decide) ⟨by rw [I.2.1]; show 0 + 0 ≤ 0; decide, by rw [I.2.1]; show 0 + 0 ≤ 0; decide⟩ (fun q => q.elim) (fun E u q => q.elim) (fun r28 u hu => ?_)
      obtain ⟨V27, rfl, h⟩ := hu
      exact ab_ireturn O I dX9_addEdge_26 (by decide) (by decide) (by rfl) ⟨_, rfl, h⟩

def wp_X9_roots_L2 (y2_1 : Int32) (post : Mm → Prop) (kx : Mm → Int32 → Prop) : Nat → Mm → Int32 → Prop
  | 0, _, _ => False
  | n2 + 1, V, x2_2 => (((V 57 9) ≤ x2_2 → kx (V) (x2_2)) ∧ (¬ (V 57 9) ≤ x2_2 → (vp_in x2_2 20 ∧ ∀ V2 : Mm, V2 = wr V 67 (Int32.toNatClampNeg (x2_2)) (-2) → (vp_in x2_2 20 ∧ ∀ V3 : Mm, V3 = wr V2 69 (Int32.toNatClampNeg (x2_2)) 1 → (vp_in x2_2 20 ∧ ∀ V4 : Mm, V4 = wr V3 70 (Int32.toNatClampNeg (x2_2)) (-1) → wp_X9_roots_L2 y2_1 post kx n2 (V4) ((x2_2 + (1))))))))

def wp_X9_roots_L76 (y76_2 : Int32) (post : Mm → Prop) (kx : Mm → Int32 → Prop) : Nat → Mm → Int32 → Prop
  | 0, _, _ => False
  | n76 + 1, V, x76_3 => (((V 57 10) ≤ x76_3 → kx (V) (x76_3)) ∧ (¬ (V 57 10) ≤ x76_3 → (vp_in x76_3 60 ∧ (((V 65 (Int32.toNatClampNeg (x76_3))) = 0 → wp_X9_roots_L76 y76_2 post kx n76 (V) ((x76_3 + (1)))) ∧ (¬ (V 65 (Int32.toNatClampNeg (x76_3))) = 0 → (vp_in x76_3 60 ∧ (vp_in y76_2 20 ∧ (((V 59 (Int32.toNatClampNeg (x76_3))) = (V 71 (Int32.toNatClampNeg (y76_2))) → (vp_in x76_3 60 ∧ (vp_in x76_3 60 ∧ (vp_in y76_2 20 ∧ (vp_in (((V 59 (Int32.toNatClampNeg (x76_3))) + (V 60 (Int32.toNatClampNeg (x76_3)))) - (V 71 (Int32.toNatClampNeg (y76_2)))) 20 ∧ (((V 67 (Int32.toNatClampNeg ((((V 59 (Int32.toNatClampNeg (x76_3))) + (V 60 (Int32.toNatClampNeg (x76_3)))) - (V 71 (Int32.toNatClampNeg (y76_2))))))) = (-2) → (vp_in y76_2 20 ∧ (vp_in (((V 59 (Int32.toNatClampNeg (x76_3))) + (V 60 (Int32.toNatClampNeg (x76_3)))) - (V 71 (Int32.toNatClampNeg (y76_2)))) 20 ∧ ∀ V16 : Mm, V16 = wr V 67 (Int32.toNatClampNeg ((((V 59 (Int32.toNatClampNeg (x76_3))) + (V 60 (Int32.toNatClampNeg (x76_3)))) - (V 71 (Int32.toNatClampNeg (y76_2)))))) (V 71 (Int32.toNatClampNeg (y76_2))) → (vp_in y76_2 20 ∧ (vp_in (V16 71 (Int32.toNatClampNeg (y76_2))) 20 ∧ (vp_in (((V 59 (Int32.toNatClampNeg (x76_3))) + (V 60 (Int32.toNatClampNeg (x76_3)))) - (V 71 (Int32.toNatClampNeg (y76_2)))) 20 ∧ ∀ V17 : Mm, V17 = wr V16 68 (Int32.toNatClampNeg ((((V 59 (Int32.toNatClampNeg (x76_3))) + (V 60 (Int32.toNatClampNeg (x76_3)))) - (V 71 (Int32.toNatClampNeg (y76_2)))))) ((V16 68 (Int32.toNatClampNeg ((V16 71 (Int32.toNatClampNeg (y76_2)))))) + 1) → (vp_in (V17 57 17) 20 ∧ ∀ V18 : Mm, V18 = wr V17 71 (Int32.toNatClampNeg ((V17 57 17))) (((V 59 (Int32.toNatClampNeg (x76_3))) + (V 60 (Int32.toNatClampNeg (x76_3)))) - (V 71 (Int32.toNatClampNeg (y76_2)))) → (∀ V19 : Mm, V19 = wr V18 57 17 ((V18 57 17) + 1) → wp_X9_roots_L76 y76_2 post kx n76 (V19) ((x76_3 + (1))))))))))) ∧ (¬ (V 67 (Int32.toNatClampNeg ((((V 59 (Int32.toNatClampNeg (x76_3))) + (V 60 (Int32.toNatClampNeg (x76_3)))) - (V 71 (Int32.toNatClampNeg (y76_2))))))) = (-2) → wp_X9_roots_L76 y76_2 post kx n76 (V) ((x76_3 + (1)))))))))) ∧ (¬ (V 59 (Int32.toNatClampNeg (x76_3))) = (V 71 (Int32.toNatClampNeg (y76_2))) → (vp_in x76_3 60 ∧ (vp_in y76_2 20 ∧ (((V 60 (Int32.toNatClampNeg (x76_3))) = (V 71 (Int32.toNatClampNeg (y76_2))) → (vp_in x76_3 60 ∧ (vp_in x76_3 60 ∧ (vp_in y76_2 20 ∧ (vp_in (((V 59 (Int32.toNatClampNeg (x76_3))) + (V 60 (Int32.toNatClampNeg (x76_3)))) - (V 71 (Int32.toNatClampNeg (y76_2)))) 20 ∧ (((V 67 (Int32.toNatClampNeg ((((V 59 (Int32.toNatClampNeg (x76_3))) + (V 60 (Int32.toNatClampNeg (x76_3)))) - (V 71 (Int32.toNatClampNeg (y76_2))))))) = (-2) → (vp_in y76_2 20 ∧ (vp_in (((V 59 (Int32.toNatClampNeg (x76_3))) + (V 60 (Int32.toNatClampNeg (x76_3)))) - (V 71 (Int32.toNatClampNeg (y76_2)))) 20 ∧ ∀ V22 : Mm, V22 = wr V 67 (Int32.toNatClampNeg ((((V 59 (Int32.toNatClampNeg (x76_3))) + (V 60 (Int32.toNatClampNeg (x76_3)))) - (V 71 (Int32.toNatClampNeg (y76_2)))))) (V 71 (Int32.toNatClampNeg (y76_2))) → (vp_in y76_2 20 ∧ (vp_in (V22 71 (Int32.toNatClampNeg (y76_2))) 20 ∧ (vp_in (((V 59 (Int32.toNatClampNeg (x76_3))) + (V 60 (Int32.toNatClampNeg (x76_3)))) - (V 71 (Int32.toNatClampNeg (y76_2)))) 20 ∧ ∀ V23 : Mm, V23 = wr V22 68 (Int32.toNatClampNeg ((((V 59 (Int32.toNatClampNeg (x76_3))) + (V 60 (Int32.toNatClampNeg (x76_3)))) - (V 71 (Int32.toNatClampNeg (y76_2)))))) ((V22 68 (Int32.toNatClampNeg ((V22 71 (Int32.toNatClampNeg (y76_2)))))) + 1) → (vp_in (V23 57 17) 20 ∧ ∀ V24 : Mm, V24 = wr V23 71 (Int32.toNatClampNeg ((V23 57 17))) (((V 59 (Int32.toNatClampNeg (x76_3))) + (V 60 (Int32.toNatClampNeg (x76_3)))) - (V 71 (Int32.toNatClampNeg (y76_2)))) → (∀ V25 : Mm, V25 = wr V24 57 17 ((V24 57 17) + 1) → wp_X9_roots_L76 y76_2 post kx n76 (V25) ((x76_3 + (1))))))))))) ∧ (¬ (V 67 (Int32.toNatClampNeg ((((V 59 (Int32.toNatClampNeg (x76_3))) + (V 60 (Int32.toNatClampNeg (x76_3)))) - (V 71 (Int32.toNatClampNeg (y76_2))))))) = (-2) → wp_X9_roots_L76 y76_2 post kx n76 (V) ((x76_3 + (1)))))))))) ∧ (¬ (V 60 (Int32.toNatClampNeg (x76_3))) = (V 71 (Int32.toNatClampNeg (y76_2))) → wp_X9_roots_L76 y76_2 post kx n76 (V) ((x76_3 + (1))))))))))))))))

def wp_X9_roots_L66 (post : Mm → Prop) (kx : Mm → Int32 → Prop) : Nat → Mm → Int32 → Prop
  | 0, _, _ => False
  | n66 + 1, V, x66_2 => (((V 57 17) ≤ x66_2 → kx (V) (x66_2)) ∧ (¬ (V 57 17) ≤ x66_2 → (∃ m76 : Nat, wp_X9_roots_L76 (x66_2) post (fun (V26 : Mm) (x27 : Int32) => wp_X9_roots_L66 post kx n66 (V26) ((x66_2 + (1)))) m76 (V) (0))))

def wp_X9_roots_L236 (post : Mm → Prop) (kx : Mm → Int32 → Prop) : Nat → Mm → Int32 → Prop
  | 0, _, _ => False
  | n236 + 1, V, x236_2 => ((x236_2 ≤ 0 → kx (V) (x236_2)) ∧ (¬ x236_2 ≤ 0 → (vp_in x236_2 20 ∧ (vp_in (V 71 (Int32.toNatClampNeg (x236_2))) 20 ∧ (vp_in (V 67 (Int32.toNatClampNeg ((V 71 (Int32.toNatClampNeg (x236_2)))))) 20 ∧ (vp_in x236_2 20 ∧ (vp_in (V 71 (Int32.toNatClampNeg (x236_2))) 20 ∧ (vp_in (V 67 (Int32.toNatClampNeg ((V 71 (Int32.toNatClampNeg (x236_2)))))) 20 ∧ ∀ V31 : Mm, V31 = wr V 69 (Int32.toNatClampNeg ((V 67 (Int32.toNatClampNeg ((V 71 (Int32.toNatClampNeg (x236_2)))))))) ((V 69 (Int32.toNatClampNeg ((V 67 (Int32.toNatClampNeg ((V 71 (Int32.toNatClampNeg (x236_2))))))))) + (V 69 (Int32.toNatClampNeg ((V 71 (Int32.toNatClampNeg (x236_2))))))) → wp_X9_roots_L236 post kx n236 (V31) ((x236_2 + (-1)))))))))))

def wp_X9_roots_L278 (post : Mm → Prop) (kx : Mm → Int32 → Prop) : Nat → Mm → Int32 → Prop
  | 0, _, _ => False
  | n278 + 1, V, x278_2 => (((V 57 9) ≤ x278_2 → kx (V) (x278_2)) ∧ (¬ (V 57 9) ≤ x278_2 → (vp_in x278_2 20 ∧ ((0 ≤ (V 67 (Int32.toNatClampNeg (x278_2))) → (vp_in x278_2 20 ∧ (vp_in (V 67 (Int32.toNatClampNeg (x278_2))) 20 ∧ (((V 70 (Int32.toNatClampNeg ((V 67 (Int32.toNatClampNeg (x278_2)))))) < 0 → (vp_in (V 67 (Int32.toNatClampNeg (x278_2))) 20 ∧ ∀ V37 : Mm, V37 = wr V 70 (Int32.toNatClampNeg ((V 67 (Int32.toNatClampNeg (x278_2))))) x278_2 → wp_X9_roots_L278 post kx n278 (V37) ((x278_2 + (1))))) ∧ (¬ (V 70 (Int32.toNatClampNeg ((V 67 (Int32.toNatClampNeg (x278_2)))))) < 0 → (vp_in x278_2 20 ∧ (vp_in (V 67 (Int32.toNatClampNeg (x278_2))) 20 ∧ (vp_in (V 70 (Int32.toNatClampNeg ((V 67 (Int32.toNatClampNeg (x278_2)))))) 20 ∧ (((V 69 (Int32.toNatClampNeg (x278_2))) ≤ (V 69 (Int32.toNatClampNeg ((V 70 (Int32.toNatClampNeg ((V 67 (Int32.toNatClampNeg (x278_2))))))))) → wp_X9_roots_L278 post kx n278 (V) ((x278_2 + (1)))) ∧ (¬ (V 69 (Int32.toNatClampNeg (x278_2))) ≤ (V 69 (Int32.toNatClampNeg ((V 70 (Int32.toNatClampNeg ((V 67 (Int32.toNatClampNeg (x278_2))))))))) → (vp_in (V 67 (Int32.toNatClampNeg (x278_2))) 20 ∧ ∀ V39 : Mm, V39 = wr V 70 (Int32.toNatClampNeg ((V 67 (Int32.toNatClampNeg (x278_2))))) x278_2 → wp_X9_roots_L278 post kx n278 (V39) ((x278_2 + (1)))))))))))))) ∧ (¬ 0 ≤ (V 67 (Int32.toNatClampNeg (x278_2))) → wp_X9_roots_L278 post kx n278 (V) ((x278_2 + (1))))))))

def wp_X9_roots (V : Mm) (a0 : Int32) (post : Mm → Prop) : Prop := (∃ m2 : Nat, wp_X9_roots_L2 (a0) post (fun (V5 : Mm) (x6 : Int32) => (vp_in a0 20 ∧ ∀ V7 : Mm, V7 = wr V5 67 (Int32.toNatClampNeg (a0)) (-1) → (vp_in a0 20 ∧ ∀ V8 : Mm, V8 = wr V7 68 (Int32.toNatClampNeg (a0)) 0 → (vp_in 0 20 ∧ ∀ V9 : Mm, V9 = wr V8 71 (Int32.toNatClampNeg (0)) a0 → (∀ V10 : Mm, V10 = wr V9 57 17 1 → (∃ m66 : Nat, wp_X9_roots_L66 post (fun (V28 : Mm) (x29 : Int32) => (∃ m236 : Nat, wp_X9_roots_L236 post (fun (V32 : Mm) (x33 : Int32) => (∃ m278 : Nat, wp_X9_roots_L278 post (fun (V40 : Mm) (x41 : Int32) => post V40) m278 (V32) (0))) m236 (V28) (((V28 57 17) - 1)))) m66 (V10) (0))))))) m2 (V) (0))
set_option maxHeartbeats 4000000 in
theorem cl_X9_roots_L2 {X : ab_M} {g : ab_G} {l : Launch} {d : Nat} (hd : 0 ≤ d) (y2_1 : Int32) {post : Mm → Prop} {kx : Mm → Int32 → Prop} {o : Nat → Int64} {D : Nat → UInt64} (O : ab_Ok X g cX9_roots RX9) (I : ab_I X l tk_strs 5 none yX9_roots.name d 0 0) (hk : ∀ (V : Mm) (x2_2 : Int32), kx V x2_2 → Ab X g 0 0 (tk_Q X g (tk_V g (fun u => ∃ V : Mm, u = SW V o D ∧ post V)) (fun _ _ => False) 0 0) 38 [some (.ref (57)), some (.int (y2_1)), none, none, none] [] (SW V o D)) : ∀ (n : Nat) (V : Mm) (x2_2 : Int32), wp_X9_roots_L2 y2_1 post kx n V x2_2 → Ab X g 0 0 (tk_Q X g (tk_V g (fun u => ∃ V : Mm, u = SW V o D ∧ post V)) (fun _ _ => False) 0 0) 2 [some (.ref (57)), some (.int (y2_1)), some (.int (x2_2)), none, none] [] (SW V o D) := by
  intro n
  induction n with
  | zero => intro V x2_2 h; exact h.elim
  | succ n ih =>
    intro V x2_2 h
    refine ab_iload_n O 2 dX9_roots_2 rfl rfl ?_
    refine ab_aload_n O 0 dX9_roots_3 rfl rfl ?_
    refine ab_get O fl_X9_57 dX9_roots_4 (at_57 _ _ _) rfl ?_
    refine ab_icmp_ge O 38 dX9_roots_7 rfl (fun q1 => ?_) (fun q1 => ?_)
    · have h := h.1 q1
      exact ab_less (hk (V) (x2_2) h) (ab_le_s (ab_le_s (ab_le_n (ab_le_n (ab_le_n ab_le_0)))))
    · have h := h.2 q1
      refine ab_aload_n O 0 dX9_roots_10 rfl rfl ?_
      refine ab_get O fl_X9_38 dX9_roots_11 (at_57 _ _ _) rfl ?_
      refine ab_iload_n O 2 dX9_roots_14 rfl rfl ?_
      refine ab_bipush O (-2) dX9_roots_15 rfl ?_
      refine ab_iast O dX9_roots_17 (at_67 _ _ _) h.1 ?_
      have h := h.2
      refine ab_eq ?_ rfl rfl rfl (sa_67 _ _ _ _ _).symm
      obtain ⟨V2, eV2⟩ : ∃ z : Mm, z = wr V 67 (Int32.toNatClampNeg (x2_2)) (-2) := ⟨_, rfl⟩
      rw [← eV2]
      have h := h V2 eV2
      refine ab_aload_n O 0 dX9_roots_18 rfl rfl ?_
      refine ab_get O fl_X9_44 dX9_roots_19 (at_57 _ _ _) rfl ?_
      refine ab_iload_n O 2 dX9_roots_22 rfl rfl ?_
      refine ab_iconst O 1 dX9_roots_23 rfl ?_
      refine ab_iast O dX9_roots_24 (at_69 _ _ _) h.1 ?_
      have h := h.2
      refine ab_eq ?_ rfl rfl rfl (sa_69 _ _ _ _ _).symm
      obtain ⟨V3, eV3⟩ : ∃ z : Mm, z = wr V2 69 (Int32.toNatClampNeg (x2_2)) 1 := ⟨_, rfl⟩
      rw [← eV3]
      have h := h V3 eV3
      refine ab_aload_n O 0 dX9_roots_25 rfl rfl ?_
      refine ab_get O fl_X9_47 dX9_roots_26 (at_57 _ _ _) rfl ?_
      refine ab_iload_n O 2 dX9_roots_29 rfl rfl ?_
      refine ab_iconst O (-1) dX9_roots_30 rfl ?_
      refine ab_iast O dX9_roots_31 (at_70 _ _ _) h.1 ?_
      have h := h.2
      refine ab_eq ?_ rfl rfl rfl (sa_70 _ _ _ _ _).symm
      obtain ⟨V4, eV4⟩ : ∃ z : Mm, z = wr V3 70 (Int32.toNatClampNeg (x2_2)) (-1) := ⟨_, rfl⟩
      rw [← eV4]
      have h := h V4 eV4
      refine ab_iinc O ((x2_2 + (1))) dX9_roots_32 rfl rfl ?_
      refine ab_goto O 2 dX9_roots_35 rfl ?_
      exact ab_less (ih (V4) ((x2_2 + (1))) h) (ab_le_s (ab_le_s (ab_le_s (ab_le_n (ab_le_n ab_le_0)))))
set_option maxHeartbeats 4000000 in
theorem cl_X9_roots_L76 {X : ab_M} {g : ab_G} {l : Launch} {d : Nat} (hd : 0 ≤ d) (y76_2 : Int32) {post : Mm → Prop} {kx : Mm → Int32 → Prop} {o : Nat → Int64} {D : Nat → UInt64} (O : ab_Ok X g cX9_roots RX9) (I : ab_I X l tk_strs 5 none yX9_roots.name d 0 0) (hk : ∀ (V : Mm) (x76_3 : Int32), kx V x76_3 → Ab X g 0 0 (tk_Q X g (tk_V g (fun u => ∃ V : Mm, u = SW V o D ∧ post V)) (fun _ _ => False) 0 0) 223 [some (.ref (57)), none, some (.int (y76_2)), none, none] [] (SW V o D)) : ∀ (n : Nat) (V : Mm) (x76_3 : Int32), wp_X9_roots_L76 y76_2 post kx n V x76_3 → Ab X g 0 0 (tk_Q X g (tk_V g (fun u => ∃ V : Mm, u = SW V o D ∧ post V)) (fun _ _ => False) 0 0) 76 [some (.ref (57)), none, some (.int (y76_2)), some (.int (x76_3)), none] [] (SW V o D) := by
  intro n
  induction n with
  | zero => intro V x76_3 h; exact h.elim
  | succ n ih =>
    intro V x76_3 h
    refine ab_iload_n O 3 dX9_roots_76 rfl rfl ?_
    refine ab_aload_n O 0 dX9_roots_77 rfl rfl ?_
    refine ab_get O fl_X9_64 dX9_roots_78 (at_57 _ _ _) rfl ?_
    refine ab_icmp_ge O 223 dX9_roots_81 rfl (fun q12 => ?_) (fun q12 => ?_)
    · have h := h.1 q12
      exact ab_less (hk (V) (x76_3) h) (ab_le_s (ab_le_n (ab_le_s (ab_le_n (ab_le_n ab_le_0)))))
    · have h := h.2 q12
      refine ab_aload_n O 0 dX9_roots_84 rfl rfl ?_
      refine ab_get O fl_X9_32 dX9_roots_85 (at_57 _ _ _) rfl ?_
      refine ab_iload_n O 3 dX9_roots_88 rfl rfl ?_
      refine ab_zald O dX9_roots_89 (at_65 _ _ _) h.1 ?_
      have h := h.2
      refine ab_if_eq O 217 dX9_roots_90 rfl (fun q13 => ?_) (fun q13 => ?_)
      · have h := h.1 q13
        refine ab_iinc O ((x76_3 + (1))) dX9_roots_217 rfl rfl ?_
        refine ab_goto O 76 dX9_roots_220 rfl ?_
        exact ab_less (ih (V) ((x76_3 + (1))) h) (ab_le_s (ab_le_n (ab_le_s (ab_le_s (ab_le_n ab_le_0)))))
      · have h := h.2 q13
        refine ab_aload_n O 0 dX9_roots_93 rfl rfl ?_
        refine ab_get O fl_X9_13 dX9_roots_94 (at_57 _ _ _) rfl ?_
        refine ab_iload_n O 3 dX9_roots_97 rfl rfl ?_
        refine ab_iald O dX9_roots_98 (at_59 _ _ _) h.1 ?_
        have h := h.2
        refine ab_aload_n O 0 dX9_roots_99 rfl rfl ?_
        refine ab_get O fl_X9_50 dX9_roots_100 (at_57 _ _ _) rfl ?_
        refine ab_iload_n O 2 dX9_roots_103 rfl rfl ?_
        refine ab_iald O dX9_roots_104 (at_71 _ _ _) h.1 ?_
        have h := h.2
        refine ab_icmp_eq O 126 dX9_roots_105 rfl (fun q14 => ?_) (fun q14 => ?_)
        · have h := h.1 q14
          refine ab_aload_n O 0 dX9_roots_126 rfl rfl ?_
          refine ab_get O fl_X9_13 dX9_roots_127 (at_57 _ _ _) rfl ?_
          refine ab_iload_n O 3 dX9_roots_130 rfl rfl ?_
          refine ab_iald O dX9_roots_131 (at_59 _ _ _) h.1 ?_
          have h := h.2
          refine ab_aload_n O 0 dX9_roots_132 rfl rfl ?_
          refine ab_get O fl_X9_16 dX9_roots_133 (at_57 _ _ _) rfl ?_
          refine ab_iload_n O 3 dX9_roots_136 rfl rfl ?_
          refine ab_iald O dX9_roots_137 (at_60 _ _ _) h.1 ?_
          have h := h.2
          refine ab_iadd O dX9_roots_138 ?_
          refine ab_aload_n O 0 dX9_roots_139 rfl rfl ?_
          refine ab_get O fl_X9_50 dX9_roots_140 (at_57 _ _ _) rfl ?_
          refine ab_iload_n O 2 dX9_roots_143 rfl rfl ?_
          refine ab_iald O dX9_roots_144 (at_71 _ _ _) h.1 ?_
          have h := h.2
          refine ab_isub O dX9_roots_145 ?_
          refine ab_istore O dX9_roots_146 (show 4 < 5 by decide) ?_
          refine ab_aload_n O 0 dX9_roots_148 rfl rfl ?_
          refine ab_get O fl_X9_38 dX9_roots_149 (at_57 _ _ _) rfl ?_
          refine ab_iload O dX9_roots_152 rfl ?_
          refine ab_iald O dX9_roots_154 (at_67 _ _ _) h.1 ?_
          have h := h.2
          refine ab_bipush O (-2) dX9_roots_155 rfl ?_
          refine ab_icmp_eq O 163 dX9_roots_157 rfl (fun q15 => ?_) (fun q15 => ?_)
          · have h := h.1 q15
            refine ab_aload_n O 0 dX9_roots_163 rfl rfl ?_
            refine ab_get O fl_X9_38 dX9_roots_164 (at_57 _ _ _) rfl ?_
            refine ab_iload O dX9_roots_167 rfl ?_
            refine ab_aload_n O 0 dX9_roots_169 rfl rfl ?_
            refine ab_get O fl_X9_50 dX9_roots_170 (at_57 _ _ _) rfl ?_
            refine ab_iload_n O 2 dX9_roots_173 rfl rfl ?_
            refine ab_iald O dX9_roots_174 (at_71 _ _ _) h.1 ?_
            have h := h.2
            refine ab_iast O dX9_roots_175 (at_67 _ _ _) h.1 ?_
            have h := h.2
            refine ab_eq ?_ rfl rfl rfl (sa_67 _ _ _ _ _).symm
            obtain ⟨V16, eV16⟩ : ∃ z : Mm, z = wr V 67 (Int32.toNatClampNeg ((((V 59 (Int32.toNatClampNeg (x76_3))) + (V 60 (Int32.toNatClampNeg (x76_3)))) - (V 71 (Int32.toNatClampNeg (y76_2)))))) (V 71 (Int32.toNatClampNeg (y76_2))) := ⟨_, rfl⟩
            rw [← eV16]
            have h := h V16 eV16
            refine ab_aload_n O 0 dX9_roots_176 rfl rfl ?_
            refine ab_get O fl_X9_41 dX9_roots_177 (at_57 _ _ _) rfl ?_
            refine ab_iload O dX9_roots_180 rfl ?_
            refine ab_aload_n O 0 dX9_roots_182 rfl rfl ?_
            refine ab_get O fl_X9_41 dX9_roots_183 (at_57 _ _ _) rfl ?_
            refine ab_aload_n O 0 dX9_roots_186 rfl rfl ?_
            refine ab_get O fl_X9_50 dX9_roots_187 (at_57 _ _ _) rfl ?_
            refine ab_iload_n O 2 dX9_roots_190 rfl rfl ?_
            refine ab_iald O dX9_roots_191 (at_71 _ _ _) h.1 ?_
            have h := h.2
            refine ab_iald O dX9_roots_192 (at_68 _ _ _) h.1 ?_
            have h := h.2
            refine ab_iconst O 1 dX9_roots_193 rfl ?_
            refine ab_iadd O dX9_roots_194 ?_
            refine ab_iast O dX9_roots_195 (at_68 _ _ _) h.1 ?_
            have h := h.2
            refine ab_eq ?_ rfl rfl rfl (sa_68 _ _ _ _ _).symm
            obtain ⟨V17, eV17⟩ : ∃ z : Mm, z = wr V16 68 (Int32.toNatClampNeg ((((V 59 (Int32.toNatClampNeg (x76_3))) + (V 60 (Int32.toNatClampNeg (x76_3)))) - (V 71 (Int32.toNatClampNeg (y76_2)))))) ((V16 68 (Int32.toNatClampNeg ((V16 71 (Int32.toNatClampNeg (y76_2)))))) + 1) := ⟨_, rfl⟩
            rw [← eV17]
            have h := h V17 eV17
            refine ab_aload_n O 0 dX9_roots_196 rfl rfl ?_
            refine ab_get O fl_X9_50 dX9_roots_197 (at_57 _ _ _) rfl ?_
            refine ab_aload_n O 0 dX9_roots_200 rfl rfl ?_
            refine ab_get O fl_X9_94 dX9_roots_201 (at_57 _ _ _) rfl ?_
            refine ab_iload O dX9_roots_204 rfl ?_
            refine ab_iast O dX9_roots_206 (at_71 _ _ _) h.1 ?_
            have h := h.2
            refine ab_eq ?_ rfl rfl rfl (sa_71 _ _ _ _ _).symm
            obtain ⟨V18, eV18⟩ : ∃ z : Mm, z = wr V17 71 (Int32.toNatClampNeg ((V17 57 17))) (((V 59 (Int32.toNatClampNeg (x76_3))) + (V 60 (Int32.toNatClampNeg (x76_3)))) - (V 71 (Int32.toNatClampNeg (y76_2)))) := ⟨_, rfl⟩
            rw [← eV18]
            have h := h V18 eV18
            refine ab_aload_n O 0 dX9_roots_207 rfl rfl ?_
            refine ab_dup O dX9_roots_208 rfl ?_
            refine ab_get O fl_X9_94 dX9_roots_209 (at_57 _ _ _) rfl ?_
            refine ab_iconst O 1 dX9_roots_212 rfl ?_
            refine ab_iadd O dX9_roots_213 ?_
            refine ab_put O fl_X9_94 cl_X9 dX9_roots_214 (at_57 _ _ _) rfl .int (by decide +kernel) (fun _ => rfl) (fun _ => rfl) (show 17 < 18 by decide) ?_
            refine ab_eq ?_ rfl rfl rfl (sf_57_17 _ _ _ _).symm
            obtain ⟨V19, eV19⟩ : ∃ z : Mm, z = wr V18 57 17 ((V18 57 17) + 1) := ⟨_, rfl⟩
            rw [← eV19]
            have h := h V19 eV19
            refine ab_iinc O ((x76_3 + (1))) dX9_roots_217 rfl rfl ?_
            refine ab_goto O 76 dX9_roots_220 rfl ?_
            exact ab_less (ih (V19) ((x76_3 + (1))) h) (ab_le_s (ab_le_n (ab_le_s (ab_le_s (ab_le_n ab_le_0)))))
          · have h := h.2 q15
            refine ab_goto O 217 dX9_roots_160 rfl ?_
            refine ab_iinc O ((x76_3 + (1))) dX9_roots_217 rfl rfl ?_
            refine ab_goto O 76 dX9_roots_220 rfl ?_
            exact ab_less (ih (V) ((x76_3 + (1))) h) (ab_le_s (ab_le_n (ab_le_s (ab_le_s (ab_le_n ab_le_0)))))
        · have h := h.2 q14
          refine ab_aload_n O 0 dX9_roots_108 rfl rfl ?_
          refine ab_get O fl_X9_16 dX9_roots_109 (at_57 _ _ _) rfl ?_
          refine ab_iload_n O 3 dX9_roots_112 rfl rfl ?_
          refine ab_iald O dX9_roots_113 (at_60 _ _ _) h.1 ?_
          have h := h.2
          refine ab_aload_n O 0 dX9_roots_114 rfl rfl ?_
          refine ab_get O fl_X9_50 dX9_roots_115 (at_57 _ _ _) rfl ?_
          refine ab_iload_n O 2 dX9_roots_118 rfl rfl ?_
          refine ab_iald O dX9_roots_119 (at_71 _ _ _) h.1 ?_
          have h := h.2
          refine ab_icmp_eq O 126 dX9_roots_120 rfl (fun q20 => ?_) (fun q20 => ?_)
          · have h := h.1 q20
            refine ab_aload_n O 0 dX9_roots_126 rfl rfl ?_
            refine ab_get O fl_X9_13 dX9_roots_127 (at_57 _ _ _) rfl ?_
            refine ab_iload_n O 3 dX9_roots_130 rfl rfl ?_
            refine ab_iald O dX9_roots_131 (at_59 _ _ _) h.1 ?_
            have h := h.2
            refine ab_aload_n O 0 dX9_roots_132 rfl rfl ?_
            refine ab_get O fl_X9_16 dX9_roots_133 (at_57 _ _ _) rfl ?_
            refine ab_iload_n O 3 dX9_roots_136 rfl rfl ?_
            refine ab_iald O dX9_roots_137 (at_60 _ _ _) h.1 ?_
            have h := h.2
            refine ab_iadd O dX9_roots_138 ?_
            refine ab_aload_n O 0 dX9_roots_139 rfl rfl ?_
            refine ab_get O fl_X9_50 dX9_roots_140 (at_57 _ _ _) rfl ?_
            refine ab_iload_n O 2 dX9_roots_143 rfl rfl ?_
            refine ab_iald O dX9_roots_144 (at_71 _ _ _) h.1 ?_
            have h := h.2
            refine ab_isub O dX9_roots_145 ?_
            refine ab_istore O dX9_roots_146 (show 4 < 5 by decide) ?_
            refine ab_aload_n O 0 dX9_roots_148 rfl rfl ?_
            refine ab_get O fl_X9_38 dX9_roots_149 (at_57 _ _ _) rfl ?_
            refine ab_iload O dX9_roots_152 rfl ?_
            refine ab_iald O dX9_roots_154 (at_67 _ _ _) h.1 ?_
            have h := h.2
            refine ab_bipush O (-2) dX9_roots_155 rfl ?_
            refine ab_icmp_eq O 163 dX9_roots_157 rfl (fun q21 => ?_) (fun q21 => ?_)
            · have h := h.1 q21
              refine ab_aload_n O 0 dX9_roots_163 rfl rfl ?_
              refine ab_get O fl_X9_38 dX9_roots_164 (at_57 _ _ _) rfl ?_
              refine ab_iload O dX9_roots_167 rfl ?_
              refine ab_aload_n O 0 dX9_roots_169 rfl rfl ?_
              refine ab_get O fl_X9_50 dX9_roots_170 (at_57 _ _ _) rfl ?_
              refine ab_iload_n O 2 dX9_roots_173 rfl rfl ?_
              refine ab_iald O dX9_roots_174 (at_71 _ _ _) h.1 ?_
              have h := h.2
              refine ab_iast O dX9_roots_175 (at_67 _ _ _) h.1 ?_
              have h := h.2
              refine ab_eq ?_ rfl rfl rfl (sa_67 _ _ _ _ _).symm
              obtain ⟨V22, eV22⟩ : ∃ z : Mm, z = wr V 67 (Int32.toNatClampNeg ((((V 59 (Int32.toNatClampNeg (x76_3))) + (V 60 (Int32.toNatClampNeg (x76_3)))) - (V 71 (Int32.toNatClampNeg (y76_2)))))) (V 71 (Int32.toNatClampNeg (y76_2))) := ⟨_, rfl⟩
              rw [← eV22]
              have h := h V22 eV22
              refine ab_aload_n O 0 dX9_roots_176 rfl rfl ?_
              refine ab_get O fl_X9_41 dX9_roots_177 (at_57 _ _ _) rfl ?_
              refine ab_iload O dX9_roots_180 rfl ?_
              refine ab_aload_n O 0 dX9_roots_182 rfl rfl ?_
              refine ab_get O fl_X9_41 dX9_roots_183 (at_57 _ _ _) rfl ?_
              refine ab_aload_n O 0 dX9_roots_186 rfl rfl ?_
              refine ab_get O fl_X9_50 dX9_roots_187 (at_57 _ _ _) rfl ?_
              refine ab_iload_n O 2 dX9_roots_190 rfl rfl ?_
              refine ab_iald O dX9_roots_191 (at_71 _ _ _) h.1 ?_
              have h := h.2
              refine ab_iald O dX9_roots_192 (at_68 _ _ _) h.1 ?_
              have h := h.2
              refine ab_iconst O 1 dX9_roots_193 rfl ?_
              refine ab_iadd O dX9_roots_194 ?_
              refine ab_iast O dX9_roots_195 (at_68 _ _ _) h.1 ?_
              have h := h.2
              refine ab_eq ?_ rfl rfl rfl (sa_68 _ _ _ _ _).symm
              obtain ⟨V23, eV23⟩ : ∃ z : Mm, z = wr V22 68 (Int32.toNatClampNeg ((((V 59 (Int32.toNatClampNeg (x76_3))) + (V 60 (Int32.toNatClampNeg (x76_3)))) - (V 71 (Int32.toNatClampNeg (y76_2)))))) ((V22 68 (Int32.toNatClampNeg ((V22 71 (Int32.toNatClampNeg (y76_2)))))) + 1) := ⟨_, rfl⟩
              rw [← eV23]
              have h := h V23 eV23
              refine ab_aload_n O 0 dX9_roots_196 rfl rfl ?_
              refine ab_get O fl_X9_50 dX9_roots_197 (at_57 _ _ _) rfl ?_
              refine ab_aload_n O 0 dX9_roots_200 rfl rfl ?_
              refine ab_get O fl_X9_94 dX9_roots_201 (at_57 _ _ _) rfl ?_
              refine ab_iload O dX9_roots_204 rfl ?_
              refine ab_iast O dX9_roots_206 (at_71 _ _ _) h.1 ?_
              have h := h.2
              refine ab_eq ?_ rfl rfl rfl (sa_71 _ _ _ _ _).symm
              obtain ⟨V24, eV24⟩ : ∃ z : Mm, z = wr V23 71 (Int32.toNatClampNeg ((V23 57 17))) (((V 59 (Int32.toNatClampNeg (x76_3))) + (V 60 (Int32.toNatClampNeg (x76_3)))) - (V 71 (Int32.toNatClampNeg (y76_2)))) := ⟨_, rfl⟩
              rw [← eV24]
              have h := h V24 eV24
              refine ab_aload_n O 0 dX9_roots_207 rfl rfl ?_
              refine ab_dup O dX9_roots_208 rfl ?_
              refine ab_get O fl_X9_94 dX9_roots_209 (at_57 _ _ _) rfl ?_
              refine ab_iconst O 1 dX9_roots_212 rfl ?_
              refine ab_iadd O dX9_roots_213 ?_
              refine ab_put O fl_X9_94 cl_X9 dX9_roots_214 (at_57 _ _ _) rfl .int (by decide +kernel) (fun _ => rfl) (fun _ => rfl) (show 17 < 18 by decide) ?_
              refine ab_eq ?_ rfl rfl rfl (sf_57_17 _ _ _ _).symm
              obtain ⟨V25, eV25⟩ : ∃ z : Mm, z = wr V24 57 17 ((V24 57 17) + 1) := ⟨_, rfl⟩
              rw [← eV25]
              have h := h V25 eV25
              refine ab_iinc O ((x76_3 + (1))) dX9_roots_217 rfl rfl ?_
              refine ab_goto O 76 dX9_roots_220 rfl ?_
              exact ab_less (ih (V25) ((x76_3 + (1))) h) (ab_le_s (ab_le_n (ab_le_s (ab_le_s (ab_le_n ab_le_0)))))
            · have h := h.2 q21
              refine ab_goto O 217 dX9_roots_160 rfl ?_
              refine ab_iinc O ((x76_3 + (1))) dX9_roots_217 rfl rfl ?_
              refine ab_goto O 76 dX9_roots_220 rfl ?_
              exact ab_less (ih (V) ((x76_3 + (1))) h) (ab_le_s (ab_le_n (ab_le_s (ab_le_s (ab_le_n ab_le_0)))))
          · have h := h.2 q20
            refine ab_goto O 217 dX9_roots_123 rfl ?_
            refine ab_iinc O ((x76_3 + (1))) dX9_roots_217 rfl rfl ?_
            refine ab_goto O 76 dX9_roots_220 rfl ?_
            exact ab_less (ih (V) ((x76_3 + (1))) h) (ab_le_s (ab_le_n (ab_le_s (ab_le_s (ab_le_n ab_le_0)))))
set_option maxHeartbeats 4000000 in
theorem cl_X9_roots_L66 {X : ab_M} {g : ab_G} {l : Launch} {d : Nat} (hd : 0 ≤ d) {post : Mm → Prop} {kx : Mm → Int32 → Prop} {o : Nat → Int64} {D : Nat → UInt64} (O : ab_Ok X g cX9_roots RX9) (I : ab_I X l tk_strs 5 none yX9_roots.name d 0 0) (hk : ∀ (V : Mm) (x66_2 : Int32), kx V x66_2 → Ab X g 0 0 (tk_Q X g (tk_V g (fun u => ∃ V : Mm, u = SW V o D ∧ post V)) (fun _ _ => False) 0 0) 229 [some (.ref (57)), none, none, none, none] [] (SW V o D)) : ∀ (n : Nat) (V : Mm) (x66_2 : Int32), wp_X9_roots_L66 post kx n V x66_2 → Ab X g 0 0 (tk_Q X g (tk_V g (fun u => ∃ V : Mm, u = SW V o D ∧ post V)) (fun _ _ => False) 0 0) 66 [some (.ref (57)), none, some (.int (x66_2)), none, none] [] (SW V o D) := by
  intro n
  induction n with
  | zero => intro V x66_2 h; exact h.elim
  | succ n ih =>
    intro V x66_2 h
    refine ab_iload_n O 2 dX9_roots_66 rfl rfl ?_
    refine ab_aload_n O 0 dX9_roots_67 rfl rfl ?_
    refine ab_get O fl_X9_94 dX9_roots_68 (at_57 _ _ _) rfl ?_
    refine ab_icmp_ge O 229 dX9_roots_71 rfl (fun q11 => ?_) (fun q11 => ?_)
    · have h := h.1 q11
      exact ab_less (hk (V) (x66_2) h) (ab_le_s (ab_le_n (ab_le_n (ab_le_n (ab_le_n ab_le_0)))))
    · have h := h.2 q11
      refine ab_iconst O 0 dX9_roots_74 rfl ?_
      refine ab_istore_n O 3 dX9_roots_75 rfl (show 3 < 5 by decide) ?_
      obtain ⟨n9, h⟩ := h
      refine ab_less (cl_X9_roots_L76 hd (x66_2) O I (fun V26 x27 h => ?_) n9 (V) (0) h) (ab_le_s (ab_le_n (ab_le_s (ab_le_s (ab_le_n ab_le_0)))))
      refine ab_iinc O ((x66_2 + (1))) dX9_roots_223 rfl rfl ?_
      refine ab_goto O 66 dX9_roots_226 rfl ?_
      exact ab_less (ih (V26) ((x66_2 + (1))) h) (ab_le_s (ab_le_n (ab_le_s (ab_le_n (ab_le_n ab_le_0)))))
set_option maxHeartbeats 4000000 in
theorem cl_X9_roots_L236 {X : ab_M} {g : ab_G} {l : Launch} {d : Nat} (hd : 0 ≤ d) {post : Mm → Prop} {kx : Mm → Int32 → Prop} {o : Nat → Int64} {D : Nat → UInt64} (O : ab_Ok X g cX9_roots RX9) (I : ab_I X l tk_strs 5 none yX9_roots.name d 0 0) (hk : ∀ (V : Mm) (x236_2 : Int32), kx V x236_2 → Ab X g 0 0 (tk_Q X g (tk_V g (fun u => ∃ V : Mm, u = SW V o D ∧ post V)) (fun _ _ => False) 0 0) 276 [some (.ref (57)), none, none, none, none] [] (SW V o D)) : ∀ (n : Nat) (V : Mm) (x236_2 : Int32), wp_X9_roots_L236 post kx n V x236_2 → Ab X g 0 0 (tk_Q X g (tk_V g (fun u => ∃ V : Mm, u = SW V o D ∧ post V)) (fun _ _ => False) 0 0) 236 [some (.ref (57)), none, some (.int (x236_2)), none, none] [] (SW V o D) := by
  intro n
  induction n with
  | zero => intro V x236_2 h; exact h.elim
  | succ n ih =>
    intro V x236_2 h
    refine ab_iload_n O 2 dX9_roots_236 rfl rfl ?_
    refine ab_if_le O 276 dX9_roots_237 rfl (fun q30 => ?_) (fun q30 => ?_)
    · have h := h.1 q30
      exact ab_less (hk (V) (x236_2) h) (ab_le_s (ab_le_n (ab_le_n (ab_le_n (ab_le_n ab_le_0)))))
    · have h := h.2 q30
      refine ab_aload_n O 0 dX9_roots_240 rfl rfl ?_
      refine ab_get O fl_X9_44 dX9_roots_241 (at_57 _ _ _) rfl ?_
      refine ab_aload_n O 0 dX9_roots_244 rfl rfl ?_
      refine ab_get O fl_X9_38 dX9_roots_245 (at_57 _ _ _) rfl ?_
      refine ab_aload_n O 0 dX9_roots_248 rfl rfl ?_
      refine ab_get O fl_X9_50 dX9_roots_249 (at_57 _ _ _) rfl ?_
      refine ab_iload_n O 2 dX9_roots_252 rfl rfl ?_
      refine ab_iald O dX9_roots_253 (at_71 _ _ _) h.1 ?_
      have h := h.2
      refine ab_iald O dX9_roots_254 (at_67 _ _ _) h.1 ?_
      have h := h.2
      refine ab_dup2 O dX9_roots_255 rfl rfl ?_
      refine ab_iald O dX9_roots_256 (at_69 _ _ _) h.1 ?_
      have h := h.2
      refine ab_aload_n O 0 dX9_roots_257 rfl rfl ?_
      refine ab_get O fl_X9_44 dX9_roots_258 (at_57 _ _ _) rfl ?_
      refine ab_aload_n O 0 dX9_roots_261 rfl rfl ?_
      refine ab_get O fl_X9_50 dX9_roots_262 (at_57 _ _ _) rfl ?_
      refine ab_iload_n O 2 dX9_roots_265 rfl rfl ?_
      refine ab_iald O dX9_roots_266 (at_71 _ _ _) h.1 ?_
      have h := h.2
      refine ab_iald O dX9_roots_267 (at_69 _ _ _) h.1 ?_
      have h := h.2
      refine ab_iadd O dX9_roots_268 ?_
      refine ab_iast O dX9_roots_269 (at_69 _ _ _) h.1 ?_
      have h := h.2
      refine ab_eq ?_ rfl rfl rfl (sa_69 _ _ _ _ _).symm
      obtain ⟨V31, eV31⟩ : ∃ z : Mm, z = wr V 69 (Int32.toNatClampNeg ((V 67 (Int32.toNatClampNeg ((V 71 (Int32.toNatClampNeg (x236_2)))))))) ((V 69 (Int32.toNatClampNeg ((V 67 (Int32.toNatClampNeg ((V 71 (Int32.toNatClampNeg (x236_2))))))))) + (V 69 (Int32.toNatClampNeg ((V 71 (Int32.toNatClampNeg (x236_2))))))) := ⟨_, rfl⟩
      rw [← eV31]
      have h := h V31 eV31
      refine ab_iinc O ((x236_2 + (-1))) dX9_roots_270 rfl rfl ?_
      refine ab_goto O 236 dX9_roots_273 rfl ?_
      exact ab_less (ih (V31) ((x236_2 + (-1))) h) (ab_le_s (ab_le_n (ab_le_s (ab_le_n (ab_le_n ab_le_0)))))
set_option maxHeartbeats 4000000 in
theorem cl_X9_roots_L278 {X : ab_M} {g : ab_G} {l : Launch} {d : Nat} (hd : 0 ≤ d) {post : Mm → Prop} {kx : Mm → Int32 → Prop} {o : Nat → Int64} {D : Nat → UInt64} (O : ab_Ok X g cX9_roots RX9) (I : ab_I X l tk_strs 5 none yX9_roots.name d 0 0) (hk : ∀ (V : Mm) (x278_2 : Int32), kx V x278_2 → Ab X g 0 0 (tk_Q X g (tk_V g (fun u => ∃ V : Mm, u = SW V o D ∧ post V)) (fun _ _ => False) 0 0) 347 [none, none, none, none, none] [] (SW V o D)) : ∀ (n : Nat) (V : Mm) (x278_2 : Int32), wp_X9_roots_L278 post kx n V x278_2 → Ab X g 0 0 (tk_Q X g (tk_V g (fun u => ∃ V : Mm, u = SW V o D ∧ post V)) (fun _ _ => False) 0 0) 278 [some (.ref (57)), none, some (.int (x278_2)), none, none] [] (SW V o D) := by
  intro n
  induction n with
  | zero => intro V x278_2 h; exact h.elim
  | succ n ih =>
    intro V x278_2 h
    refine ab_iload_n O 2 dX9_roots_278 rfl rfl ?_
    refine ab_aload_n O 0 dX9_roots_279 rfl rfl ?_
    refine ab_get O fl_X9_57 dX9_roots_280 (at_57 _ _ _) rfl ?_
    refine ab_icmp_ge O 347 dX9_roots_283 rfl (fun q34 => ?_) (fun q34 => ?_)
    · have h := h.1 q34
      exact ab_less (hk (V) (x278_2) h) (ab_le_n (ab_le_n (ab_le_n (ab_le_n (ab_le_n ab_le_0)))))
    · have h := h.2 q34
      refine ab_aload_n O 0 dX9_roots_286 rfl rfl ?_
      refine ab_get O fl_X9_38 dX9_roots_287 (at_57 _ _ _) rfl ?_
      refine ab_iload_n O 2 dX9_roots_290 rfl rfl ?_
      refine ab_iald O dX9_roots_291 (at_67 _ _ _) h.1 ?_
      have h := h.2
      refine ab_if_ge O 298 dX9_roots_292 rfl (fun q35 => ?_) (fun q35 => ?_)
      · have h := h.1 q35
        refine ab_aload_n O 0 dX9_roots_298 rfl rfl ?_
        refine ab_get O fl_X9_38 dX9_roots_299 (at_57 _ _ _) rfl ?_
        refine ab_iload_n O 2 dX9_roots_302 rfl rfl ?_
        refine ab_iald O dX9_roots_303 (at_67 _ _ _) h.1 ?_
        have h := h.2
        refine ab_istore_n O 3 dX9_roots_304 rfl (show 3 < 5 by decide) ?_
        refine ab_aload_n O 0 dX9_roots_305 rfl rfl ?_
        refine ab_get O fl_X9_47 dX9_roots_306 (at_57 _ _ _) rfl ?_
        refine ab_iload_n O 3 dX9_roots_309 rfl rfl ?_
        refine ab_iald O dX9_roots_310 (at_70 _ _ _) h.1 ?_
        have h := h.2
        refine ab_if_lt O 334 dX9_roots_311 rfl (fun q36 => ?_) (fun q36 => ?_)
        · have h := h.1 q36
          refine ab_aload_n O 0 dX9_roots_334 rfl rfl ?_
          refine ab_get O fl_X9_47 dX9_roots_335 (at_57 _ _ _) rfl ?_
          refine ab_iload_n O 3 dX9_roots_338 rfl rfl ?_
          refine ab_iload_n O 2 dX9_roots_339 rfl rfl ?_
          refine ab_iast O dX9_roots_340 (at_70 _ _ _) h.1 ?_
          have h := h.2
          refine ab_eq ?_ rfl rfl rfl (sa_70 _ _ _ _ _).symm
          obtain ⟨V37, eV37⟩ : ∃ z : Mm, z = wr V 70 (Int32.toNatClampNeg ((V 67 (Int32.toNatClampNeg (x278_2))))) x278_2 := ⟨_, rfl⟩
          rw [← eV37]
          have h := h V37 eV37
          refine ab_iinc O ((x278_2 + (1))) dX9_roots_341 rfl rfl ?_
          refine ab_goto O 278 dX9_roots_344 rfl ?_
          exact ab_less (ih (V37) ((x278_2 + (1))) h) (ab_le_s (ab_le_n (ab_le_s (ab_le_n (ab_le_n ab_le_0)))))
        · have h := h.2 q36
          refine ab_aload_n O 0 dX9_roots_314 rfl rfl ?_
          refine ab_get O fl_X9_44 dX9_roots_315 (at_57 _ _ _) rfl ?_
          refine ab_iload_n O 2 dX9_roots_318 rfl rfl ?_
          refine ab_iald O dX9_roots_319 (at_69 _ _ _) h.1 ?_
          have h := h.2
          refine ab_aload_n O 0 dX9_roots_320 rfl rfl ?_
          refine ab_get O fl_X9_44 dX9_roots_321 (at_57 _ _ _) rfl ?_
          refine ab_aload_n O 0 dX9_roots_324 rfl rfl ?_
          refine ab_get O fl_X9_47 dX9_roots_325 (at_57 _ _ _) rfl ?_
          refine ab_iload_n O 3 dX9_roots_328 rfl rfl ?_
          refine ab_iald O dX9_roots_329 (at_70 _ _ _) h.1 ?_
          have h := h.2
          refine ab_iald O dX9_roots_330 (at_69 _ _ _) h.1 ?_
          have h := h.2
          refine ab_icmp_le O 341 dX9_roots_331 rfl (fun q38 => ?_) (fun q38 => ?_)
          · have h := h.1 q38
            refine ab_iinc O ((x278_2 + (1))) dX9_roots_341 rfl rfl ?_
            refine ab_goto O 278 dX9_roots_344 rfl ?_
            exact ab_less (ih (V) ((x278_2 + (1))) h) (ab_le_s (ab_le_n (ab_le_s (ab_le_n (ab_le_n ab_le_0)))))
          · have h := h.2 q38
            refine ab_aload_n O 0 dX9_roots_334 rfl rfl ?_
            refine ab_get O fl_X9_47 dX9_roots_335 (at_57 _ _ _) rfl ?_
            refine ab_iload_n O 3 dX9_roots_338 rfl rfl ?_
            refine ab_iload_n O 2 dX9_roots_339 rfl rfl ?_
            refine ab_iast O dX9_roots_340 (at_70 _ _ _) h.1 ?_
            have h := h.2
            refine ab_eq ?_ rfl rfl rfl (sa_70 _ _ _ _ _).symm
            obtain ⟨V39, eV39⟩ : ∃ z : Mm, z = wr V 70 (Int32.toNatClampNeg ((V 67 (Int32.toNatClampNeg (x278_2))))) x278_2 := ⟨_, rfl⟩
            rw [← eV39]
            have h := h V39 eV39
            refine ab_iinc O ((x278_2 + (1))) dX9_roots_341 rfl rfl ?_
            refine ab_goto O 278 dX9_roots_344 rfl ?_
            exact ab_less (ih (V39) ((x278_2 + (1))) h) (ab_le_s (ab_le_n (ab_le_s (ab_le_n (ab_le_n ab_le_0)))))
      · have h := h.2 q35
        refine ab_goto O 341 dX9_roots_295 rfl ?_
        refine ab_iinc O ((x278_2 + (1))) dX9_roots_341 rfl rfl ?_
        refine ab_goto O 278 dX9_roots_344 rfl ?_
        exact ab_less (ih (V) ((x278_2 + (1))) h) (ab_le_s (ab_le_n (ab_le_s (ab_le_n (ab_le_n ab_le_0)))))
set_option maxHeartbeats 4000000 in
theorem c_X9_roots (d : Nat) (hd : 0 ≤ d) (l : Launch) (hl : l.stackTraces = false) (g : ab_G) (o : Nat → Int64) (D : Nat → UInt64) (a0 : Int32) {V : Mm} {post : Mm → Prop} (h : wp_X9_roots V a0 post) : Ct l g tk_strs False d 0 0 yX9_roots cX9_roots 5 none [.ref 57, .int a0] (SW V o D) (tk_V g (fun u => ∃ V : Mm, u = SW V o D ∧ post V)) (fun _ _ => False) := by
  refine ct_in (by decide +kernel) (show 2 ≤ 5 by decide) (by simp [Value.category]) hl (fun X I O _ => ?_)
  show Ab X g 0 0 _ 0 [some (.ref (57)), some (.int (a0)), none, none, none] [] _
  refine ab_iconst O 0 dX9_roots_0 rfl ?_
  refine ab_istore_n O 2 dX9_roots_1 rfl (show 2 < 5 by decide) ?_
  obtain ⟨n9, h⟩ := h
  refine ab_less (cl_X9_roots_L2 hd (a0) O I (fun V5 x6 h => ?_) n9 (V) (0) h) (ab_le_s (ab_le_s (ab_le_s (ab_le_n (ab_le_n ab_le_0)))))
  refine ab_aload_n O 0 dX9_roots_38 rfl rfl ?_
  refine ab_get O fl_X9_38 dX9_roots_39 (at_57 _ _ _) rfl ?_
  refine ab_iload_n O 1 dX9_roots_42 rfl rfl ?_
  refine ab_iconst O (-1) dX9_roots_43 rfl ?_
  refine ab_iast O dX9_roots_44 (at_67 _ _ _) h.1 ?_
  have h := h.2
  refine ab_eq ?_ rfl rfl rfl (sa_67 _ _ _ _ _).symm
  obtain ⟨V7, eV7⟩ : ∃ z : Mm, z = wr V5 67 (Int32.toNatClampNeg (a0)) (-1) := ⟨_, rfl⟩
  rw [← eV7]
  have h := h V7 eV7
  refine ab_aload_n O 0 dX9_roots_45 rfl rfl ?_
  refine ab_get O fl_X9_41 dX9_roots_46 (at_57 _ _ _) rfl ?_
  refine ab_iload_n O 1 dX9_roots_49 rfl rfl ?_
  refine ab_iconst O 0 dX9_roots_50 rfl ?_
  refine ab_iast O dX9_roots_51 (at_68 _ _ _) h.1 ?_
  have h := h.2
  refine ab_eq ?_ rfl rfl rfl (sa_68 _ _ _ _ _).symm
  obtain ⟨V8, eV8⟩ : ∃ z : Mm, z = wr V7 68 (Int32.toNatClampNeg (a0)) 0 := ⟨_, rfl⟩
  rw [← eV8]
  have h := h V8 eV8
  refine ab_aload_n O 0 dX9_roots_52 rfl rfl ?_
  refine ab_get O fl_X9_50 dX9_roots_53 (at_57 _ _ _) rfl ?_
  refine ab_iconst O 0 dX9_roots_56 rfl ?_
  refine ab_iload_n O 1 dX9_roots_57 rfl rfl ?_
  refine ab_iast O dX9_roots_58 (at_71 _ _ _) h.1 ?_
  have h := h.2
  refine ab_eq ?_ rfl rfl rfl (sa_71 _ _ _ _ _).symm
  obtain ⟨V9, eV9⟩ : ∃ z : Mm, z = wr V8 71 (Int32.toNatClampNeg (0)) a0 := ⟨_, rfl⟩
  rw [← eV9]
  have h := h V9 eV9
  refine ab_aload_n O 0 dX9_roots_59 rfl rfl ?_
  refine ab_iconst O 1 dX9_roots_60 rfl ?_
  refine ab_put O fl_X9_94 cl_X9 dX9_roots_61 (at_57 _ _ _) rfl .int (by decide +kernel) (fun _ => rfl) (fun _ => rfl) (show 17 < 18 by decide) ?_
  refine ab_eq ?_ rfl rfl rfl (sf_57_17 _ _ _ _).symm
  obtain ⟨V10, eV10⟩ : ∃ z : Mm, z = wr V9 57 17 1 := ⟨_, rfl⟩
  rw [← eV10]
  have h := h V10 eV10
  refine ab_iconst O 0 dX9_roots_64 rfl ?_
  refine ab_istore_n O 2 dX9_roots_65 rfl (show 2 < 5 by decide) ?_
  obtain ⟨n9, h⟩ := h
  refine ab_less (cl_X9_roots_L66 hd O I (fun V28 x29 h => ?_) n9 (V10) (0) h) (ab_le_s (ab_le_n (ab_le_s (ab_le_n (ab_le_n ab_le_0)))))
  refine ab_aload_n O 0 dX9_roots_229 rfl rfl ?_
  refine ab_get O fl_X9_94 dX9_roots_230 (at_57 _ _ _) rfl ?_
  refine ab_iconst O 1 dX9_roots_233 rfl ?_
  refine ab_isub O dX9_roots_234 ?_
  refine ab_istore_n O 2 dX9_roots_235 rfl (show 2 < 5 by decide) ?_
  obtain ⟨n9, h⟩ := h
  refine ab_less (cl_X9_roots_L236 hd O I (fun V32 x33 h => ?_) n9 (V28) (((V28 57 17) - 1)) h) (ab_le_s (ab_le_n (ab_le_s (ab_le_n (ab_le_n ab_le_0)))))
  refine ab_iconst O 0 dX9_roots_276 rfl ?_
  refine ab_istore_n O 2 dX9_roots_277 rfl (show 2 < 5 by decide) ?_
  obtain ⟨n9, h⟩ := h
  refine ab_less (cl_X9_roots_L278 hd O I (fun V40 x41 h => ?_) n9 (V32) (0) h) (ab_le_s (ab_le_n (ab_le_s (ab_le_n (ab_le_n ab_le_0)))))
  exact ab_return O I dX9_roots_347 (by decide) (by decide) ⟨_, rfl, h⟩

def wp_X9_addOnPath_L73 (y73_1 y73_3 : Int32) (post : Int32 → Mm → Prop) (kx : Mm → Int32 → Prop) : Nat → Mm → Int32 → Prop
  | 0, _, _ => False
  | n73 + 1, V, x73_4 => ((x73_4 = (-1) → kx (V) (x73_4)) ∧ (¬ x73_4 = (-1) → (vp_in x73_4 20 ∧ (vp_in x73_4 20 ∧ ∀ V16 : Mm, V16 = wr V 58 (Int32.toNatClampNeg (x73_4)) ((V 58 (Int32.toNatClampNeg (x73_4))) + y73_3) → (vp_in x73_4 20 ∧ wp_X9_addOnPath_L73 y73_1 y73_3 post kx n73 (V16) ((V16 67 (Int32.toNatClampNeg (x73_4)))))))))

def wp_X9_addOnPath (V : Mm) (a0 a1 a2 : Int32) (post : Int32 → Mm → Prop) : Prop := (∀ V1 : Mm, V1 = wr V 57 0 0 → (wp_X9_isVertex V1 (a0) (fun (r3 : Int32) (V2 : Mm) => ((r3 = 0 → (wp_X9_fails V2 (1) (fun (r6 : Int32) (V5 : Mm) => post r6 V5))) ∧ (¬ r3 = 0 → (wp_X9_isVertex V2 (a1) (fun (r8 : Int32) (V7 : Mm) => ((r8 = 0 → (wp_X9_fails V7 (1) (fun (r24 : Int32) (V23 : Mm) => post r24 V23))) ∧ (¬ r8 = 0 → (wp_X9_isBetween V7 (a2) ((-9)) (9) (fun (r11 : Int32) (V10 : Mm) => ((r11 = 0 → (wp_X9_fails V10 (2) (fun (r22 : Int32) (V21 : Mm) => post r22 V21))) ∧ (¬ r11 = 0 → (vp_in a0 20 ∧ (vp_in a1 20 ∧ (((V10 63 (Int32.toNatClampNeg (a0))) = (V10 63 (Int32.toNatClampNeg (a1))) → (wp_X9_roots V10 (a1) (fun (V14 : Mm) => (∃ m73 : Nat, wp_X9_addOnPath_L73 (a0) (a2) post (fun (V17 : Mm) (x18 : Int32) => (vp_in a0 20 ∧ post ((V17 68 (Int32.toNatClampNeg (a0))) + 1) V17)) m73 (V14) (a0))))) ∧ (¬ (V10 63 (Int32.toNatClampNeg (a0))) = (V10 63 (Int32.toNatClampNeg (a1))) → (wp_X9_fails V10 (3) (fun (r20 : Int32) (V19 : Mm) => post r20 V19)))))))))))))))))))
set_option maxHeartbeats 4000000 in
theorem cl_X9_addOnPath_L73 {X : ab_M} {g : ab_G} {l : Launch} {d : Nat} (hd : 2 ≤ d) (y73_1 y73_3 : Int32) {post : Int32 → Mm → Prop} {kx : Mm → Int32 → Prop} {o : Nat → Int64} {D : Nat → UInt64} (O : ab_Ok X g cX9_addOnPath RX9) (I : ab_I X l tk_strs 5 (some .int) yX9_addOnPath.name d 0 0) (hk : ∀ (V : Mm) (x73_4 : Int32), kx V x73_4 → Ab X g 0 0 (tk_Q X g (tk_I g (fun r u => ∃ V : Mm, u = SW V o D ∧ post r V)) (fun _ _ => False) 0 0) 102 [some (.ref (57)), some (.int (y73_1)), none, none, none] [] (SW V o D)) : ∀ (n : Nat) (V : Mm) (x73_4 : Int32), wp_X9_addOnPath_L73 y73_1 y73_3 post kx n V x73_4 → Ab X g 0 0 (tk_Q X g (tk_I g (fun r u => ∃ V : Mm, u = SW V o D ∧ post r V)) (fun _ _ => False) 0 0) 73 [some (.ref (57)), some (.int (y73_1)), none, some (.int (y73_3)), some (.int (x73_4))] [] (SW V o D) := by
  intro n
  induction n with
  | zero => intro V x73_4 h; exact h.elim
  | succ n ih =>
    intro V x73_4 h
    refine ab_iload O dX9_addOnPath_73 rfl ?_
    refine ab_iconst O (-1) dX9_addOnPath_75 rfl ?_
    refine ab_icmp_eq O 102 dX9_addOnPath_76 rfl (fun q15 => ?_) (fun q15 => ?_)
    · have h := h.1 q15
      exact ab_less (hk (V) (x73_4) h) (ab_le_s (ab_le_s (ab_le_n (ab_le_n (ab_le_n ab_le_0)))))
    · have h := h.2 q15
      refine ab_aload_n O 0 dX9_addOnPath_79 rfl rfl ?_
      refine ab_get O fl_X9_9 dX9_addOnPath_80 (at_57 _ _ _) rfl ?_
      refine ab_iload O dX9_addOnPath_83 rfl ?_
      refine ab_dup2 O dX9_addOnPath_85 rfl rfl ?_
      refine ab_iald O dX9_addOnPath_86 (at_58 _ _ _) h.1 ?_
      have h := h.2
      refine ab_iload_n O 3 dX9_addOnPath_87 rfl rfl ?_
      refine ab_iadd O dX9_addOnPath_88 ?_
      refine ab_iast O dX9_addOnPath_89 (at_58 _ _ _) h.1 ?_
      have h := h.2
      refine ab_eq ?_ rfl rfl rfl (sa_58 _ _ _ _ _).symm
      obtain ⟨V16, eV16⟩ : ∃ z : Mm, z = wr V 58 (Int32.toNatClampNeg (x73_4)) ((V 58 (Int32.toNatClampNeg (x73_4))) + y73_3) := ⟨_, rfl⟩
      rw [← eV16]
      have h := h V16 eV16
      refine ab_aload_n O 0 dX9_addOnPath_90 rfl rfl ?_
      refine ab_get O fl_X9_38 dX9_addOnPath_91 (at_57 _ _ _) rfl ?_
      refine ab_iload O dX9_addOnPath_94 rfl ?_
      refine ab_iald O dX9_addOnPath_96 (at_67 _ _ _) h.1 ?_
      have h := h.2
      refine ab_istore O dX9_addOnPath_97 (show 4 < 5 by decide) ?_
      refine ab_goto O 73 dX9_addOnPath_99 rfl ?_
      exact ab_less (ih (V16) ((V16 67 (Int32.toNatClampNeg (x73_4)))) h) (ab_le_s (ab_le_s (ab_le_n (ab_le_s (ab_le_s ab_le_0)))))
set_option maxHeartbeats 4000000 in
theorem c_X9_addOnPath (d : Nat) (hd : 2 ≤ d) (l : Launch) (hl : l.stackTraces = false) (g : ab_G) (o : Nat → Int64) (D : Nat → UInt64) (a0 : Int32) (a1 : Int32) (a2 : Int32) {V : Mm} {post : Int32 → Mm → Prop} (h : wp_X9_addOnPath V a0 a1 a2 post) : Ct l g tk_strs False d 0 0 yX9_addOnPath cX9_addOnPath 5 (some .int) [.ref 57, .int a0, .int a1, .int a2] (SW V o D) (tk_I g (fun r u => ∃ V : Mm, u = SW V o D ∧ post r V)) (fun _ _ => False) := by
  refine ct_in (by decide +kernel) (show 4 ≤ 5 by decide) (by simp [Value.category]) hl (fun X I O _ => ?_)
  show Ab X g 0 0 _ 0 [some (.ref (57)), some (.int (a0)), some (.int (a1)), some (.int (a2)), none] [] _
  refine ab_aload_n O 0 dX9_addOnPath_0 rfl rfl ?_
  refine ab_iconst O 0 dX9_addOnPath_1 rfl ?_
  refine ab_put O fl_X9_53 cl_X9 dX9_addOnPath_2 (at_57 _ _ _) rfl .int (by decide +kernel) (fun _ => rfl) (fun _ => rfl) (show 0 < 18 by decide) ?_
  refine ab_eq ?_ rfl rfl rfl (sf_57_0 _ _ _ _).symm
  obtain ⟨V1, eV1⟩ : ∃ z : Mm, z = wr V 57 0 0 := ⟨_, rfl⟩
  rw [← eV1]
  have h := h V1 eV1
  refine ab_aload_n O 0 dX9_addOnPath_5 rfl rfl ?_
  refine ab_iload_n O 1 dX9_addOnPath_6 rfl rfl ?_
  refine ab_callvI O I.2.2.2.2.2.2 (fr := False) (st := []) lk_X9_84 rfl (at_57 _ _ _) dX9_addOnPath_7 (c_X9_isVertex (d - 1) (by omega) _ O.2.2.2.2.2.2.1 _ _ _ _ h) rfl rfl ⟨by rw [I.2.1]; show d - 1 + 1 ≤ d; omega, by rw [I.2.1]; show 8 + (_ + 11) + 36 * (d - 1) ≤ 36 * d; omega⟩ (show 0 ≤ 8 by decide) ⟨by rw [I.2.1]; show 0 + 0 ≤ 0; decide, by rw [I.2.1]; show 0 + 0 ≤ 0; decide⟩ (fun q => q.elim) (fun E u q => q.elim) (fun r3 u hu => ?_)
  obtain ⟨V2, rfl, h⟩ := hu
  refine ab_if_eq O 21 dX9_addOnPath_10 rfl (fun q4 => ?_) (fun q4 => ?_)
  · have h := h.1 q4
    refine ab_aload_n O 0 dX9_addOnPath_21 rfl rfl ?_
    refine ab_iconst O 1 dX9_addOnPath_22 rfl ?_
    refine ab_callvI O I.2.2.2.2.2.2 (fr := False) (st := []) lk_X9_78 rfl (at_57 _ _ _) dX9_addOnPath_23 (c_X9_fails (d - 1) (by omega) _ O.2.2.2.2.2.2.1 _ _ _ _ h) rfl rfl ⟨by rw [I.2.1]; show d - 1 + 1 ≤ d; omega, by rw [I.2.1]; show 8 + (_ + 11) + 36 * (d - 1) ≤ 36 * d; omega⟩ (show 0 ≤ 8 by decide) ⟨by rw [I.2.1]; show 0 + 0 ≤ 0; decide, by rw [I.2.1]; show 0 + 0 ≤ 0; decide⟩ (fun q => q.elim) (fun E u q => q.elim) (fun r6 u hu => ?_)
    obtain ⟨V5, rfl, h⟩ := hu
    exact ab_ireturn O I dX9_addOnPath_26 (by decide) (by decide) (by rfl) ⟨_, rfl, h⟩
  · have h := h.2 q4
    refine ab_aload_n O 0 dX9_addOnPath_13 rfl rfl ?_
    refine ab_iload_n O 2 dX9_addOnPath_14 rfl rfl ?_
    refine ab_callvI O I.2.2.2.2.2.2 (fr := False) (st := []) lk_X9_84 rfl (at_57 _ _ _) dX9_addOnPath_15 (c_X9_isVertex (d - 1) (by omega) _ O.2.2.2.2.2.2.1 _ _ _ _ h) rfl rfl ⟨by rw [I.2.1]; show d - 1 + 1 ≤ d; omega, by rw [I.2.1]; show 8 + (_ + 11) + 36 * (d - 1) ≤ 36 * d; omega⟩ (show 0 ≤ 8 by decide) ⟨by rw [I.2.1]; show 0 + 0 ≤ 0; decide, by rw [I.2.1]; show 0 + 0 ≤ 0; decide⟩ (fun q => q.elim) (fun E u q => q.elim) (fun r8 u hu => ?_)
    obtain ⟨V7, rfl, h⟩ := hu
    refine ab_if_ne O 27 dX9_addOnPath_18 rfl (fun q9 => ?_) (fun q9 => ?_)
    · have h := h.2 q9
      refine ab_iload_n O 3 dX9_addOnPath_27 rfl rfl ?_
      refine ab_bipush O (-9) dX9_addOnPath_28 rfl ?_
      refine ab_bipush O 9 dX9_addOnPath_30 rfl ?_
      refine ab_callsI O I.2.2.2.2.2.2 (fr := False) (st := []) lk_X9_60 dX9_addOnPath_32 (c_X9_isBetween (d - 1) (by omega) _ O.2.2.2.2.2.2.1 _ _ _ _ _ _ h) rfl rfl ⟨by rw [I.2.1]; show d - 1 + 1 ≤ d; omega, by rw [I.2.1]; show 8 + (_ + 11) + 36 * (d - 1) ≤ 36 * d; omega⟩ (show 0 ≤ 8 by decide) ⟨by rw [I.2.1]; show 0 + 0 ≤ 0; decide, by rw [I.2.1]; show 0 + 0 ≤ 0; decide⟩ (fun q => q.elim) (fun E u q => q.elim) (fun r11 u hu => ?_)
      obtain ⟨V10, rfl, h⟩ := hu
      refine ab_if_ne O 44 dX9_addOnPath_35 rfl (fun q12 => ?_) (fun q12 => ?_)
      · have h := h.2 q12
        refine ab_aload_n O 0 dX9_addOnPath_44 rfl rfl ?_
        refine ab_get O fl_X9_25 dX9_addOnPath_45 (at_57 _ _ _) rfl ?_
        refine ab_iload_n O 1 dX9_addOnPath_48 rfl rfl ?_
        refine ab_iald O dX9_addOnPath_49 (at_63 _ _ _) h.1 ?_
        have h := h.2
        refine ab_aload_n O 0 dX9_addOnPath_50 rfl rfl ?_
        refine ab_get O fl_X9_25 dX9_addOnPath_51 (at_57 _ _ _) rfl ?_
        refine ab_iload_n O 2 dX9_addOnPath_54 rfl rfl ?_
        refine ab_iald O dX9_addOnPath_55 (at_63 _ _ _) h.1 ?_
        have h := h.2
        refine ab_icmp_eq O 65 dX9_addOnPath_56 rfl (fun q13 => ?_) (fun q13 => ?_)
        · have h := h.1 q13
          refine ab_aload_n O 0 dX9_addOnPath_65 rfl rfl ?_
          refine ab_iload_n O 2 dX9_addOnPath_66 rfl rfl ?_
          refine ab_callvV O I.2.2.2.2.2.2 (fr := False) (st := []) lk_X9_97 rfl (at_57 _ _ _) dX9_addOnPath_67 (c_X9_roots (d - 1) (by omega) _ O.2.2.2.2.2.2.1 _ _ _ _ h) rfl rfl ⟨by rw [I.2.1]; show d - 1 + 1 ≤ d; omega, by rw [I.2.1]; show 8 + (_ + 11) + 36 * (d - 1) ≤ 36 * d; omega⟩ (show 0 ≤ 8 by decide) ⟨by rw [I.2.1]; show 0 + 0 ≤ 0; decide, by rw [I.2.1]; show 0 + 0 ≤ 0; decide⟩ (fun q => q.elim) (fun E u q => q.elim) (fun u hu => ?_)
          obtain ⟨V14, rfl, h⟩ := hu
          refine ab_iload_n O 1 dX9_addOnPath_70 rfl rfl ?_
          refine ab_istore O dX9_addOnPath_71 (show 4 < 5 by decide) ?_
          obtain ⟨n9, h⟩ := h
          refine ab_less (cl_X9_addOnPath_L73 hd (a0) (a2) O I (fun V17 x18 h => ?_) n9 (V14) (a0) h) (ab_le_s (ab_le_s (ab_le_n (ab_le_s (ab_le_s ab_le_0)))))
          refine ab_aload_n O 0 dX9_addOnPath_102 rfl rfl ?_
          refine ab_get O fl_X9_41 dX9_addOnPath_103 (at_57 _ _ _) rfl ?_
          refine ab_iload_n O 1 dX9_addOnPath_106 rfl rfl ?_
          refine ab_iald O dX9_addOnPath_107 (at_68 _ _ _) h.1 ?_
          have h := h.2
          refine ab_iconst O 1 dX9_addOnPath_108 rfl ?_
          refine ab_iadd O dX9_addOnPath_109 ?_
          exact ab_ireturn O I dX9_addOnPath_110 (by decide) (by decide) (by rfl) ⟨_, rfl, h⟩
        · have h := h.2 q13
          refine ab_aload_n O 0 dX9_addOnPath_59 rfl rfl ?_
          refine ab_iconst O 3 dX9_addOnPath_60 rfl ?_
          refine ab_callvI O I.2.2.2.2.2.2 (fr := False) (st := []) lk_X9_78 rfl (at_57 _ _ _) dX9_addOnPath_61 (c_X9_fails (d - 1) (by omega) _ O.2.2.2.2.2.2.1 _ _ _ _ h) rfl rfl ⟨by rw [I.2.1]; show d - 1 + 1 ≤ d; omega, by rw [I.2.1]; show 8 + (_ + 11) + 36 * (d - 1) ≤ 36 * d; omega⟩ (show 0 ≤ 8 by decide) ⟨by rw [I.2.1]; show 0 + 0 ≤ 0; decide, by rw [I.2.1]; show 0 + 0 ≤ 0; decide⟩ (fun q => q.elim) (fun E u q => q.elim) (fun r20 u hu => ?_)
          obtain ⟨V19, rfl, h⟩ := hu
          exact ab_ireturn O I dX9_addOnPath_64 (by decide) (by decide) (by rfl) ⟨_, rfl, h⟩
      · have h := h.1 q12
        refine ab_aload_n O 0 dX9_addOnPath_38 rfl rfl ?_
        refine ab_iconst O 2 dX9_addOnPath_39 rfl ?_
        refine ab_callvI O I.2.2.2.2.2.2 (fr := False) (st := []) lk_X9_78 rfl (at_57 _ _ _) dX9_addOnPath_40 (c_X9_fails (d - 1) (by omega) _ O.2.2.2.2.2.2.1 _ _ _ _ h) rfl rfl ⟨by rw [I.2.1]; show d - 1 + 1 ≤ d; omega, by rw [I.2.1]; show 8 + (_ + 11) + 36 * (d - 1) ≤ 36 * d; omega⟩ (show 0 ≤ 8 by decide) ⟨by rw [I.2.1]; show 0 + 0 ≤ 0; decide, by rw [I.2.1]; show 0 + 0 ≤ 0; decide⟩ (fun q => q.elim) (fun E u q => q.elim) (fun r22 u hu => ?_)
        obtain ⟨V21, rfl, h⟩ := hu
        exact ab_ireturn O I dX9_addOnPath_43 (by decide) (by decide) (by rfl) ⟨_, rfl, h⟩
    · have h := h.1 q9
      refine ab_aload_n O 0 dX9_addOnPath_21 rfl rfl ?_
      refine ab_iconst O 1 dX9_addOnPath_22 rfl ?_
      refine ab_callvI O I.2.2.2.2.2.2 (fr := False) (st := []) lk_X9_78 rfl (at_57 _ _ _) dX9_addOnPath_23 (c_X9_fails (d - 1) (by omega) _ O.2.2.2.2.2.2.1 _ _ _ _ h) rfl rfl ⟨by rw [I.2.1]; show d - 1 + 1 ≤ d; omega, by rw [I.2.1]; show 8 + (_ + 11) + 36 * (d - 1) ≤ 36 * d; omega⟩ (show 0 ≤ 8 by decide) ⟨by rw [I.2.1]; show 0 + 0 ≤ 0; decide, by rw [I.2.1]; show 0 + 0 ≤ 0; decide⟩ (fun q => q.elim) (fun E u q => q.elim) (fun r24 u hu => ?_)
      obtain ⟨V23, rfl, h⟩ := hu
      exact ab_ireturn O I dX9_addOnPath_26 (by decide) (by decide) (by rfl) ⟨_, rfl, h⟩

def wp_X9_addVertex (V : Mm) (a0 : Int32) (post : Int32 → Mm → Prop) : Prop := (∀ V1 : Mm, V1 = wr V 57 0 0 → (wp_X9_isBetween V1 (a0) ((-99)) (99) (fun (r3 : Int32) (V2 : Mm) => ((r3 = 0 → (wp_X9_fails V2 (1) (fun (r12 : Int32) (V11 : Mm) => post r12 V11))) ∧ (¬ r3 = 0 → (((V2 57 9) = 20 → (wp_X9_fails V2 (2) (fun (r10 : Int32) (V9 : Mm) => post r10 V9))) ∧ (¬ (V2 57 9) = 20 → (vp_in (V2 57 9) 20 ∧ ∀ V6 : Mm, V6 = wr V2 58 (Int32.toNatClampNeg ((V2 57 9))) a0 → (∀ V7 : Mm, V7 = wr V6 57 9 ((V6 57 9) + 1) → (wp_X9_finds_ V7 (fun (V8 : Mm) => post ((V8 57 9) - 1) V8)))))))))))
set_option maxHeartbeats 4000000 in
theorem c_X9_addVertex (d : Nat) (hd : 4 ≤ d) (l : Launch) (hl : l.stackTraces = false) (g : ab_G) (o : Nat → Int64) (D : Nat → UInt64) (a0 : Int32) {V : Mm} {post : Int32 → Mm → Prop} (h : wp_X9_addVertex V a0 post) : Ct l g tk_strs False d 0 0 yX9_addVertex cX9_addVertex 2 (some .int) [.ref 57, .int a0] (SW V o D) (tk_I g (fun r u => ∃ V : Mm, u = SW V o D ∧ post r V)) (fun _ _ => False) := by
  refine ct_in (by decide +kernel) (show 2 ≤ 2 by decide) (by simp [Value.category]) hl (fun X I O _ => ?_)
  show Ab X g 0 0 _ 0 [some (.ref (57)), some (.int (a0))] [] _
  refine ab_aload_n O 0 dX9_addVertex_0 rfl rfl ?_
  refine ab_iconst O 0 dX9_addVertex_1 rfl ?_
  refine ab_put O fl_X9_53 cl_X9 dX9_addVertex_2 (at_57 _ _ _) rfl .int (by decide +kernel) (fun _ => rfl) (fun _ => rfl) (show 0 < 18 by decide) ?_
  refine ab_eq ?_ rfl rfl rfl (sf_57_0 _ _ _ _).symm
  obtain ⟨V1, eV1⟩ : ∃ z : Mm, z = wr V 57 0 0 := ⟨_, rfl⟩
  rw [← eV1]
  have h := h V1 eV1
  refine ab_iload_n O 1 dX9_addVertex_5 rfl rfl ?_
  refine ab_bipush O (-99) dX9_addVertex_6 rfl ?_
  refine ab_bipush O 99 dX9_addVertex_8 rfl ?_
  refine ab_callsI O I.2.2.2.2.2.2 (fr := False) (st := []) lk_X9_60 dX9_addVertex_10 (c_X9_isBetween (d - 1) (by omega) _ O.2.2.2.2.2.2.1 _ _ _ _ _ _ h) rfl rfl ⟨by rw [I.2.1]; show d - 1 + 1 ≤ d; omega, by rw [I.2.1]; show 8 + (_ + 11) + 36 * (d - 1) ≤ 36 * d; omega⟩ (show 0 ≤ 8 by decide) ⟨by rw [I.2.1]; show 0 + 0 ≤ 0; decide, by rw [I.2.1]; show 0 + 0 ≤ 0; decide⟩ (fun q => q.elim) (fun E u q => q.elim) (fun r3 u hu => ?_)
  obtain ⟨V2, rfl, h⟩ := hu
  refine ab_if_ne O 22 dX9_addVertex_13 rfl (fun q4 => ?_) (fun q4 => ?_)
  · have h := h.2 q4
    refine ab_aload_n O 0 dX9_addVertex_22 rfl rfl ?_
    refine ab_get O fl_X9_57 dX9_addVertex_23 (at_57 _ _ _) rfl ?_
    refine ab_bipush O 20 dX9_addVertex_26 rfl ?_
    refine ab_icmp_ne O 37 dX9_addVertex_28 rfl (fun q5 => ?_) (fun q5 => ?_)
    · have h := h.2 q5
      refine ab_aload_n O 0 dX9_addVertex_37 rfl rfl ?_
      refine ab_get O fl_X9_9 dX9_addVertex_38 (at_57 _ _ _) rfl ?_
      refine ab_aload_n O 0 dX9_addVertex_41 rfl rfl ?_
      refine ab_get O fl_X9_57 dX9_addVertex_42 (at_57 _ _ _) rfl ?_
      refine ab_iload_n O 1 dX9_addVertex_45 rfl rfl ?_
      refine ab_iast O dX9_addVertex_46 (at_58 _ _ _) h.1 ?_
      have h := h.2
      refine ab_eq ?_ rfl rfl rfl (sa_58 _ _ _ _ _).symm
      obtain ⟨V6, eV6⟩ : ∃ z : Mm, z = wr V2 58 (Int32.toNatClampNeg ((V2 57 9))) a0 := ⟨_, rfl⟩
      rw [← eV6]
      have h := h V6 eV6
      refine ab_aload_n O 0 dX9_addVertex_47 rfl rfl ?_
      refine ab_dup O dX9_addVertex_48 rfl ?_
      refine ab_get O fl_X9_57 dX9_addVertex_49 (at_57 _ _ _) rfl ?_
      refine ab_iconst O 1 dX9_addVertex_52 rfl ?_
      refine ab_iadd O dX9_addVertex_53 ?_
      refine ab_put O fl_X9_57 cl_X9 dX9_addVertex_54 (at_57 _ _ _) rfl .int (by decide +kernel) (fun _ => rfl) (fun _ => rfl) (show 9 < 18 by decide) ?_
      refine ab_eq ?_ rfl rfl rfl (sf_57_9 _ _ _ _).symm
      obtain ⟨V7, eV7⟩ : ∃ z : Mm, z = wr V6 57 9 ((V6 57 9) + 1) := ⟨_, rfl⟩
      rw [← eV7]
      have h := h V7 eV7
      refine ab_aload_n O 0 dX9_addVertex_57 rfl rfl ?_
      refine ab_callvV O I.2.2.2.2.2.2 (fr := False) (st := []) lk_X9_82 rfl (at_57 _ _ _) dX9_addVertex_58 (c_X9_finds_ (d - 1) (by omega) _ O.2.2.2.2.2.2.1 _ _ _ h) rfl rfl ⟨by rw [I.2.1]; show d - 1 + 1 ≤ d; omega, by rw [I.2.1]; show 8 + (_ + 11) + 36 * (d - 1) ≤ 36 * d; omega⟩ (show 0 ≤ 8 by decide) ⟨by rw [I.2.1]; show 0 + 0 ≤ 0; decide, by rw [I.2.1]; show 0 + 0 ≤ 0; decide⟩ (fun q => q.elim) (fun E u q => q.elim) (fun u hu => ?_)
      obtain ⟨V8, rfl, h⟩ := hu
      refine ab_aload_n O 0 dX9_addVertex_61 rfl rfl ?_
      refine ab_get O fl_X9_57 dX9_addVertex_62 (at_57 _ _ _) rfl ?_
      refine ab_iconst O 1 dX9_addVertex_65 rfl ?_
      refine ab_isub O dX9_addVertex_66 ?_
      exact ab_ireturn O I dX9_addVertex_67 (by decide) (by decide) (by rfl) ⟨_, rfl, h⟩
    · have h := h.1 q5
      refine ab_aload_n O 0 dX9_addVertex_31 rfl rfl ?_
      refine ab_iconst O 2 dX9_addVertex_32 rfl ?_
      refine ab_callvI O I.2.2.2.2.2.2 (fr := False) (st := []) lk_X9_78 rfl (at_57 _ _ _) dX9_addVertex_33 (c_X9_fails (d - 1) (by omega) _ O.2.2.2.2.2.2.1 _ _ _ _ h) rfl rfl ⟨by rw [I.2.1]; show d - 1 + 1 ≤ d; omega, by rw [I.2.1]; show 8 + (_ + 11) + 36 * (d - 1) ≤ 36 * d; omega⟩ (show 0 ≤ 8 by decide) ⟨by rw [I.2.1]; show 0 + 0 ≤ 0; decide, by rw [I.2.1]; show 0 + 0 ≤ 0; decide⟩ (fun q => q.elim) (fun E u q => q.elim) (fun r10 u hu => ?_)
      obtain ⟨V9, rfl, h⟩ := hu
      exact ab_ireturn O I dX9_addVertex_36 (by decide) (by decide) (by rfl) ⟨_, rfl, h⟩
  · have h := h.1 q4
    refine ab_aload_n O 0 dX9_addVertex_16 rfl rfl ?_
    refine ab_iconst O 1 dX9_addVertex_17 rfl ?_
    refine ab_callvI O I.2.2.2.2.2.2 (fr := False) (st := []) lk_X9_78 rfl (at_57 _ _ _) dX9_addVertex_18 (c_X9_fails (d - 1) (by omega) _ O.2.2.2.2.2.2.1 _ _ _ _ h) rfl rfl ⟨by rw [I.2.1]; show d - 1 + 1 ≤ d; omega, by rw [I.2.1]; show 8 + (_ + 11) + 36 * (d - 1) ≤ 36 * d; omega⟩ (show 0 ≤ 8 by decide) ⟨by rw [I.2.1]; show 0 + 0 ≤ 0; decide, by rw [I.2.1]; show 0 + 0 ≤ 0; decide⟩ (fun q => q.elim) (fun E u q => q.elim) (fun r12 u hu => ?_)
    obtain ⟨V11, rfl, h⟩ := hu
    exact ab_ireturn O I dX9_addVertex_21 (by decide) (by decide) (by rfl) ⟨_, rfl, h⟩

def wp_X9_isApart (V : Mm) (a0 a1 : Int32) (post : Int32 → Mm → Prop) : Prop := (∀ V1 : Mm, V1 = wr V 57 0 0 → (wp_X9_isVertex V1 (a0) (fun (r3 : Int32) (V2 : Mm) => ((r3 = 0 → (wp_X9_fails V2 (1) (fun (r6 : Int32) (V5 : Mm) => post 1 V5))) ∧ (¬ r3 = 0 → (wp_X9_isVertex V2 (a1) (fun (r8 : Int32) (V7 : Mm) => ((r8 = 0 → (wp_X9_fails V7 (1) (fun (r17 : Int32) (V16 : Mm) => post 1 V16))) ∧ (¬ r8 = 0 → (wp_X9_roots V7 (a0) (fun (V10 : Mm) => (vp_in a1 20 ∧ (((V10 67 (Int32.toNatClampNeg (a1))) = (-2) → (wp_X9_fails V10 (2) (fun (r14 : Int32) (V13 : Mm) => (((V13 57 0) ≤ 0 → post 0 V13) ∧ (¬ (V13 57 0) ≤ 0 → post 1 V13))))) ∧ (¬ (V10 67 (Int32.toNatClampNeg (a1))) = (-2) → (((V10 57 0) ≤ 0 → post 0 V10) ∧ (¬ (V10 57 0) ≤ 0 → post 1 V10))))))))))))))))
set_option maxHeartbeats 4000000 in
theorem c_X9_isApart (d : Nat) (hd : 2 ≤ d) (l : Launch) (hl : l.stackTraces = false) (g : ab_G) (o : Nat → Int64) (D : Nat → UInt64) (a0 : Int32) (a1 : Int32) {V : Mm} {post : Int32 → Mm → Prop} (h : wp_X9_isApart V a0 a1 post) : Ct l g tk_strs False d 0 0 yX9_isApart cX9_isApart 3 (some .boolean) [.ref 57, .int a0, .int a1] (SW V o D) (tk_I g (fun r u => ∃ V : Mm, u = SW V o D ∧ post r V)) (fun _ _ => False) := by
  refine ct_in (by decide +kernel) (show 3 ≤ 3 by decide) (by simp [Value.category]) hl (fun X I O _ => ?_)
  show Ab X g 0 0 _ 0 [some (.ref (57)), some (.int (a0)), some (.int (a1))] [] _
  refine ab_aload_n O 0 dX9_isApart_0 rfl rfl ?_
  refine ab_iconst O 0 dX9_isApart_1 rfl ?_
  refine ab_put O fl_X9_53 cl_X9 dX9_isApart_2 (at_57 _ _ _) rfl .int (by decide +kernel) (fun _ => rfl) (fun _ => rfl) (show 0 < 18 by decide) ?_
  refine ab_eq ?_ rfl rfl rfl (sf_57_0 _ _ _ _).symm
  obtain ⟨V1, eV1⟩ : ∃ z : Mm, z = wr V 57 0 0 := ⟨_, rfl⟩
  rw [← eV1]
  have h := h V1 eV1
  refine ab_aload_n O 0 dX9_isApart_5 rfl rfl ?_
  refine ab_iload_n O 1 dX9_isApart_6 rfl rfl ?_
  refine ab_callvI O I.2.2.2.2.2.2 (fr := False) (st := []) lk_X9_84 rfl (at_57 _ _ _) dX9_isApart_7 (c_X9_isVertex (d - 1) (by omega) _ O.2.2.2.2.2.2.1 _ _ _ _ h) rfl rfl ⟨by rw [I.2.1]; show d - 1 + 1 ≤ d; omega, by rw [I.2.1]; show 8 + (_ + 11) + 36 * (d - 1) ≤ 36 * d; omega⟩ (show 0 ≤ 8 by decide) ⟨by rw [I.2.1]; show 0 + 0 ≤ 0; decide, by rw [I.2.1]; show 0 + 0 ≤ 0; decide⟩ (fun q => q.elim) (fun E u q => q.elim) (fun r3 u hu => ?_)
  obtain ⟨V2, rfl, h⟩ := hu
  refine ab_if_eq O 21 dX9_isApart_10 rfl (fun q4 => ?_) (fun q4 => ?_)
  · have h := h.1 q4
    refine ab_aload_n O 0 dX9_isApart_21 rfl rfl ?_
    refine ab_iconst O 1 dX9_isApart_22 rfl ?_
    refine ab_callvI O I.2.2.2.2.2.2 (fr := False) (st := []) lk_X9_78 rfl (at_57 _ _ _) dX9_isApart_23 (c_X9_fails (d - 1) (by omega) _ O.2.2.2.2.2.2.1 _ _ _ _ h) rfl rfl ⟨by rw [I.2.1]; show d - 1 + 1 ≤ d; omega, by rw [I.2.1]; show 8 + (_ + 11) + 36 * (d - 1) ≤ 36 * d; omega⟩ (show 0 ≤ 8 by decide) ⟨by rw [I.2.1]; show 0 + 0 ≤ 0; decide, by rw [I.2.1]; show 0 + 0 ≤ 0; decide⟩ (fun q => q.elim) (fun E u q => q.elim) (fun r6 u hu => ?_)
    obtain ⟨V5, rfl, h⟩ := hu
    refine ab_pop O dX9_isApart_26 rfl ?_
    refine ab_iconst O 1 dX9_isApart_27 rfl ?_
    exact ab_ireturn O I dX9_isApart_28 (by decide) (by decide) (by rfl) ⟨_, rfl, h⟩
  · have h := h.2 q4
    refine ab_aload_n O 0 dX9_isApart_13 rfl rfl ?_
    refine ab_iload_n O 2 dX9_isApart_14 rfl rfl ?_
    refine ab_callvI O I.2.2.2.2.2.2 (fr := False) (st := []) lk_X9_84 rfl (at_57 _ _ _) dX9_isApart_15 (c_X9_isVertex (d - 1) (by omega) _ O.2.2.2.2.2.2.1 _ _ _ _ h) rfl rfl ⟨by rw [I.2.1]; show d - 1 + 1 ≤ d; omega, by rw [I.2.1]; show 8 + (_ + 11) + 36 * (d - 1) ≤ 36 * d; omega⟩ (show 0 ≤ 8 by decide) ⟨by rw [I.2.1]; show 0 + 0 ≤ 0; decide, by rw [I.2.1]; show 0 + 0 ≤ 0; decide⟩ (fun q => q.elim) (fun E u q => q.elim) (fun r8 u hu => ?_)
    obtain ⟨V7, rfl, h⟩ := hu
    refine ab_if_ne O 29 dX9_isApart_18 rfl (fun q9 => ?_) (fun q9 => ?_)
    · have h := h.2 q9
      refine ab_aload_n O 0 dX9_isApart_29 rfl rfl ?_
      refine ab_iload_n O 1 dX9_isApart_30 rfl rfl ?_
      refine ab_callvV O I.2.2.2.2.2.2 (fr := False) (st := []) lk_X9_97 rfl (at_57 _ _ _) dX9_isApart_31 (c_X9_roots (d - 1) (by omega) _ O.2.2.2.2.2.2.1 _ _ _ _ h) rfl rfl ⟨by rw [I.2.1]; show d - 1 + 1 ≤ d; omega, by rw [I.2.1]; show 8 + (_ + 11) + 36 * (d - 1) ≤ 36 * d; omega⟩ (show 0 ≤ 8 by decide) ⟨by rw [I.2.1]; show 0 + 0 ≤ 0; decide, by rw [I.2.1]; show 0 + 0 ≤ 0; decide⟩ (fun q => q.elim) (fun E u q => q.elim) (fun u hu => ?_)
      obtain ⟨V10, rfl, h⟩ := hu
      refine ab_aload_n O 0 dX9_isApart_34 rfl rfl ?_
      refine ab_get O fl_X9_38 dX9_isApart_35 (at_57 _ _ _) rfl ?_
      refine ab_iload_n O 2 dX9_isApart_38 rfl rfl ?_
      refine ab_iald O dX9_isApart_39 (at_67 _ _ _) h.1 ?_
      have h := h.2
      refine ab_bipush O (-2) dX9_isApart_40 rfl ?_
      refine ab_icmp_ne O 51 dX9_isApart_42 rfl (fun q11 => ?_) (fun q11 => ?_)
      · have h := h.2 q11
        refine ab_aload_n O 0 dX9_isApart_51 rfl rfl ?_
        refine ab_get O fl_X9_53 dX9_isApart_52 (at_57 _ _ _) rfl ?_
        refine ab_if_le O 62 dX9_isApart_55 rfl (fun q12 => ?_) (fun q12 => ?_)
        · have h := h.1 q12
          refine ab_iconst O 0 dX9_isApart_62 rfl ?_
          exact ab_ireturn O I dX9_isApart_63 (by decide) (by decide) (by rfl) ⟨_, rfl, h⟩
        · have h := h.2 q12
          refine ab_iconst O 1 dX9_isApart_58 rfl ?_
          refine ab_goto O 63 dX9_isApart_59 rfl ?_
          exact ab_ireturn O I dX9_isApart_63 (by decide) (by decide) (by rfl) ⟨_, rfl, h⟩
      · have h := h.1 q11
        refine ab_aload_n O 0 dX9_isApart_45 rfl rfl ?_
        refine ab_iconst O 2 dX9_isApart_46 rfl ?_
        refine ab_callvI O I.2.2.2.2.2.2 (fr := False) (st := []) lk_X9_78 rfl (at_57 _ _ _) dX9_isApart_47 (c_X9_fails (d - 1) (by omega) _ O.2.2.2.2.2.2.1 _ _ _ _ h) rfl rfl ⟨by rw [I.2.1]; show d - 1 + 1 ≤ d; omega, by rw [I.2.1]; show 8 + (_ + 11) + 36 * (d - 1) ≤ 36 * d; omega⟩ (show 0 ≤ 8 by decide) ⟨by rw [I.2.1]; show 0 + 0 ≤ 0; decide, by rw [I.2.1]; show 0 + 0 ≤ 0; decide⟩ (fun q => q.elim) (fun E u q => q.elim) (fun r14 u hu => ?_)
        obtain ⟨V13, rfl, h⟩ := hu
        refine ab_pop O dX9_isApart_50 rfl ?_
        refine ab_aload_n O 0 dX9_isApart_51 rfl rfl ?_
        refine ab_get O fl_X9_53 dX9_isApart_52 (at_57 _ _ _) rfl ?_
        refine ab_if_le O 62 dX9_isApart_55 rfl (fun q15 => ?_) (fun q15 => ?_)
        · have h := h.1 q15
          refine ab_iconst O 0 dX9_isApart_62 rfl ?_
          exact ab_ireturn O I dX9_isApart_63 (by decide) (by decide) (by rfl) ⟨_, rfl, h⟩
        · have h := h.2 q15
          refine ab_iconst O 1 dX9_isApart_58 rfl ?_
          refine ab_goto O 63 dX9_isApart_59 rfl ?_
          exact ab_ireturn O I dX9_isApart_63 (by decide) (by decide) (by rfl) ⟨_, rfl, h⟩
    · have h := h.1 q9
      refine ab_aload_n O 0 dX9_isApart_21 rfl rfl ?_
      refine ab_iconst O 1 dX9_isApart_22 rfl ?_
      refine ab_callvI O I.2.2.2.2.2.2 (fr := False) (st := []) lk_X9_78 rfl (at_57 _ _ _) dX9_isApart_23 (c_X9_fails (d - 1) (by omega) _ O.2.2.2.2.2.2.1 _ _ _ _ h) rfl rfl ⟨by rw [I.2.1]; show d - 1 + 1 ≤ d; omega, by rw [I.2.1]; show 8 + (_ + 11) + 36 * (d - 1) ≤ 36 * d; omega⟩ (show 0 ≤ 8 by decide) ⟨by rw [I.2.1]; show 0 + 0 ≤ 0; decide, by rw [I.2.1]; show 0 + 0 ≤ 0; decide⟩ (fun q => q.elim) (fun E u q => q.elim) (fun r17 u hu => ?_)
      obtain ⟨V16, rfl, h⟩ := hu
      refine ab_pop O dX9_isApart_26 rfl ?_
      refine ab_iconst O 1 dX9_isApart_27 rfl ?_
      exact ab_ireturn O I dX9_isApart_28 (by decide) (by decide) (by rfl) ⟨_, rfl, h⟩

def wp_X9_ancestor_L37 (y37_3 : Int32) (post : Int32 → Mm → Prop) (kx : Mm → Int32 → Int32 → Prop) : Nat → Mm → Int32 → Int32 → Prop
  | 0, _, _, _ => False
  | n37 + 1, V, x37_4, x37_5 => ((y37_3 ≤ x37_5 → kx (V) (x37_4) (x37_5)) ∧ (¬ y37_3 ≤ x37_5 → (vp_in x37_4 20 ∧ wp_X9_ancestor_L37 y37_3 post kx n37 (V) ((V 67 (Int32.toNatClampNeg (x37_4)))) ((x37_5 + (1))))))

def wp_X9_ancestor (V : Mm) (a0 a1 a2 : Int32) (post : Int32 → Mm → Prop) : Prop := (wp_X9_isApart V (a0) (a1) (fun (r2 : Int32) (V1 : Mm) => ((r2 = 0 → (vp_in a1 20 ∧ (wp_X9_isBetween V1 (a2) (0) ((V1 68 (Int32.toNatClampNeg (a1)))) (fun (r5 : Int32) (V4 : Mm) => ((r5 = 0 → (wp_X9_fails V4 (3) (fun (r12 : Int32) (V11 : Mm) => post r12 V11))) ∧ (¬ r5 = 0 → (∃ m37 : Nat, wp_X9_ancestor_L37 (a2) post (fun (V8 : Mm) (x9 : Int32) (x10 : Int32) => post x9 V8) m37 (V4) (a1) (0)))))))) ∧ (¬ r2 = 0 → post 0 V1))))
set_option maxHeartbeats 4000000 in
theorem cl_X9_ancestor_L37 {X : ab_M} {g : ab_G} {l : Launch} {d : Nat} (hd : 3 ≤ d) (y37_3 : Int32) {post : Int32 → Mm → Prop} {kx : Mm → Int32 → Int32 → Prop} {o : Nat → Int64} {D : Nat → UInt64} (O : ab_Ok X g cX9_ancestor RX9) (I : ab_I X l tk_strs 6 (some .int) yX9_ancestor.name d 0 0) (hk : ∀ (V : Mm) (x37_4 : Int32) (x37_5 : Int32), kx V x37_4 x37_5 → Ab X g 0 0 (tk_Q X g (tk_I g (fun r u => ∃ V : Mm, u = SW V o D ∧ post r V)) (fun _ _ => False) 0 0) 58 [none, none, none, none, some (.int (x37_4)), none] [] (SW V o D)) : ∀ (n : Nat) (V : Mm) (x37_4 : Int32) (x37_5 : Int32), wp_X9_ancestor_L37 y37_3 post kx n V x37_4 x37_5 → Ab X g 0 0 (tk_Q X g (tk_I g (fun r u => ∃ V : Mm, u = SW V o D ∧ post r V)) (fun _ _ => False) 0 0) 37 [some (.ref (57)), none, none, some (.int (y37_3)), some (.int (x37_4)), some (.int (x37_5))] [] (SW V o D) := by
  intro n
  induction n with
  | zero => intro V x37_4 x37_5 h; exact h.elim
  | succ n ih =>
    intro V x37_4 x37_5 h
    refine ab_iload O dX9_ancestor_37 rfl ?_
    refine ab_iload_n O 3 dX9_ancestor_39 rfl rfl ?_
    refine ab_icmp_ge O 58 dX9_ancestor_40 rfl (fun q7 => ?_) (fun q7 => ?_)
    · have h := h.1 q7
      exact ab_less (hk (V) (x37_4) (x37_5) h) (ab_le_n (ab_le_n (ab_le_n (ab_le_n (ab_le_s (ab_le_n ab_le_0))))))
    · have h := h.2 q7
      refine ab_aload_n O 0 dX9_ancestor_43 rfl rfl ?_
      refine ab_get O fl_X9_38 dX9_ancestor_44 (at_57 _ _ _) rfl ?_
      refine ab_iload O dX9_ancestor_47 rfl ?_
      refine ab_iald O dX9_ancestor_49 (at_67 _ _ _) h.1 ?_
      have h := h.2
      refine ab_istore O dX9_ancestor_50 (show 4 < 6 by decide) ?_
      refine ab_iinc O ((x37_5 + (1))) dX9_ancestor_52 rfl rfl ?_
      refine ab_goto O 37 dX9_ancestor_55 rfl ?_
      exact ab_less (ih (V) ((V 67 (Int32.toNatClampNeg (x37_4)))) ((x37_5 + (1))) h) (ab_le_s (ab_le_n (ab_le_n (ab_le_s (ab_le_s (ab_le_s ab_le_0))))))
set_option maxHeartbeats 4000000 in
theorem c_X9_ancestor (d : Nat) (hd : 3 ≤ d) (l : Launch) (hl : l.stackTraces = false) (g : ab_G) (o : Nat → Int64) (D : Nat → UInt64) (a0 : Int32) (a1 : Int32) (a2 : Int32) {V : Mm} {post : Int32 → Mm → Prop} (h : wp_X9_ancestor V a0 a1 a2 post) : Ct l g tk_strs False d 0 0 yX9_ancestor cX9_ancestor 6 (some .int) [.ref 57, .int a0, .int a1, .int a2] (SW V o D) (tk_I g (fun r u => ∃ V : Mm, u = SW V o D ∧ post r V)) (fun _ _ => False) := by
  refine ct_in (by decide +kernel) (show 4 ≤ 6 by decide) (by simp [Value.category]) hl (fun X I O _ => ?_)
  show Ab X g 0 0 _ 0 [some (.ref (57)), some (.int (a0)), some (.int (a1)), some (.int (a2)), none, none] [] _
  refine ab_aload_n O 0 dX9_ancestor_0 rfl rfl ?_
  refine ab_iload_n O 1 dX9_ancestor_1 rfl rfl ?_
  refine ab_iload_n O 2 dX9_ancestor_2 rfl rfl ?_
  refine ab_callvI O I.2.2.2.2.2.2 (fr := False) (st := []) lk_X9_117 rfl (at_57 _ _ _) dX9_ancestor_3 (c_X9_isApart (d - 1) (by omega) _ O.2.2.2.2.2.2.1 _ _ _ _ _ h) rfl rfl ⟨by rw [I.2.1]; show d - 1 + 1 ≤ d; omega, by rw [I.2.1]; show 8 + (_ + 11) + 36 * (d - 1) ≤ 36 * d; omega⟩ (show 0 ≤ 8 by decide) ⟨by rw [I.2.1]; show 0 + 0 ≤ 0; decide, by rw [I.2.1]; show 0 + 0 ≤ 0; decide⟩ (fun q => q.elim) (fun E u q => q.elim) (fun r2 u hu => ?_)
  obtain ⟨V1, rfl, h⟩ := hu
  refine ab_if_eq O 11 dX9_ancestor_6 rfl (fun q3 => ?_) (fun q3 => ?_)
  · have h := h.1 q3
    refine ab_iload_n O 3 dX9_ancestor_11 rfl rfl ?_
    refine ab_iconst O 0 dX9_ancestor_12 rfl ?_
    refine ab_aload_n O 0 dX9_ancestor_13 rfl rfl ?_
    refine ab_get O fl_X9_41 dX9_ancestor_14 (at_57 _ _ _) rfl ?_
    refine ab_iload_n O 2 dX9_ancestor_17 rfl rfl ?_
    refine ab_iald O dX9_ancestor_18 (at_68 _ _ _) h.1 ?_
    have h := h.2
    refine ab_callsI O I.2.2.2.2.2.2 (fr := False) (st := []) lk_X9_60 dX9_ancestor_19 (c_X9_isBetween (d - 1) (by omega) _ O.2.2.2.2.2.2.1 _ _ _ _ _ _ h) rfl rfl ⟨by rw [I.2.1]; show d - 1 + 1 ≤ d; omega, by rw [I.2.1]; show 8 + (_ + 11) + 36 * (d - 1) ≤ 36 * d; omega⟩ (show 0 ≤ 8 by decide) ⟨by rw [I.2.1]; show 0 + 0 ≤ 0; decide, by rw [I.2.1]; show 0 + 0 ≤ 0; decide⟩ (fun q => q.elim) (fun E u q => q.elim) (fun r5 u hu => ?_)
    obtain ⟨V4, rfl, h⟩ := hu
    refine ab_if_ne O 31 dX9_ancestor_22 rfl (fun q6 => ?_) (fun q6 => ?_)
    · have h := h.2 q6
      refine ab_iload_n O 2 dX9_ancestor_31 rfl rfl ?_
      refine ab_istore O dX9_ancestor_32 (show 4 < 6 by decide) ?_
      refine ab_iconst O 0 dX9_ancestor_34 rfl ?_
      refine ab_istore O dX9_ancestor_35 (show 5 < 6 by decide) ?_
      obtain ⟨n9, h⟩ := h
      refine ab_less (cl_X9_ancestor_L37 hd (a2) O I (fun V8 x9 x10 h => ?_) n9 (V4) (a1) (0) h) (ab_le_s (ab_le_n (ab_le_n (ab_le_s (ab_le_s (ab_le_s ab_le_0))))))
      refine ab_iload O dX9_ancestor_58 rfl ?_
      exact ab_ireturn O I dX9_ancestor_60 (by decide) (by decide) (by rfl) ⟨_, rfl, h⟩
    · have h := h.1 q6
      refine ab_aload_n O 0 dX9_ancestor_25 rfl rfl ?_
      refine ab_iconst O 3 dX9_ancestor_26 rfl ?_
      refine ab_callvI O I.2.2.2.2.2.2 (fr := False) (st := []) lk_X9_78 rfl (at_57 _ _ _) dX9_ancestor_27 (c_X9_fails (d - 1) (by omega) _ O.2.2.2.2.2.2.1 _ _ _ _ h) rfl rfl ⟨by rw [I.2.1]; show d - 1 + 1 ≤ d; omega, by rw [I.2.1]; show 8 + (_ + 11) + 36 * (d - 1) ≤ 36 * d; omega⟩ (show 0 ≤ 8 by decide) ⟨by rw [I.2.1]; show 0 + 0 ≤ 0; decide, by rw [I.2.1]; show 0 + 0 ≤ 0; decide⟩ (fun q => q.elim) (fun E u q => q.elim) (fun r12 u hu => ?_)
      obtain ⟨V11, rfl, h⟩ := hu
      exact ab_ireturn O I dX9_ancestor_30 (by decide) (by decide) (by rfl) ⟨_, rfl, h⟩
  · have h := h.2 q3
    refine ab_iconst O 0 dX9_ancestor_9 rfl ?_
    exact ab_ireturn O I dX9_ancestor_10 (by decide) (by decide) (by rfl) ⟨_, rfl, h⟩

def wp_X9_ancestorByWalk (V : Mm) (a0 a1 a2 : Int32) (post : Int32 → Mm → Prop) : Prop := (wp_X9_ancestor V (a0) (a1) (a2) (fun (r2 : Int32) (V1 : Mm) => post r2 V1))
set_option maxHeartbeats 4000000 in
theorem c_X9_ancestorByWalk (d : Nat) (hd : 4 ≤ d) (l : Launch) (hl : l.stackTraces = false) (g : ab_G) (o : Nat → Int64) (D : Nat → UInt64) (a0 : Int32) (a1 : Int32) (a2 : Int32) {V : Mm} {post : Int32 → Mm → Prop} (h : wp_X9_ancestorByWalk V a0 a1 a2 post) : Ct l g tk_strs False d 0 0 yX9_ancestorByWalk cX9_ancestorByWalk 4 (some .int) [.ref 57, .int a0, .int a1, .int a2] (SW V o D) (tk_I g (fun r u => ∃ V : Mm, u = SW V o D ∧ post r V)) (fun _ _ => False) := by
  refine ct_in (by decide +kernel) (show 4 ≤ 4 by decide) (by simp [Value.category]) hl (fun X I O _ => ?_)
  show Ab X g 0 0 _ 0 [some (.ref (57)), some (.int (a0)), some (.int (a1)), some (.int (a2))] [] _
  refine ab_aload_n O 0 dX9_ancestorByWalk_0 rfl rfl ?_
  refine ab_iload_n O 1 dX9_ancestorByWalk_1 rfl rfl ?_
  refine ab_iload_n O 2 dX9_ancestorByWalk_2 rfl rfl ?_
  refine ab_iload_n O 3 dX9_ancestorByWalk_3 rfl rfl ?_
  refine ab_callvI O I.2.2.2.2.2.2 (fr := False) (st := []) lk_X9_133 rfl (at_57 _ _ _) dX9_ancestorByWalk_4 (c_X9_ancestor (d - 1) (by omega) _ O.2.2.2.2.2.2.1 _ _ _ _ _ _ h) rfl rfl ⟨by rw [I.2.1]; show d - 1 + 1 ≤ d; omega, by rw [I.2.1]; show 8 + (_ + 11) + 36 * (d - 1) ≤ 36 * d; omega⟩ (show 0 ≤ 8 by decide) ⟨by rw [I.2.1]; show 0 + 0 ≤ 0; decide, by rw [I.2.1]; show 0 + 0 ≤ 0; decide⟩ (fun q => q.elim) (fun E u q => q.elim) (fun r2 u hu => ?_)
  obtain ⟨V1, rfl, h⟩ := hu
  exact ab_ireturn O I dX9_ancestorByWalk_7 (by decide) (by decide) (by rfl) ⟨_, rfl, h⟩

def wp_X9_joins (V : Mm) (a0 a1 a2 : Int32) (post : Int32 → Mm → Prop) : Prop := (vp_in a0 60 ∧ (((V 59 (Int32.toNatClampNeg (a0))) = a1 → (vp_in a0 60 ∧ (((V 60 (Int32.toNatClampNeg (a0))) = a2 → post 1 V) ∧ (¬ (V 60 (Int32.toNatClampNeg (a0))) = a2 → (vp_in a0 60 ∧ (((V 59 (Int32.toNatClampNeg (a0))) = a2 → (vp_in a0 60 ∧ (((V 60 (Int32.toNatClampNeg (a0))) = a1 → post 1 V) ∧ (¬ (V 60 (Int32.toNatClampNeg (a0))) = a1 → post 0 V)))) ∧ (¬ (V 59 (Int32.toNatClampNeg (a0))) = a2 → post 0 V))))))) ∧ (¬ (V 59 (Int32.toNatClampNeg (a0))) = a1 → (vp_in a0 60 ∧ (((V 59 (Int32.toNatClampNeg (a0))) = a2 → (vp_in a0 60 ∧ (((V 60 (Int32.toNatClampNeg (a0))) = a1 → post 1 V) ∧ (¬ (V 60 (Int32.toNatClampNeg (a0))) = a1 → post 0 V)))) ∧ (¬ (V 59 (Int32.toNatClampNeg (a0))) = a2 → post 0 V))))))
set_option maxHeartbeats 4000000 in
theorem c_X9_joins (d : Nat) (hd : 0 ≤ d) (l : Launch) (hl : l.stackTraces = false) (g : ab_G) (o : Nat → Int64) (D : Nat → UInt64) (a0 : Int32) (a1 : Int32) (a2 : Int32) {V : Mm} {post : Int32 → Mm → Prop} (h : wp_X9_joins V a0 a1 a2 post) : Ct l g tk_strs False d 0 0 yX9_joins cX9_joins 4 (some .boolean) [.ref 57, .int a0, .int a1, .int a2] (SW V o D) (tk_I g (fun r u => ∃ V : Mm, u = SW V o D ∧ post r V)) (fun _ _ => False) := by
  refine ct_in (by decide +kernel) (show 4 ≤ 4 by decide) (by simp [Value.category]) hl (fun X I O _ => ?_)
  show Ab X g 0 0 _ 0 [some (.ref (57)), some (.int (a0)), some (.int (a1)), some (.int (a2))] [] _
  refine ab_aload_n O 0 dX9_joins_0 rfl rfl ?_
  refine ab_get O fl_X9_13 dX9_joins_1 (at_57 _ _ _) rfl ?_
  refine ab_iload_n O 1 dX9_joins_4 rfl rfl ?_
  refine ab_iald O dX9_joins_5 (at_59 _ _ _) h.1 ?_
  have h := h.2
  refine ab_iload_n O 2 dX9_joins_6 rfl rfl ?_
  refine ab_icmp_ne O 20 dX9_joins_7 rfl (fun q1 => ?_) (fun q1 => ?_)
  · have h := h.2 q1
    refine ab_aload_n O 0 dX9_joins_20 rfl rfl ?_
    refine ab_get O fl_X9_13 dX9_joins_21 (at_57 _ _ _) rfl ?_
    refine ab_iload_n O 1 dX9_joins_24 rfl rfl ?_
    refine ab_iald O dX9_joins_25 (at_59 _ _ _) h.1 ?_
    have h := h.2
    refine ab_iload_n O 3 dX9_joins_26 rfl rfl ?_
    refine ab_icmp_ne O 44 dX9_joins_27 rfl (fun q2 => ?_) (fun q2 => ?_)
    · have h := h.2 q2
      refine ab_iconst O 0 dX9_joins_44 rfl ?_
      exact ab_ireturn O I dX9_joins_45 (by decide) (by decide) (by rfl) ⟨_, rfl, h⟩
    · have h := h.1 q2
      refine ab_aload_n O 0 dX9_joins_30 rfl rfl ?_
      refine ab_get O fl_X9_16 dX9_joins_31 (at_57 _ _ _) rfl ?_
      refine ab_iload_n O 1 dX9_joins_34 rfl rfl ?_
      refine ab_iald O dX9_joins_35 (at_60 _ _ _) h.1 ?_
      have h := h.2
      refine ab_iload_n O 2 dX9_joins_36 rfl rfl ?_
      refine ab_icmp_ne O 44 dX9_joins_37 rfl (fun q3 => ?_) (fun q3 => ?_)
      · have h := h.2 q3
        refine ab_iconst O 0 dX9_joins_44 rfl ?_
        exact ab_ireturn O I dX9_joins_45 (by decide) (by decide) (by rfl) ⟨_, rfl, h⟩
      · have h := h.1 q3
        refine ab_iconst O 1 dX9_joins_40 rfl ?_
        refine ab_goto O 45 dX9_joins_41 rfl ?_
        exact ab_ireturn O I dX9_joins_45 (by decide) (by decide) (by rfl) ⟨_, rfl, h⟩
  · have h := h.1 q1
    refine ab_aload_n O 0 dX9_joins_10 rfl rfl ?_
    refine ab_get O fl_X9_16 dX9_joins_11 (at_57 _ _ _) rfl ?_
    refine ab_iload_n O 1 dX9_joins_14 rfl rfl ?_
    refine ab_iald O dX9_joins_15 (at_60 _ _ _) h.1 ?_
    have h := h.2
    refine ab_iload_n O 3 dX9_joins_16 rfl rfl ?_
    refine ab_icmp_eq O 40 dX9_joins_17 rfl (fun q4 => ?_) (fun q4 => ?_)
    · have h := h.1 q4
      refine ab_iconst O 1 dX9_joins_40 rfl ?_
      refine ab_goto O 45 dX9_joins_41 rfl ?_
      exact ab_ireturn O I dX9_joins_45 (by decide) (by decide) (by rfl) ⟨_, rfl, h⟩
    · have h := h.2 q4
      refine ab_aload_n O 0 dX9_joins_20 rfl rfl ?_
      refine ab_get O fl_X9_13 dX9_joins_21 (at_57 _ _ _) rfl ?_
      refine ab_iload_n O 1 dX9_joins_24 rfl rfl ?_
      refine ab_iald O dX9_joins_25 (at_59 _ _ _) h.1 ?_
      have h := h.2
      refine ab_iload_n O 3 dX9_joins_26 rfl rfl ?_
      refine ab_icmp_ne O 44 dX9_joins_27 rfl (fun q5 => ?_) (fun q5 => ?_)
      · have h := h.2 q5
        refine ab_iconst O 0 dX9_joins_44 rfl ?_
        exact ab_ireturn O I dX9_joins_45 (by decide) (by decide) (by rfl) ⟨_, rfl, h⟩
      · have h := h.1 q5
        refine ab_aload_n O 0 dX9_joins_30 rfl rfl ?_
        refine ab_get O fl_X9_16 dX9_joins_31 (at_57 _ _ _) rfl ?_
        refine ab_iload_n O 1 dX9_joins_34 rfl rfl ?_
        refine ab_iald O dX9_joins_35 (at_60 _ _ _) h.1 ?_
        have h := h.2
        refine ab_iload_n O 2 dX9_joins_36 rfl rfl ?_
        refine ab_icmp_ne O 44 dX9_joins_37 rfl (fun q6 => ?_) (fun q6 => ?_)
        · have h := h.2 q6
          refine ab_iconst O 0 dX9_joins_44 rfl ?_
          exact ab_ireturn O I dX9_joins_45 (by decide) (by decide) (by rfl) ⟨_, rfl, h⟩
        · have h := h.1 q6
          refine ab_iconst O 1 dX9_joins_40 rfl ?_
          refine ab_goto O 45 dX9_joins_41 rfl ?_
          exact ab_ireturn O I dX9_joins_45 (by decide) (by decide) (by rfl) ⟨_, rfl, h⟩

def wp_X9_between_L5 (y5_1 y5_2 : Int32) (post : Int32 → Mm → Prop) (kx : Mm → Int32 → Int32 → Prop) : Nat → Mm → Int32 → Int32 → Prop
  | 0, _, _, _ => False
  | n5 + 1, V, x5_3, x5_4 => (((V 57 10) ≤ x5_4 → kx (V) (x5_3) (x5_4)) ∧ (¬ (V 57 10) ≤ x5_4 → (vp_in x5_4 60 ∧ (((V 65 (Int32.toNatClampNeg (x5_4))) = 0 → wp_X9_between_L5 y5_1 y5_2 post kx n5 (V) (x5_3) ((x5_4 + (1)))) ∧ (¬ (V 65 (Int32.toNatClampNeg (x5_4))) = 0 → (wp_X9_joins V (x5_4) (y5_1) (y5_2) (fun (r4 : Int32) (V3 : Mm) => ((r4 = 0 → wp_X9_between_L5 y5_1 y5_2 post kx n5 (V3) (x5_3) ((x5_4 + (1)))) ∧ (¬ r4 = 0 → wp_X9_between_L5 y5_1 y5_2 post kx n5 (V3) (x5_4) ((x5_4 + (1))))))))))))

def wp_X9_between (V : Mm) (a0 a1 : Int32) (post : Int32 → Mm → Prop) : Prop := (∃ m5 : Nat, wp_X9_between_L5 (a0) (a1) post (fun (V6 : Mm) (x7 : Int32) (x8 : Int32) => post x7 V6) m5 (V) ((-1)) (0))
set_option maxHeartbeats 4000000 in
theorem cl_X9_between_L5 {X : ab_M} {g : ab_G} {l : Launch} {d : Nat} (hd : 1 ≤ d) (y5_1 y5_2 : Int32) {post : Int32 → Mm → Prop} {kx : Mm → Int32 → Int32 → Prop} {o : Nat → Int64} {D : Nat → UInt64} (O : ab_Ok X g cX9_between RX9) (I : ab_I X l tk_strs 5 (some .int) yX9_between.name d 0 0) (hk : ∀ (V : Mm) (x5_3 : Int32) (x5_4 : Int32), kx V x5_3 x5_4 → Ab X g 0 0 (tk_Q X g (tk_I g (fun r u => ∃ V : Mm, u = SW V o D ∧ post r V)) (fun _ _ => False) 0 0) 44 [none, none, none, some (.int (x5_3)), none] [] (SW V o D)) : ∀ (n : Nat) (V : Mm) (x5_3 : Int32) (x5_4 : Int32), wp_X9_between_L5 y5_1 y5_2 post kx n V x5_3 x5_4 → Ab X g 0 0 (tk_Q X g (tk_I g (fun r u => ∃ V : Mm, u = SW V o D ∧ post r V)) (fun _ _ => False) 0 0) 5 [some (.ref (57)), some (.int (y5_1)), some (.int (y5_2)), some (.int (x5_3)), some (.int (x5_4))] [] (SW V o D) := by
  intro n
  induction n with
  | zero => intro V x5_3 x5_4 h; exact h.elim
  | succ n ih =>
    intro V x5_3 x5_4 h
    refine ab_iload O dX9_between_5 rfl ?_
    refine ab_aload_n O 0 dX9_between_7 rfl rfl ?_
    refine ab_get O fl_X9_64 dX9_between_8 (at_57 _ _ _) rfl ?_
    refine ab_icmp_ge O 44 dX9_between_11 rfl (fun q1 => ?_) (fun q1 => ?_)
    · have h := h.1 q1
      exact ab_less (hk (V) (x5_3) (x5_4) h) (ab_le_n (ab_le_n (ab_le_n (ab_le_s (ab_le_n ab_le_0)))))
    · have h := h.2 q1
      refine ab_aload_n O 0 dX9_between_14 rfl rfl ?_
      refine ab_get O fl_X9_32 dX9_between_15 (at_57 _ _ _) rfl ?_
      refine ab_iload O dX9_between_18 rfl ?_
      refine ab_zald O dX9_between_20 (at_65 _ _ _) h.1 ?_
      have h := h.2
      refine ab_if_eq O 38 dX9_between_21 rfl (fun q2 => ?_) (fun q2 => ?_)
      · have h := h.1 q2
        refine ab_iinc O ((x5_4 + (1))) dX9_between_38 rfl rfl ?_
        refine ab_goto O 5 dX9_between_41 rfl ?_
        exact ab_less (ih (V) (x5_3) ((x5_4 + (1))) h) (ab_le_s (ab_le_s (ab_le_s (ab_le_s (ab_le_s ab_le_0)))))
      · have h := h.2 q2
        refine ab_aload_n O 0 dX9_between_24 rfl rfl ?_
        refine ab_iload O dX9_between_25 rfl ?_
        refine ab_iload_n O 1 dX9_between_27 rfl rfl ?_
        refine ab_iload_n O 2 dX9_between_28 rfl rfl ?_
        refine ab_callvI O I.2.2.2.2.2.2 (fr := False) (st := []) lk_X9_101 rfl (at_57 _ _ _) dX9_between_29 (c_X9_joins (d - 1) (by omega) _ O.2.2.2.2.2.2.1 _ _ _ _ _ _ h) rfl rfl ⟨by rw [I.2.1]; show d - 1 + 1 ≤ d; omega, by rw [I.2.1]; show 8 + (_ + 11) + 36 * (d - 1) ≤ 36 * d; omega⟩ (show 0 ≤ 8 by decide) ⟨by rw [I.2.1]; show 0 + 0 ≤ 0; decide, by rw [I.2.1]; show 0 + 0 ≤ 0; decide⟩ (fun q => q.elim) (fun E u q => q.elim) (fun r4 u hu => ?_)
        obtain ⟨V3, rfl, h⟩ := hu
        refine ab_if_eq O 38 dX9_between_32 rfl (fun q5 => ?_) (fun q5 => ?_)
        · have h := h.1 q5
          refine ab_iinc O ((x5_4 + (1))) dX9_between_38 rfl rfl ?_
          refine ab_goto O 5 dX9_between_41 rfl ?_
          exact ab_less (ih (V3) (x5_3) ((x5_4 + (1))) h) (ab_le_s (ab_le_s (ab_le_s (ab_le_s (ab_le_s ab_le_0)))))
        · have h := h.2 q5
          refine ab_iload O dX9_between_35 rfl ?_
          refine ab_istore_n O 3 dX9_between_37 rfl (show 3 < 5 by decide) ?_
          refine ab_iinc O ((x5_4 + (1))) dX9_between_38 rfl rfl ?_
          refine ab_goto O 5 dX9_between_41 rfl ?_
          exact ab_less (ih (V3) (x5_4) ((x5_4 + (1))) h) (ab_le_s (ab_le_s (ab_le_s (ab_le_s (ab_le_s ab_le_0)))))
set_option maxHeartbeats 4000000 in
theorem c_X9_between (d : Nat) (hd : 1 ≤ d) (l : Launch) (hl : l.stackTraces = false) (g : ab_G) (o : Nat → Int64) (D : Nat → UInt64) (a0 : Int32) (a1 : Int32) {V : Mm} {post : Int32 → Mm → Prop} (h : wp_X9_between V a0 a1 post) : Ct l g tk_strs False d 0 0 yX9_between cX9_between 5 (some .int) [.ref 57, .int a0, .int a1] (SW V o D) (tk_I g (fun r u => ∃ V : Mm, u = SW V o D ∧ post r V)) (fun _ _ => False) := by
  refine ct_in (by decide +kernel) (show 3 ≤ 5 by decide) (by simp [Value.category]) hl (fun X I O _ => ?_)
  show Ab X g 0 0 _ 0 [some (.ref (57)), some (.int (a0)), some (.int (a1)), none, none] [] _
  refine ab_iconst O (-1) dX9_between_0 rfl ?_
  refine ab_istore_n O 3 dX9_between_1 rfl (show 3 < 5 by decide) ?_
  refine ab_iconst O 0 dX9_between_2 rfl ?_
  refine ab_istore O dX9_between_3 (show 4 < 5 by decide) ?_
  obtain ⟨n9, h⟩ := h
  refine ab_less (cl_X9_between_L5 hd (a0) (a1) O I (fun V6 x7 x8 h => ?_) n9 (V) ((-1)) (0) h) (ab_le_s (ab_le_s (ab_le_s (ab_le_s (ab_le_s ab_le_0)))))
  refine ab_iload_n O 3 dX9_between_44 rfl rfl ?_
  exact ab_ireturn O I dX9_between_45 (by decide) (by decide) (by rfl) ⟨_, rfl, h⟩

def wp_X9_common_L74 (post : Int32 → Mm → Prop) (kx : Mm → Int32 → Int32 → Prop) : Nat → Mm → Int32 → Int32 → Prop
  | 0, _, _, _ => False
  | n74 + 1, V, x74_4, x74_5 => ((x74_4 = x74_5 → kx (V) (x74_4) (x74_5)) ∧ (¬ x74_4 = x74_5 → (vp_in x74_4 20 ∧ (vp_in x74_5 20 ∧ (((V 68 (Int32.toNatClampNeg (x74_4))) < (V 68 (Int32.toNatClampNeg (x74_5))) → (vp_in x74_5 20 ∧ wp_X9_common_L74 post kx n74 (V) (x74_4) ((V 67 (Int32.toNatClampNeg (x74_5)))))) ∧ (¬ (V 68 (Int32.toNatClampNeg (x74_4))) < (V 68 (Int32.toNatClampNeg (x74_5))) → (vp_in x74_4 20 ∧ wp_X9_common_L74 post kx n74 (V) ((V 67 (Int32.toNatClampNeg (x74_4)))) (x74_5))))))))

def wp_X9_common (V : Mm) (a0 a1 a2 : Int32) (post : Int32 → Mm → Prop) : Prop := (∀ V1 : Mm, V1 = wr V 57 0 0 → (wp_X9_isVertex V1 (a0) (fun (r3 : Int32) (V2 : Mm) => ((r3 = 0 → (wp_X9_fails V2 (1) (fun (r6 : Int32) (V5 : Mm) => post r6 V5))) ∧ (¬ r3 = 0 → (wp_X9_isVertex V2 (a1) (fun (r8 : Int32) (V7 : Mm) => ((r8 = 0 → (wp_X9_fails V7 (1) (fun (r11 : Int32) (V10 : Mm) => post r11 V10))) ∧ (¬ r8 = 0 → (wp_X9_isVertex V7 (a2) (fun (r13 : Int32) (V12 : Mm) => ((r13 = 0 → (wp_X9_fails V12 (1) (fun (r28 : Int32) (V27 : Mm) => post r28 V27))) ∧ (¬ r13 = 0 → (wp_X9_roots V12 (a0) (fun (V15 : Mm) => (vp_in a1 20 ∧ (((V15 67 (Int32.toNatClampNeg (a1))) = (-2) → (wp_X9_fails V15 (2) (fun (r18 : Int32) (V17 : Mm) => post r18 V17))) ∧ (¬ (V15 67 (Int32.toNatClampNeg (a1))) = (-2) → (vp_in a2 20 ∧ (((V15 67 (Int32.toNatClampNeg (a2))) = (-2) → (wp_X9_fails V15 (2) (fun (r26 : Int32) (V25 : Mm) => post r26 V25))) ∧ (¬ (V15 67 (Int32.toNatClampNeg (a2))) = (-2) → (∃ m74 : Nat, wp_X9_common_L74 post (fun (V22 : Mm) (x23 : Int32) (x24 : Int32) => post x23 V22) m74 (V15) (a1) (a2)))))))))))))))))))))))
set_option maxHeartbeats 4000000 in
theorem cl_X9_common_L74 {X : ab_M} {g : ab_G} {l : Launch} {d : Nat} (hd : 2 ≤ d) {post : Int32 → Mm → Prop} {kx : Mm → Int32 → Int32 → Prop} {o : Nat → Int64} {D : Nat → UInt64} (O : ab_Ok X g cX9_common RX9) (I : ab_I X l tk_strs 6 (some .int) yX9_common.name d 0 0) (hk : ∀ (V : Mm) (x74_4 : Int32) (x74_5 : Int32), kx V x74_4 x74_5 → Ab X g 0 0 (tk_Q X g (tk_I g (fun r u => ∃ V : Mm, u = SW V o D ∧ post r V)) (fun _ _ => False) 0 0) 122 [none, none, none, none, some (.int (x74_4)), none] [] (SW V o D)) : ∀ (n : Nat) (V : Mm) (x74_4 : Int32) (x74_5 : Int32), wp_X9_common_L74 post kx n V x74_4 x74_5 → Ab X g 0 0 (tk_Q X g (tk_I g (fun r u => ∃ V : Mm, u = SW V o D ∧ post r V)) (fun _ _ => False) 0 0) 74 [some (.ref (57)), none, none, none, some (.int (x74_4)), some (.int (x74_5))] [] (SW V o D) := by
  intro n
  induction n with
  | zero => intro V x74_4 x74_5 h; exact h.elim
  | succ n ih =>
    intro V x74_4 x74_5 h
    refine ab_iload O dX9_common_74 rfl ?_
    refine ab_iload O dX9_common_76 rfl ?_
    refine ab_icmp_eq O 122 dX9_common_78 rfl (fun q20 => ?_) (fun q20 => ?_)
    · have h := h.1 q20
      exact ab_less (hk (V) (x74_4) (x74_5) h) (ab_le_n (ab_le_n (ab_le_n (ab_le_n (ab_le_s (ab_le_n ab_le_0))))))
    · have h := h.2 q20
      refine ab_aload_n O 0 dX9_common_81 rfl rfl ?_
      refine ab_get O fl_X9_41 dX9_common_82 (at_57 _ _ _) rfl ?_
      refine ab_iload O dX9_common_85 rfl ?_
      refine ab_iald O dX9_common_87 (at_68 _ _ _) h.1 ?_
      have h := h.2
      refine ab_aload_n O 0 dX9_common_88 rfl rfl ?_
      refine ab_get O fl_X9_41 dX9_common_89 (at_57 _ _ _) rfl ?_
      refine ab_iload O dX9_common_92 rfl ?_
      refine ab_iald O dX9_common_94 (at_68 _ _ _) h.1 ?_
      have h := h.2
      refine ab_icmp_lt O 110 dX9_common_95 rfl (fun q21 => ?_) (fun q21 => ?_)
      · have h := h.1 q21
        refine ab_aload_n O 0 dX9_common_110 rfl rfl ?_
        refine ab_get O fl_X9_38 dX9_common_111 (at_57 _ _ _) rfl ?_
        refine ab_iload O dX9_common_114 rfl ?_
        refine ab_iald O dX9_common_116 (at_67 _ _ _) h.1 ?_
        have h := h.2
        refine ab_istore O dX9_common_117 (show 5 < 6 by decide) ?_
        refine ab_goto O 74 dX9_common_119 rfl ?_
        exact ab_less (ih (V) (x74_4) ((V 67 (Int32.toNatClampNeg (x74_5)))) h) (ab_le_s (ab_le_n (ab_le_n (ab_le_n (ab_le_s (ab_le_s ab_le_0))))))
      · have h := h.2 q21
        refine ab_aload_n O 0 dX9_common_98 rfl rfl ?_
        refine ab_get O fl_X9_38 dX9_common_99 (at_57 _ _ _) rfl ?_
        refine ab_iload O dX9_common_102 rfl ?_
        refine ab_iald O dX9_common_104 (at_67 _ _ _) h.1 ?_
        have h := h.2
        refine ab_istore O dX9_common_105 (show 4 < 6 by decide) ?_
        refine ab_goto O 74 dX9_common_107 rfl ?_
        exact ab_less (ih (V) ((V 67 (Int32.toNatClampNeg (x74_4)))) (x74_5) h) (ab_le_s (ab_le_n (ab_le_n (ab_le_n (ab_le_s (ab_le_s ab_le_0))))))
set_option maxHeartbeats 4000000 in
theorem c_X9_common (d : Nat) (hd : 2 ≤ d) (l : Launch) (hl : l.stackTraces = false) (g : ab_G) (o : Nat → Int64) (D : Nat → UInt64) (a0 : Int32) (a1 : Int32) (a2 : Int32) {V : Mm} {post : Int32 → Mm → Prop} (h : wp_X9_common V a0 a1 a2 post) : Ct l g tk_strs False d 0 0 yX9_common cX9_common 6 (some .int) [.ref 57, .int a0, .int a1, .int a2] (SW V o D) (tk_I g (fun r u => ∃ V : Mm, u = SW V o D ∧ post r V)) (fun _ _ => False) := by
  refine ct_in (by decide +kernel) (show 4 ≤ 6 by decide) (by simp [Value.category]) hl (fun X I O _ => ?_)
  show Ab X g 0 0 _ 0 [some (.ref (57)), some (.int (a0)), some (.int (a1)), some (.int (a2)), none, none] [] _
  refine ab_aload_n O 0 dX9_common_0 rfl rfl ?_
  refine ab_iconst O 0 dX9_common_1 rfl ?_
  refine ab_put O fl_X9_53 cl_X9 dX9_common_2 (at_57 _ _ _) rfl .int (by decide +kernel) (fun _ => rfl) (fun _ => rfl) (show 0 < 18 by decide) ?_
  refine ab_eq ?_ rfl rfl rfl (sf_57_0 _ _ _ _).symm
  obtain ⟨V1, eV1⟩ : ∃ z : Mm, z = wr V 57 0 0 := ⟨_, rfl⟩
  rw [← eV1]
  have h := h V1 eV1
  refine ab_aload_n O 0 dX9_common_5 rfl rfl ?_
  refine ab_iload_n O 1 dX9_common_6 rfl rfl ?_
  refine ab_callvI O I.2.2.2.2.2.2 (fr := False) (st := []) lk_X9_84 rfl (at_57 _ _ _) dX9_common_7 (c_X9_isVertex (d - 1) (by omega) _ O.2.2.2.2.2.2.1 _ _ _ _ h) rfl rfl ⟨by rw [I.2.1]; show d - 1 + 1 ≤ d; omega, by rw [I.2.1]; show 8 + (_ + 11) + 36 * (d - 1) ≤ 36 * d; omega⟩ (show 0 ≤ 8 by decide) ⟨by rw [I.2.1]; show 0 + 0 ≤ 0; decide, by rw [I.2.1]; show 0 + 0 ≤ 0; decide⟩ (fun q => q.elim) (fun E u q => q.elim) (fun r3 u hu => ?_)
  obtain ⟨V2, rfl, h⟩ := hu
  refine ab_if_eq O 29 dX9_common_10 rfl (fun q4 => ?_) (fun q4 => ?_)
  · have h := h.1 q4
    refine ab_aload_n O 0 dX9_common_29 rfl rfl ?_
    refine ab_iconst O 1 dX9_common_30 rfl ?_
    refine ab_callvI O I.2.2.2.2.2.2 (fr := False) (st := []) lk_X9_78 rfl (at_57 _ _ _) dX9_common_31 (c_X9_fails (d - 1) (by omega) _ O.2.2.2.2.2.2.1 _ _ _ _ h) rfl rfl ⟨by rw [I.2.1]; show d - 1 + 1 ≤ d; omega, by rw [I.2.1]; show 8 + (_ + 11) + 36 * (d - 1) ≤ 36 * d; omega⟩ (show 0 ≤ 8 by decide) ⟨by rw [I.2.1]; show 0 + 0 ≤ 0; decide, by rw [I.2.1]; show 0 + 0 ≤ 0; decide⟩ (fun q => q.elim) (fun E u q => q.elim) (fun r6 u hu => ?_)
    obtain ⟨V5, rfl, h⟩ := hu
    exact ab_ireturn O I dX9_common_34 (by decide) (by decide) (by rfl) ⟨_, rfl, h⟩
  · have h := h.2 q4
    refine ab_aload_n O 0 dX9_common_13 rfl rfl ?_
    refine ab_iload_n O 2 dX9_common_14 rfl rfl ?_
    refine ab_callvI O I.2.2.2.2.2.2 (fr := False) (st := []) lk_X9_84 rfl (at_57 _ _ _) dX9_common_15 (c_X9_isVertex (d - 1) (by omega) _ O.2.2.2.2.2.2.1 _ _ _ _ h) rfl rfl ⟨by rw [I.2.1]; show d - 1 + 1 ≤ d; omega, by rw [I.2.1]; show 8 + (_ + 11) + 36 * (d - 1) ≤ 36 * d; omega⟩ (show 0 ≤ 8 by decide) ⟨by rw [I.2.1]; show 0 + 0 ≤ 0; decide, by rw [I.2.1]; show 0 + 0 ≤ 0; decide⟩ (fun q => q.elim) (fun E u q => q.elim) (fun r8 u hu => ?_)
    obtain ⟨V7, rfl, h⟩ := hu
    refine ab_if_eq O 29 dX9_common_18 rfl (fun q9 => ?_) (fun q9 => ?_)
    · have h := h.1 q9
      refine ab_aload_n O 0 dX9_common_29 rfl rfl ?_
      refine ab_iconst O 1 dX9_common_30 rfl ?_
      refine ab_callvI O I.2.2.2.2.2.2 (fr := False) (st := []) lk_X9_78 rfl (at_57 _ _ _) dX9_common_31 (c_X9_fails (d - 1) (by omega) _ O.2.2.2.2.2.2.1 _ _ _ _ h) rfl rfl ⟨by rw [I.2.1]; show d - 1 + 1 ≤ d; omega, by rw [I.2.1]; show 8 + (_ + 11) + 36 * (d - 1) ≤ 36 * d; omega⟩ (show 0 ≤ 8 by decide) ⟨by rw [I.2.1]; show 0 + 0 ≤ 0; decide, by rw [I.2.1]; show 0 + 0 ≤ 0; decide⟩ (fun q => q.elim) (fun E u q => q.elim) (fun r11 u hu => ?_)
      obtain ⟨V10, rfl, h⟩ := hu
      exact ab_ireturn O I dX9_common_34 (by decide) (by decide) (by rfl) ⟨_, rfl, h⟩
    · have h := h.2 q9
      refine ab_aload_n O 0 dX9_common_21 rfl rfl ?_
      refine ab_iload_n O 3 dX9_common_22 rfl rfl ?_
      refine ab_callvI O I.2.2.2.2.2.2 (fr := False) (st := []) lk_X9_84 rfl (at_57 _ _ _) dX9_common_23 (c_X9_isVertex (d - 1) (by omega) _ O.2.2.2.2.2.2.1 _ _ _ _ h) rfl rfl ⟨by rw [I.2.1]; show d - 1 + 1 ≤ d; omega, by rw [I.2.1]; show 8 + (_ + 11) + 36 * (d - 1) ≤ 36 * d; omega⟩ (show 0 ≤ 8 by decide) ⟨by rw [I.2.1]; show 0 + 0 ≤ 0; decide, by rw [I.2.1]; show 0 + 0 ≤ 0; decide⟩ (fun q => q.elim) (fun E u q => q.elim) (fun r13 u hu => ?_)
      obtain ⟨V12, rfl, h⟩ := hu
      refine ab_if_ne O 35 dX9_common_26 rfl (fun q14 => ?_) (fun q14 => ?_)
      · have h := h.2 q14
        refine ab_aload_n O 0 dX9_common_35 rfl rfl ?_
        refine ab_iload_n O 1 dX9_common_36 rfl rfl ?_
        refine ab_callvV O I.2.2.2.2.2.2 (fr := False) (st := []) lk_X9_97 rfl (at_57 _ _ _) dX9_common_37 (c_X9_roots (d - 1) (by omega) _ O.2.2.2.2.2.2.1 _ _ _ _ h) rfl rfl ⟨by rw [I.2.1]; show d - 1 + 1 ≤ d; omega, by rw [I.2.1]; show 8 + (_ + 11) + 36 * (d - 1) ≤ 36 * d; omega⟩ (show 0 ≤ 8 by decide) ⟨by rw [I.2.1]; show 0 + 0 ≤ 0; decide, by rw [I.2.1]; show 0 + 0 ≤ 0; decide⟩ (fun q => q.elim) (fun E u q => q.elim) (fun u hu => ?_)
        obtain ⟨V15, rfl, h⟩ := hu
        refine ab_aload_n O 0 dX9_common_40 rfl rfl ?_
        refine ab_get O fl_X9_38 dX9_common_41 (at_57 _ _ _) rfl ?_
        refine ab_iload_n O 2 dX9_common_44 rfl rfl ?_
        refine ab_iald O dX9_common_45 (at_67 _ _ _) h.1 ?_
        have h := h.2
        refine ab_bipush O (-2) dX9_common_46 rfl ?_
        refine ab_icmp_eq O 62 dX9_common_48 rfl (fun q16 => ?_) (fun q16 => ?_)
        · have h := h.1 q16
          refine ab_aload_n O 0 dX9_common_62 rfl rfl ?_
          refine ab_iconst O 2 dX9_common_63 rfl ?_
          refine ab_callvI O I.2.2.2.2.2.2 (fr := False) (st := []) lk_X9_78 rfl (at_57 _ _ _) dX9_common_64 (c_X9_fails (d - 1) (by omega) _ O.2.2.2.2.2.2.1 _ _ _ _ h) rfl rfl ⟨by rw [I.2.1]; show d - 1 + 1 ≤ d; omega, by rw [I.2.1]; show 8 + (_ + 11) + 36 * (d - 1) ≤ 36 * d; omega⟩ (show 0 ≤ 8 by decide) ⟨by rw [I.2.1]; show 0 + 0 ≤ 0; decide, by rw [I.2.1]; show 0 + 0 ≤ 0; decide⟩ (fun q => q.elim) (fun E u q => q.elim) (fun r18 u hu => ?_)
          obtain ⟨V17, rfl, h⟩ := hu
          exact ab_ireturn O I dX9_common_67 (by decide) (by decide) (by rfl) ⟨_, rfl, h⟩
        · have h := h.2 q16
          refine ab_aload_n O 0 dX9_common_51 rfl rfl ?_
          refine ab_get O fl_X9_38 dX9_common_52 (at_57 _ _ _) rfl ?_
          refine ab_iload_n O 3 dX9_common_55 rfl rfl ?_
          refine ab_iald O dX9_common_56 (at_67 _ _ _) h.1 ?_
          have h := h.2
          refine ab_bipush O (-2) dX9_common_57 rfl ?_
          refine ab_icmp_ne O 68 dX9_common_59 rfl (fun q19 => ?_) (fun q19 => ?_)
          · have h := h.2 q19
            refine ab_iload_n O 2 dX9_common_68 rfl rfl ?_
            refine ab_istore O dX9_common_69 (show 4 < 6 by decide) ?_
            refine ab_iload_n O 3 dX9_common_71 rfl rfl ?_
            refine ab_istore O dX9_common_72 (show 5 < 6 by decide) ?_
            obtain ⟨n9, h⟩ := h
            refine ab_less (cl_X9_common_L74 hd O I (fun V22 x23 x24 h => ?_) n9 (V15) (a1) (a2) h) (ab_le_s (ab_le_n (ab_le_n (ab_le_n (ab_le_s (ab_le_s ab_le_0))))))
            refine ab_iload O dX9_common_122 rfl ?_
            exact ab_ireturn O I dX9_common_124 (by decide) (by decide) (by rfl) ⟨_, rfl, h⟩
          · have h := h.1 q19
            refine ab_aload_n O 0 dX9_common_62 rfl rfl ?_
            refine ab_iconst O 2 dX9_common_63 rfl ?_
            refine ab_callvI O I.2.2.2.2.2.2 (fr := False) (st := []) lk_X9_78 rfl (at_57 _ _ _) dX9_common_64 (c_X9_fails (d - 1) (by omega) _ O.2.2.2.2.2.2.1 _ _ _ _ h) rfl rfl ⟨by rw [I.2.1]; show d - 1 + 1 ≤ d; omega, by rw [I.2.1]; show 8 + (_ + 11) + 36 * (d - 1) ≤ 36 * d; omega⟩ (show 0 ≤ 8 by decide) ⟨by rw [I.2.1]; show 0 + 0 ≤ 0; decide, by rw [I.2.1]; show 0 + 0 ≤ 0; decide⟩ (fun q => q.elim) (fun E u q => q.elim) (fun r26 u hu => ?_)
            obtain ⟨V25, rfl, h⟩ := hu
            exact ab_ireturn O I dX9_common_67 (by decide) (by decide) (by rfl) ⟨_, rfl, h⟩
      · have h := h.1 q14
        refine ab_aload_n O 0 dX9_common_29 rfl rfl ?_
        refine ab_iconst O 1 dX9_common_30 rfl ?_
        refine ab_callvI O I.2.2.2.2.2.2 (fr := False) (st := []) lk_X9_78 rfl (at_57 _ _ _) dX9_common_31 (c_X9_fails (d - 1) (by omega) _ O.2.2.2.2.2.2.1 _ _ _ _ h) rfl rfl ⟨by rw [I.2.1]; show d - 1 + 1 ≤ d; omega, by rw [I.2.1]; show 8 + (_ + 11) + 36 * (d - 1) ≤ 36 * d; omega⟩ (show 0 ≤ 8 by decide) ⟨by rw [I.2.1]; show 0 + 0 ≤ 0; decide, by rw [I.2.1]; show 0 + 0 ≤ 0; decide⟩ (fun q => q.elim) (fun E u q => q.elim) (fun r28 u hu => ?_)
        obtain ⟨V27, rfl, h⟩ := hu
        exact ab_ireturn O I dX9_common_34 (by decide) (by decide) (by rfl) ⟨_, rfl, h⟩

def wp_X9_commonByWalk (V : Mm) (a0 a1 a2 : Int32) (post : Int32 → Mm → Prop) : Prop := (wp_X9_common V (a0) (a1) (a2) (fun (r2 : Int32) (V1 : Mm) => post r2 V1))
set_option maxHeartbeats 4000000 in
theorem c_X9_commonByWalk (d : Nat) (hd : 3 ≤ d) (l : Launch) (hl : l.stackTraces = false) (g : ab_G) (o : Nat → Int64) (D : Nat → UInt64) (a0 : Int32) (a1 : Int32) (a2 : Int32) {V : Mm} {post : Int32 → Mm → Prop} (h : wp_X9_commonByWalk V a0 a1 a2 post) : Ct l g tk_strs False d 0 0 yX9_commonByWalk cX9_commonByWalk 4 (some .int) [.ref 57, .int a0, .int a1, .int a2] (SW V o D) (tk_I g (fun r u => ∃ V : Mm, u = SW V o D ∧ post r V)) (fun _ _ => False) := by
  refine ct_in (by decide +kernel) (show 4 ≤ 4 by decide) (by simp [Value.category]) hl (fun X I O _ => ?_)
  show Ab X g 0 0 _ 0 [some (.ref (57)), some (.int (a0)), some (.int (a1)), some (.int (a2))] [] _
  refine ab_aload_n O 0 dX9_commonByWalk_0 rfl rfl ?_
  refine ab_iload_n O 1 dX9_commonByWalk_1 rfl rfl ?_
  refine ab_iload_n O 2 dX9_commonByWalk_2 rfl rfl ?_
  refine ab_iload_n O 3 dX9_commonByWalk_3 rfl rfl ?_
  refine ab_callvI O I.2.2.2.2.2.2 (fr := False) (st := []) lk_X9_137 rfl (at_57 _ _ _) dX9_commonByWalk_4 (c_X9_common (d - 1) (by omega) _ O.2.2.2.2.2.2.1 _ _ _ _ _ _ h) rfl rfl ⟨by rw [I.2.1]; show d - 1 + 1 ≤ d; omega, by rw [I.2.1]; show 8 + (_ + 11) + 36 * (d - 1) ≤ 36 * d; omega⟩ (show 0 ≤ 8 by decide) ⟨by rw [I.2.1]; show 0 + 0 ≤ 0; decide, by rw [I.2.1]; show 0 + 0 ≤ 0; decide⟩ (fun q => q.elim) (fun E u q => q.elim) (fun r2 u hu => ?_)
  obtain ⟨V1, rfl, h⟩ := hu
  exact ab_ireturn O I dX9_commonByWalk_7 (by decide) (by decide) (by rfl) ⟨_, rfl, h⟩

def wp_X9_isNeighbour_L2 (y2_1 y2_2 : Int32) (post : Int32 → Mm → Prop) (kx : Mm → Int32 → Prop) : Nat → Mm → Int32 → Prop
  | 0, _, _ => False
  | n2 + 1, V, x2_3 => (((V 57 10) ≤ x2_3 → kx (V) (x2_3)) ∧ (¬ (V 57 10) ≤ x2_3 → (vp_in x2_3 60 ∧ (((V 65 (Int32.toNatClampNeg (x2_3))) = 0 → wp_X9_isNeighbour_L2 y2_1 y2_2 post kx n2 (V) ((x2_3 + (1)))) ∧ (¬ (V 65 (Int32.toNatClampNeg (x2_3))) = 0 → (wp_X9_joins V (x2_3) (y2_1) (y2_2) (fun (r4 : Int32) (V3 : Mm) => ((r4 = 0 → wp_X9_isNeighbour_L2 y2_1 y2_2 post kx n2 (V3) ((x2_3 + (1)))) ∧ (¬ r4 = 0 → post 1 V3)))))))))

def wp_X9_isNeighbour (V : Mm) (a0 a1 : Int32) (post : Int32 → Mm → Prop) : Prop := (∃ m2 : Nat, wp_X9_isNeighbour_L2 (a0) (a1) post (fun (V6 : Mm) (x7 : Int32) => post 0 V6) m2 (V) (0))
set_option maxHeartbeats 4000000 in
theorem cl_X9_isNeighbour_L2 {X : ab_M} {g : ab_G} {l : Launch} {d : Nat} (hd : 1 ≤ d) (y2_1 y2_2 : Int32) {post : Int32 → Mm → Prop} {kx : Mm → Int32 → Prop} {o : Nat → Int64} {D : Nat → UInt64} (O : ab_Ok X g cX9_isNeighbour RX9) (I : ab_I X l tk_strs 4 (some .boolean) yX9_isNeighbour.name d 0 0) (hk : ∀ (V : Mm) (x2_3 : Int32), kx V x2_3 → Ab X g 0 0 (tk_Q X g (tk_I g (fun r u => ∃ V : Mm, u = SW V o D ∧ post r V)) (fun _ _ => False) 0 0) 37 [none, none, none, none] [] (SW V o D)) : ∀ (n : Nat) (V : Mm) (x2_3 : Int32), wp_X9_isNeighbour_L2 y2_1 y2_2 post kx n V x2_3 → Ab X g 0 0 (tk_Q X g (tk_I g (fun r u => ∃ V : Mm, u = SW V o D ∧ post r V)) (fun _ _ => False) 0 0) 2 [some (.ref (57)), some (.int (y2_1)), some (.int (y2_2)), some (.int (x2_3))] [] (SW V o D) := by
  intro n
  induction n with
  | zero => intro V x2_3 h; exact h.elim
  | succ n ih =>
    intro V x2_3 h
    refine ab_iload_n O 3 dX9_isNeighbour_2 rfl rfl ?_
    refine ab_aload_n O 0 dX9_isNeighbour_3 rfl rfl ?_
    refine ab_get O fl_X9_64 dX9_isNeighbour_4 (at_57 _ _ _) rfl ?_
    refine ab_icmp_ge O 37 dX9_isNeighbour_7 rfl (fun q1 => ?_) (fun q1 => ?_)
    · have h := h.1 q1
      exact ab_less (hk (V) (x2_3) h) (ab_le_n (ab_le_n (ab_le_n (ab_le_n ab_le_0))))
    · have h := h.2 q1
      refine ab_aload_n O 0 dX9_isNeighbour_10 rfl rfl ?_
      refine ab_get O fl_X9_32 dX9_isNeighbour_11 (at_57 _ _ _) rfl ?_
      refine ab_iload_n O 3 dX9_isNeighbour_14 rfl rfl ?_
      refine ab_zald O dX9_isNeighbour_15 (at_65 _ _ _) h.1 ?_
      have h := h.2
      refine ab_if_eq O 31 dX9_isNeighbour_16 rfl (fun q2 => ?_) (fun q2 => ?_)
      · have h := h.1 q2
        refine ab_iinc O ((x2_3 + (1))) dX9_isNeighbour_31 rfl rfl ?_
        refine ab_goto O 2 dX9_isNeighbour_34 rfl ?_
        exact ab_less (ih (V) ((x2_3 + (1))) h) (ab_le_s (ab_le_s (ab_le_s (ab_le_s ab_le_0))))
      · have h := h.2 q2
        refine ab_aload_n O 0 dX9_isNeighbour_19 rfl rfl ?_
        refine ab_iload_n O 3 dX9_isNeighbour_20 rfl rfl ?_
        refine ab_iload_n O 1 dX9_isNeighbour_21 rfl rfl ?_
        refine ab_iload_n O 2 dX9_isNeighbour_22 rfl rfl ?_
        refine ab_callvI O I.2.2.2.2.2.2 (fr := False) (st := []) lk_X9_101 rfl (at_57 _ _ _) dX9_isNeighbour_23 (c_X9_joins (d - 1) (by omega) _ O.2.2.2.2.2.2.1 _ _ _ _ _ _ h) rfl rfl ⟨by rw [I.2.1]; show d - 1 + 1 ≤ d; omega, by rw [I.2.1]; show 8 + (_ + 11) + 36 * (d - 1) ≤ 36 * d; omega⟩ (show 0 ≤ 8 by decide) ⟨by rw [I.2.1]; show 0 + 0 ≤ 0; decide, by rw [I.2.1]; show 0 + 0 ≤ 0; decide⟩ (fun q => q.elim) (fun E u q => q.elim) (fun r4 u hu => ?_)
        obtain ⟨V3, rfl, h⟩ := hu
        refine ab_if_eq O 31 dX9_isNeighbour_26 rfl (fun q5 => ?_) (fun q5 => ?_)
        · have h := h.1 q5
          refine ab_iinc O ((x2_3 + (1))) dX9_isNeighbour_31 rfl rfl ?_
          refine ab_goto O 2 dX9_isNeighbour_34 rfl ?_
          exact ab_less (ih (V3) ((x2_3 + (1))) h) (ab_le_s (ab_le_s (ab_le_s (ab_le_s ab_le_0))))
        · have h := h.2 q5
          refine ab_iconst O 1 dX9_isNeighbour_29 rfl ?_
          exact ab_ireturn O I dX9_isNeighbour_30 (by decide) (by decide) (by rfl) ⟨_, rfl, h⟩
set_option maxHeartbeats 4000000 in
theorem c_X9_isNeighbour (d : Nat) (hd : 1 ≤ d) (l : Launch) (hl : l.stackTraces = false) (g : ab_G) (o : Nat → Int64) (D : Nat → UInt64) (a0 : Int32) (a1 : Int32) {V : Mm} {post : Int32 → Mm → Prop} (h : wp_X9_isNeighbour V a0 a1 post) : Ct l g tk_strs False d 0 0 yX9_isNeighbour cX9_isNeighbour 4 (some .boolean) [.ref 57, .int a0, .int a1] (SW V o D) (tk_I g (fun r u => ∃ V : Mm, u = SW V o D ∧ post r V)) (fun _ _ => False) := by
  refine ct_in (by decide +kernel) (show 3 ≤ 4 by decide) (by simp [Value.category]) hl (fun X I O _ => ?_)
  show Ab X g 0 0 _ 0 [some (.ref (57)), some (.int (a0)), some (.int (a1)), none] [] _
  refine ab_iconst O 0 dX9_isNeighbour_0 rfl ?_
  refine ab_istore_n O 3 dX9_isNeighbour_1 rfl (show 3 < 4 by decide) ?_
  obtain ⟨n9, h⟩ := h
  refine ab_less (cl_X9_isNeighbour_L2 hd (a0) (a1) O I (fun V6 x7 h => ?_) n9 (V) (0) h) (ab_le_s (ab_le_s (ab_le_s (ab_le_s ab_le_0))))
  refine ab_iconst O 0 dX9_isNeighbour_37 rfl ?_
  exact ab_ireturn O I dX9_isNeighbour_38 (by decide) (by decide) (by rfl) ⟨_, rfl, h⟩

def wp_X9_degree_L23 (y23_1 : Int32) (post : Int32 → Mm → Prop) (kx : Mm → Int32 → Int32 → Prop) : Nat → Mm → Int32 → Int32 → Prop
  | 0, _, _, _ => False
  | n23 + 1, V, x23_2, x23_3 => (((V 57 9) ≤ x23_3 → kx (V) (x23_2) (x23_3)) ∧ (¬ (V 57 9) ≤ x23_3 → (wp_X9_isNeighbour V (y23_1) (x23_3) (fun (r7 : Int32) (V6 : Mm) => ((r7 = 0 → wp_X9_degree_L23 y23_1 post kx n23 (V6) ((x23_2 + 0)) ((x23_3 + (1)))) ∧ (¬ r7 = 0 → wp_X9_degree_L23 y23_1 post kx n23 (V6) ((x23_2 + 1)) ((x23_3 + (1)))))))))

def wp_X9_degree (V : Mm) (a0 : Int32) (post : Int32 → Mm → Prop) : Prop := (∀ V1 : Mm, V1 = wr V 57 0 0 → (wp_X9_isVertex V1 (a0) (fun (r3 : Int32) (V2 : Mm) => ((r3 = 0 → (wp_X9_fails V2 (1) (fun (r13 : Int32) (V12 : Mm) => post r13 V12))) ∧ (¬ r3 = 0 → (∃ m23 : Nat, wp_X9_degree_L23 (a0) post (fun (V9 : Mm) (x10 : Int32) (x11 : Int32) => post x10 V9) m23 (V2) (0) (0)))))))
set_option maxHeartbeats 4000000 in
theorem cl_X9_degree_L23 {X : ab_M} {g : ab_G} {l : Launch} {d : Nat} (hd : 2 ≤ d) (y23_1 : Int32) {post : Int32 → Mm → Prop} {kx : Mm → Int32 → Int32 → Prop} {o : Nat → Int64} {D : Nat → UInt64} (O : ab_Ok X g cX9_degree RX9) (I : ab_I X l tk_strs 4 (some .int) yX9_degree.name d 0 0) (hk : ∀ (V : Mm) (x23_2 : Int32) (x23_3 : Int32), kx V x23_2 x23_3 → Ab X g 0 0 (tk_Q X g (tk_I g (fun r u => ∃ V : Mm, u = SW V o D ∧ post r V)) (fun _ _ => False) 0 0) 54 [none, none, some (.int (x23_2)), none] [] (SW V o D)) : ∀ (n : Nat) (V : Mm) (x23_2 : Int32) (x23_3 : Int32), wp_X9_degree_L23 y23_1 post kx n V x23_2 x23_3 → Ab X g 0 0 (tk_Q X g (tk_I g (fun r u => ∃ V : Mm, u = SW V o D ∧ post r V)) (fun _ _ => False) 0 0) 23 [some (.ref (57)), some (.int (y23_1)), some (.int (x23_2)), some (.int (x23_3))] [] (SW V o D) := by
  intro n
  induction n with
  | zero => intro V x23_2 x23_3 h; exact h.elim
  | succ n ih =>
    intro V x23_2 x23_3 h
    refine ab_iload_n O 3 dX9_degree_23 rfl rfl ?_
    refine ab_aload_n O 0 dX9_degree_24 rfl rfl ?_
    refine ab_get O fl_X9_57 dX9_degree_25 (at_57 _ _ _) rfl ?_
    refine ab_icmp_ge O 54 dX9_degree_28 rfl (fun q5 => ?_) (fun q5 => ?_)
    · have h := h.1 q5
      exact ab_less (hk (V) (x23_2) (x23_3) h) (ab_le_n (ab_le_n (ab_le_s (ab_le_n ab_le_0))))
    · have h := h.2 q5
      refine ab_iload_n O 2 dX9_degree_31 rfl rfl ?_
      refine ab_aload_n O 0 dX9_degree_32 rfl rfl ?_
      refine ab_iload_n O 1 dX9_degree_33 rfl rfl ?_
      refine ab_iload_n O 3 dX9_degree_34 rfl rfl ?_
      refine ab_callvI O I.2.2.2.2.2.2 (fr := False) (st := [.int (x23_2)]) lk_X9_108 rfl (at_57 _ _ _) dX9_degree_35 (c_X9_isNeighbour (d - 1) (by omega) _ O.2.2.2.2.2.2.1 _ _ _ _ _ h) rfl rfl ⟨by rw [I.2.1]; show d - 1 + 1 ≤ d; omega, by rw [I.2.1]; show 8 + (_ + 11) + 36 * (d - 1) ≤ 36 * d; omega⟩ (show 1 ≤ 8 by decide) ⟨by rw [I.2.1]; show 0 + 0 ≤ 0; decide, by rw [I.2.1]; show 0 + 0 ≤ 0; decide⟩ (fun q => q.elim) (fun E u q => q.elim) (fun r7 u hu => ?_)
      obtain ⟨V6, rfl, h⟩ := hu
      refine ab_if_eq O 45 dX9_degree_38 rfl (fun q8 => ?_) (fun q8 => ?_)
      · have h := h.1 q8
        refine ab_iconst O 0 dX9_degree_45 rfl ?_
        refine ab_iadd O dX9_degree_46 ?_
        refine ab_istore_n O 2 dX9_degree_47 rfl (show 2 < 4 by decide) ?_
        refine ab_iinc O ((x23_3 + (1))) dX9_degree_48 rfl rfl ?_
        refine ab_goto O 23 dX9_degree_51 rfl ?_
        exact ab_less (ih (V6) ((x23_2 + 0)) ((x23_3 + (1))) h) (ab_le_s (ab_le_s (ab_le_s (ab_le_s ab_le_0))))
      · have h := h.2 q8
        refine ab_iconst O 1 dX9_degree_41 rfl ?_
        refine ab_goto O 46 dX9_degree_42 rfl ?_
        refine ab_iadd O dX9_degree_46 ?_
        refine ab_istore_n O 2 dX9_degree_47 rfl (show 2 < 4 by decide) ?_
        refine ab_iinc O ((x23_3 + (1))) dX9_degree_48 rfl rfl ?_
        refine ab_goto O 23 dX9_degree_51 rfl ?_
        exact ab_less (ih (V6) ((x23_2 + 1)) ((x23_3 + (1))) h) (ab_le_s (ab_le_s (ab_le_s (ab_le_s ab_le_0))))
set_option maxHeartbeats 4000000 in
theorem c_X9_degree (d : Nat) (hd : 2 ≤ d) (l : Launch) (hl : l.stackTraces = false) (g : ab_G) (o : Nat → Int64) (D : Nat → UInt64) (a0 : Int32) {V : Mm} {post : Int32 → Mm → Prop} (h : wp_X9_degree V a0 post) : Ct l g tk_strs False d 0 0 yX9_degree cX9_degree 4 (some .int) [.ref 57, .int a0] (SW V o D) (tk_I g (fun r u => ∃ V : Mm, u = SW V o D ∧ post r V)) (fun _ _ => False) := by
  refine ct_in (by decide +kernel) (show 2 ≤ 4 by decide) (by simp [Value.category]) hl (fun X I O _ => ?_)
  show Ab X g 0 0 _ 0 [some (.ref (57)), some (.int (a0)), none, none] [] _
  refine ab_aload_n O 0 dX9_degree_0 rfl rfl ?_
  refine ab_iconst O 0 dX9_degree_1 rfl ?_
  refine ab_put O fl_X9_53 cl_X9 dX9_degree_2 (at_57 _ _ _) rfl .int (by decide +kernel) (fun _ => rfl) (fun _ => rfl) (show 0 < 18 by decide) ?_
  refine ab_eq ?_ rfl rfl rfl (sf_57_0 _ _ _ _).symm
  obtain ⟨V1, eV1⟩ : ∃ z : Mm, z = wr V 57 0 0 := ⟨_, rfl⟩
  rw [← eV1]
  have h := h V1 eV1
  refine ab_aload_n O 0 dX9_degree_5 rfl rfl ?_
  refine ab_iload_n O 1 dX9_degree_6 rfl rfl ?_
  refine ab_callvI O I.2.2.2.2.2.2 (fr := False) (st := []) lk_X9_84 rfl (at_57 _ _ _) dX9_degree_7 (c_X9_isVertex (d - 1) (by omega) _ O.2.2.2.2.2.2.1 _ _ _ _ h) rfl rfl ⟨by rw [I.2.1]; show d - 1 + 1 ≤ d; omega, by rw [I.2.1]; show 8 + (_ + 11) + 36 * (d - 1) ≤ 36 * d; omega⟩ (show 0 ≤ 8 by decide) ⟨by rw [I.2.1]; show 0 + 0 ≤ 0; decide, by rw [I.2.1]; show 0 + 0 ≤ 0; decide⟩ (fun q => q.elim) (fun E u q => q.elim) (fun r3 u hu => ?_)
  obtain ⟨V2, rfl, h⟩ := hu
  refine ab_if_ne O 19 dX9_degree_10 rfl (fun q4 => ?_) (fun q4 => ?_)
  · have h := h.2 q4
    refine ab_iconst O 0 dX9_degree_19 rfl ?_
    refine ab_istore_n O 2 dX9_degree_20 rfl (show 2 < 4 by decide) ?_
    refine ab_iconst O 0 dX9_degree_21 rfl ?_
    refine ab_istore_n O 3 dX9_degree_22 rfl (show 3 < 4 by decide) ?_
    obtain ⟨n9, h⟩ := h
    refine ab_less (cl_X9_degree_L23 hd (a0) O I (fun V9 x10 x11 h => ?_) n9 (V2) (0) (0) h) (ab_le_s (ab_le_s (ab_le_s (ab_le_s ab_le_0))))
    refine ab_iload_n O 2 dX9_degree_54 rfl rfl ?_
    exact ab_ireturn O I dX9_degree_55 (by decide) (by decide) (by rfl) ⟨_, rfl, h⟩
  · have h := h.1 q4
    refine ab_aload_n O 0 dX9_degree_13 rfl rfl ?_
    refine ab_iconst O 1 dX9_degree_14 rfl ?_
    refine ab_callvI O I.2.2.2.2.2.2 (fr := False) (st := []) lk_X9_78 rfl (at_57 _ _ _) dX9_degree_15 (c_X9_fails (d - 1) (by omega) _ O.2.2.2.2.2.2.1 _ _ _ _ h) rfl rfl ⟨by rw [I.2.1]; show d - 1 + 1 ≤ d; omega, by rw [I.2.1]; show 8 + (_ + 11) + 36 * (d - 1) ≤ 36 * d; omega⟩ (show 0 ≤ 8 by decide) ⟨by rw [I.2.1]; show 0 + 0 ≤ 0; decide, by rw [I.2.1]; show 0 + 0 ≤ 0; decide⟩ (fun q => q.elim) (fun E u q => q.elim) (fun r13 u hu => ?_)
    obtain ⟨V12, rfl, h⟩ := hu
    exact ab_ireturn O I dX9_degree_18 (by decide) (by decide) (by rfl) ⟨_, rfl, h⟩

def wp_X9_depth (V : Mm) (a0 a1 : Int32) (post : Int32 → Mm → Prop) : Prop := (wp_X9_isApart V (a0) (a1) (fun (r2 : Int32) (V1 : Mm) => ((r2 = 0 → (vp_in a1 20 ∧ post (V1 68 (Int32.toNatClampNeg (a1))) V1)) ∧ (¬ r2 = 0 → post 0 V1))))
set_option maxHeartbeats 4000000 in
theorem c_X9_depth (d : Nat) (hd : 3 ≤ d) (l : Launch) (hl : l.stackTraces = false) (g : ab_G) (o : Nat → Int64) (D : Nat → UInt64) (a0 : Int32) (a1 : Int32) {V : Mm} {post : Int32 → Mm → Prop} (h : wp_X9_depth V a0 a1 post) : Ct l g tk_strs False d 0 0 yX9_depth cX9_depth 3 (some .int) [.ref 57, .int a0, .int a1] (SW V o D) (tk_I g (fun r u => ∃ V : Mm, u = SW V o D ∧ post r V)) (fun _ _ => False) := by
  refine ct_in (by decide +kernel) (show 3 ≤ 3 by decide) (by simp [Value.category]) hl (fun X I O _ => ?_)
  show Ab X g 0 0 _ 0 [some (.ref (57)), some (.int (a0)), some (.int (a1))] [] _
  refine ab_aload_n O 0 dX9_depth_0 rfl rfl ?_
  refine ab_iload_n O 1 dX9_depth_1 rfl rfl ?_
  refine ab_iload_n O 2 dX9_depth_2 rfl rfl ?_
  refine ab_callvI O I.2.2.2.2.2.2 (fr := False) (st := []) lk_X9_117 rfl (at_57 _ _ _) dX9_depth_3 (c_X9_isApart (d - 1) (by omega) _ O.2.2.2.2.2.2.1 _ _ _ _ _ h) rfl rfl ⟨by rw [I.2.1]; show d - 1 + 1 ≤ d; omega, by rw [I.2.1]; show 8 + (_ + 11) + 36 * (d - 1) ≤ 36 * d; omega⟩ (show 0 ≤ 8 by decide) ⟨by rw [I.2.1]; show 0 + 0 ≤ 0; decide, by rw [I.2.1]; show 0 + 0 ≤ 0; decide⟩ (fun q => q.elim) (fun E u q => q.elim) (fun r2 u hu => ?_)
  obtain ⟨V1, rfl, h⟩ := hu
  refine ab_if_eq O 13 dX9_depth_6 rfl (fun q3 => ?_) (fun q3 => ?_)
  · have h := h.1 q3
    refine ab_aload_n O 0 dX9_depth_13 rfl rfl ?_
    refine ab_get O fl_X9_41 dX9_depth_14 (at_57 _ _ _) rfl ?_
    refine ab_iload_n O 2 dX9_depth_17 rfl rfl ?_
    refine ab_iald O dX9_depth_18 (at_68 _ _ _) h.1 ?_
    have h := h.2
    exact ab_ireturn O I dX9_depth_19 (by decide) (by decide) (by rfl) ⟨_, rfl, h⟩
  · have h := h.2 q3
    refine ab_iconst O 0 dX9_depth_9 rfl ?_
    refine ab_goto O 19 dX9_depth_10 rfl ?_
    exact ab_ireturn O I dX9_depth_19 (by decide) (by decide) (by rfl) ⟨_, rfl, h⟩

def wp_X9_diameter (V : Mm) (a0 : Int32) (post : Int32 → Mm → Prop) : Prop := (wp_X9_isApart V (a0) (a0) (fun (r2 : Int32) (V1 : Mm) => ((r2 = 0 → (vp_in ((V1 57 17) - 1) 20 ∧ (wp_X9_roots V1 ((V1 71 (Int32.toNatClampNeg (((V1 57 17) - 1))))) (fun (V4 : Mm) => (vp_in ((V4 57 17) - 1) 20 ∧ (vp_in (V4 71 (Int32.toNatClampNeg (((V4 57 17) - 1)))) 20 ∧ post (V4 68 (Int32.toNatClampNeg ((V4 71 (Int32.toNatClampNeg (((V4 57 17) - 1))))))) V4)))))) ∧ (¬ r2 = 0 → post 0 V1))))
set_option maxHeartbeats 4000000 in
theorem c_X9_diameter (d : Nat) (hd : 3 ≤ d) (l : Launch) (hl : l.stackTraces = false) (g : ab_G) (o : Nat → Int64) (D : Nat → UInt64) (a0 : Int32) {V : Mm} {post : Int32 → Mm → Prop} (h : wp_X9_diameter V a0 post) : Ct l g tk_strs False d 0 0 yX9_diameter cX9_diameter 2 (some .int) [.ref 57, .int a0] (SW V o D) (tk_I g (fun r u => ∃ V : Mm, u = SW V o D ∧ post r V)) (fun _ _ => False) := by
  refine ct_in (by decide +kernel) (show 2 ≤ 2 by decide) (by simp [Value.category]) hl (fun X I O _ => ?_)
  show Ab X g 0 0 _ 0 [some (.ref (57)), some (.int (a0))] [] _
  refine ab_aload_n O 0 dX9_diameter_0 rfl rfl ?_
  refine ab_iload_n O 1 dX9_diameter_1 rfl rfl ?_
  refine ab_iload_n O 1 dX9_diameter_2 rfl rfl ?_
  refine ab_callvI O I.2.2.2.2.2.2 (fr := False) (st := []) lk_X9_117 rfl (at_57 _ _ _) dX9_diameter_3 (c_X9_isApart (d - 1) (by omega) _ O.2.2.2.2.2.2.1 _ _ _ _ _ h) rfl rfl ⟨by rw [I.2.1]; show d - 1 + 1 ≤ d; omega, by rw [I.2.1]; show 8 + (_ + 11) + 36 * (d - 1) ≤ 36 * d; omega⟩ (show 0 ≤ 8 by decide) ⟨by rw [I.2.1]; show 0 + 0 ≤ 0; decide, by rw [I.2.1]; show 0 + 0 ≤ 0; decide⟩ (fun q => q.elim) (fun E u q => q.elim) (fun r2 u hu => ?_)
  obtain ⟨V1, rfl, h⟩ := hu
  refine ab_if_eq O 11 dX9_diameter_6 rfl (fun q3 => ?_) (fun q3 => ?_)
  · have h := h.1 q3
    refine ab_aload_n O 0 dX9_diameter_11 rfl rfl ?_
    refine ab_aload_n O 0 dX9_diameter_12 rfl rfl ?_
    refine ab_get O fl_X9_50 dX9_diameter_13 (at_57 _ _ _) rfl ?_
    refine ab_aload_n O 0 dX9_diameter_16 rfl rfl ?_
    refine ab_get O fl_X9_94 dX9_diameter_17 (at_57 _ _ _) rfl ?_
    refine ab_iconst O 1 dX9_diameter_20 rfl ?_
    refine ab_isub O dX9_diameter_21 ?_
    refine ab_iald O dX9_diameter_22 (at_71 _ _ _) h.1 ?_
    have h := h.2
    refine ab_callvV O I.2.2.2.2.2.2 (fr := False) (st := []) lk_X9_97 rfl (at_57 _ _ _) dX9_diameter_23 (c_X9_roots (d - 1) (by omega) _ O.2.2.2.2.2.2.1 _ _ _ _ h) rfl rfl ⟨by rw [I.2.1]; show d - 1 + 1 ≤ d; omega, by rw [I.2.1]; show 8 + (_ + 11) + 36 * (d - 1) ≤ 36 * d; omega⟩ (show 0 ≤ 8 by decide) ⟨by rw [I.2.1]; show 0 + 0 ≤ 0; decide, by rw [I.2.1]; show 0 + 0 ≤ 0; decide⟩ (fun q => q.elim) (fun E u q => q.elim) (fun u hu => ?_)
    obtain ⟨V4, rfl, h⟩ := hu
    refine ab_aload_n O 0 dX9_diameter_26 rfl rfl ?_
    refine ab_get O fl_X9_41 dX9_diameter_27 (at_57 _ _ _) rfl ?_
    refine ab_aload_n O 0 dX9_diameter_30 rfl rfl ?_
    refine ab_get O fl_X9_50 dX9_diameter_31 (at_57 _ _ _) rfl ?_
    refine ab_aload_n O 0 dX9_diameter_34 rfl rfl ?_
    refine ab_get O fl_X9_94 dX9_diameter_35 (at_57 _ _ _) rfl ?_
    refine ab_iconst O 1 dX9_diameter_38 rfl ?_
    refine ab_isub O dX9_diameter_39 ?_
    refine ab_iald O dX9_diameter_40 (at_71 _ _ _) h.1 ?_
    have h := h.2
    refine ab_iald O dX9_diameter_41 (at_68 _ _ _) h.1 ?_
    have h := h.2
    exact ab_ireturn O I dX9_diameter_42 (by decide) (by decide) (by rfl) ⟨_, rfl, h⟩
  · have h := h.2 q3
    refine ab_iconst O 0 dX9_diameter_9 rfl ?_
    exact ab_ireturn O I dX9_diameter_10 (by decide) (by decide) (by rfl) ⟨_, rfl, h⟩

def wp_X9_diameterByTrying (V : Mm) (a0 : Int32) (post : Int32 → Mm → Prop) : Prop := (wp_X9_diameter V (a0) (fun (r2 : Int32) (V1 : Mm) => post r2 V1))
set_option maxHeartbeats 4000000 in
theorem c_X9_diameterByTrying (d : Nat) (hd : 4 ≤ d) (l : Launch) (hl : l.stackTraces = false) (g : ab_G) (o : Nat → Int64) (D : Nat → UInt64) (a0 : Int32) {V : Mm} {post : Int32 → Mm → Prop} (h : wp_X9_diameterByTrying V a0 post) : Ct l g tk_strs False d 0 0 yX9_diameterByTrying cX9_diameterByTrying 2 (some .int) [.ref 57, .int a0] (SW V o D) (tk_I g (fun r u => ∃ V : Mm, u = SW V o D ∧ post r V)) (fun _ _ => False) := by
  refine ct_in (by decide +kernel) (show 2 ≤ 2 by decide) (by simp [Value.category]) hl (fun X I O _ => ?_)
  show Ab X g 0 0 _ 0 [some (.ref (57)), some (.int (a0))] [] _
  refine ab_aload_n O 0 dX9_diameterByTrying_0 rfl rfl ?_
  refine ab_iload_n O 1 dX9_diameterByTrying_1 rfl rfl ?_
  refine ab_callvI O I.2.2.2.2.2.2 (fr := False) (st := []) lk_X9_143 rfl (at_57 _ _ _) dX9_diameterByTrying_2 (c_X9_diameter (d - 1) (by omega) _ O.2.2.2.2.2.2.1 _ _ _ _ h) rfl rfl ⟨by rw [I.2.1]; show d - 1 + 1 ≤ d; omega, by rw [I.2.1]; show 8 + (_ + 11) + 36 * (d - 1) ≤ 36 * d; omega⟩ (show 0 ≤ 8 by decide) ⟨by rw [I.2.1]; show 0 + 0 ≤ 0; decide, by rw [I.2.1]; show 0 + 0 ≤ 0; decide⟩ (fun q => q.elim) (fun E u q => q.elim) (fun r2 u hu => ?_)
  obtain ⟨V1, rfl, h⟩ := hu
  exact ab_ireturn O I dX9_diameterByTrying_5 (by decide) (by decide) (by rfl) ⟨_, rfl, h⟩

def wp_X9_edges (V : Mm) (post : Int32 → Mm → Prop) : Prop := (∀ V1 : Mm, V1 = wr V 57 0 0 → post (V1 57 10) V1)
set_option maxHeartbeats 4000000 in
theorem c_X9_edges (d : Nat) (hd : 0 ≤ d) (l : Launch) (hl : l.stackTraces = false) (g : ab_G) (o : Nat → Int64) (D : Nat → UInt64) {V : Mm} {post : Int32 → Mm → Prop} (h : wp_X9_edges V post) : Ct l g tk_strs False d 0 0 yX9_edges cX9_edges 1 (some .int) [.ref 57] (SW V o D) (tk_I g (fun r u => ∃ V : Mm, u = SW V o D ∧ post r V)) (fun _ _ => False) := by
  refine ct_in (by decide +kernel) (show 1 ≤ 1 by decide) (by simp [Value.category]) hl (fun X I O _ => ?_)
  show Ab X g 0 0 _ 0 [some (.ref (57))] [] _
  refine ab_aload_n O 0 dX9_edges_0 rfl rfl ?_
  refine ab_iconst O 0 dX9_edges_1 rfl ?_
  refine ab_put O fl_X9_53 cl_X9 dX9_edges_2 (at_57 _ _ _) rfl .int (by decide +kernel) (fun _ => rfl) (fun _ => rfl) (show 0 < 18 by decide) ?_
  refine ab_eq ?_ rfl rfl rfl (sf_57_0 _ _ _ _).symm
  obtain ⟨V1, eV1⟩ : ∃ z : Mm, z = wr V 57 0 0 := ⟨_, rfl⟩
  rw [← eV1]
  have h := h V1 eV1
  refine ab_aload_n O 0 dX9_edges_5 rfl rfl ?_
  refine ab_get O fl_X9_64 dX9_edges_6 (at_57 _ _ _) rfl ?_
  exact ab_ireturn O I dX9_edges_9 (by decide) (by decide) (by rfl) ⟨_, rfl, h⟩

def wp_X9_forestWeight_L9 (post : Int32 → Mm → Prop) (kx : Mm → Int32 → Int32 → Prop) : Nat → Mm → Int32 → Int32 → Prop
  | 0, _, _, _ => False
  | n9 + 1, V, x9_1, x9_2 => (((V 57 10) ≤ x9_2 → kx (V) (x9_1) (x9_2)) ∧ (¬ (V 57 10) ≤ x9_2 → (vp_in x9_2 60 ∧ (((V 65 (Int32.toNatClampNeg (x9_2))) = 0 → wp_X9_forestWeight_L9 post kx n9 (V) ((x9_1 + 0)) ((x9_2 + (1)))) ∧ (¬ (V 65 (Int32.toNatClampNeg (x9_2))) = 0 → (vp_in x9_2 60 ∧ wp_X9_forestWeight_L9 post kx n9 (V) ((x9_1 + (V 61 (Int32.toNatClampNeg (x9_2))))) ((x9_2 + (1)))))))))

def wp_X9_forestWeight (V : Mm) (post : Int32 → Mm → Prop) : Prop := (∀ V1 : Mm, V1 = wr V 57 0 0 → (∃ m9 : Nat, wp_X9_forestWeight_L9 post (fun (V4 : Mm) (x5 : Int32) (x6 : Int32) => post x5 V4) m9 (V1) (0) (0)))
set_option maxHeartbeats 4000000 in
theorem cl_X9_forestWeight_L9 {X : ab_M} {g : ab_G} {l : Launch} {d : Nat} (hd : 0 ≤ d) {post : Int32 → Mm → Prop} {kx : Mm → Int32 → Int32 → Prop} {o : Nat → Int64} {D : Nat → UInt64} (O : ab_Ok X g cX9_forestWeight RX9) (I : ab_I X l tk_strs 3 (some .int) yX9_forestWeight.name d 0 0) (hk : ∀ (V : Mm) (x9_1 : Int32) (x9_2 : Int32), kx V x9_1 x9_2 → Ab X g 0 0 (tk_Q X g (tk_I g (fun r u => ∃ V : Mm, u = SW V o D ∧ post r V)) (fun _ _ => False) 0 0) 45 [none, some (.int (x9_1)), none] [] (SW V o D)) : ∀ (n : Nat) (V : Mm) (x9_1 : Int32) (x9_2 : Int32), wp_X9_forestWeight_L9 post kx n V x9_1 x9_2 → Ab X g 0 0 (tk_Q X g (tk_I g (fun r u => ∃ V : Mm, u = SW V o D ∧ post r V)) (fun _ _ => False) 0 0) 9 [some (.ref (57)), some (.int (x9_1)), some (.int (x9_2))] [] (SW V o D) := by
  intro n
  induction n with
  | zero => intro V x9_1 x9_2 h; exact h.elim
  | succ n ih =>
    intro V x9_1 x9_2 h
    refine ab_iload_n O 2 dX9_forestWeight_9 rfl rfl ?_
    refine ab_aload_n O 0 dX9_forestWeight_10 rfl rfl ?_
    refine ab_get O fl_X9_64 dX9_forestWeight_11 (at_57 _ _ _) rfl ?_
    refine ab_icmp_ge O 45 dX9_forestWeight_14 rfl (fun q2 => ?_) (fun q2 => ?_)
    · have h := h.1 q2
      exact ab_less (hk (V) (x9_1) (x9_2) h) (ab_le_n (ab_le_s (ab_le_n ab_le_0)))
    · have h := h.2 q2
      refine ab_iload_n O 1 dX9_forestWeight_17 rfl rfl ?_
      refine ab_aload_n O 0 dX9_forestWeight_18 rfl rfl ?_
      refine ab_get O fl_X9_32 dX9_forestWeight_19 (at_57 _ _ _) rfl ?_
      refine ab_iload_n O 2 dX9_forestWeight_22 rfl rfl ?_
      refine ab_zald O dX9_forestWeight_23 (at_65 _ _ _) h.1 ?_
      have h := h.2
      refine ab_if_eq O 36 dX9_forestWeight_24 rfl (fun q3 => ?_) (fun q3 => ?_)
      · have h := h.1 q3
        refine ab_iconst O 0 dX9_forestWeight_36 rfl ?_
        refine ab_iadd O dX9_forestWeight_37 ?_
        refine ab_istore_n O 1 dX9_forestWeight_38 rfl (show 1 < 3 by decide) ?_
        refine ab_iinc O ((x9_2 + (1))) dX9_forestWeight_39 rfl rfl ?_
        refine ab_goto O 9 dX9_forestWeight_42 rfl ?_
        exact ab_less (ih (V) ((x9_1 + 0)) ((x9_2 + (1))) h) (ab_le_s (ab_le_s (ab_le_s ab_le_0)))
      · have h := h.2 q3
        refine ab_aload_n O 0 dX9_forestWeight_27 rfl rfl ?_
        refine ab_get O fl_X9_19 dX9_forestWeight_28 (at_57 _ _ _) rfl ?_
        refine ab_iload_n O 2 dX9_forestWeight_31 rfl rfl ?_
        refine ab_iald O dX9_forestWeight_32 (at_61 _ _ _) h.1 ?_
        have h := h.2
        refine ab_goto O 37 dX9_forestWeight_33 rfl ?_
        refine ab_iadd O dX9_forestWeight_37 ?_
        refine ab_istore_n O 1 dX9_forestWeight_38 rfl (show 1 < 3 by decide) ?_
        refine ab_iinc O ((x9_2 + (1))) dX9_forestWeight_39 rfl rfl ?_
        refine ab_goto O 9 dX9_forestWeight_42 rfl ?_
        exact ab_less (ih (V) ((x9_1 + (V 61 (Int32.toNatClampNeg (x9_2))))) ((x9_2 + (1))) h) (ab_le_s (ab_le_s (ab_le_s ab_le_0)))
set_option maxHeartbeats 4000000 in
theorem c_X9_forestWeight (d : Nat) (hd : 0 ≤ d) (l : Launch) (hl : l.stackTraces = false) (g : ab_G) (o : Nat → Int64) (D : Nat → UInt64) {V : Mm} {post : Int32 → Mm → Prop} (h : wp_X9_forestWeight V post) : Ct l g tk_strs False d 0 0 yX9_forestWeight cX9_forestWeight 3 (some .int) [.ref 57] (SW V o D) (tk_I g (fun r u => ∃ V : Mm, u = SW V o D ∧ post r V)) (fun _ _ => False) := by
  refine ct_in (by decide +kernel) (show 1 ≤ 3 by decide) (by simp [Value.category]) hl (fun X I O _ => ?_)
  show Ab X g 0 0 _ 0 [some (.ref (57)), none, none] [] _
  refine ab_aload_n O 0 dX9_forestWeight_0 rfl rfl ?_
  refine ab_iconst O 0 dX9_forestWeight_1 rfl ?_
  refine ab_put O fl_X9_53 cl_X9 dX9_forestWeight_2 (at_57 _ _ _) rfl .int (by decide +kernel) (fun _ => rfl) (fun _ => rfl) (show 0 < 18 by decide) ?_
  refine ab_eq ?_ rfl rfl rfl (sf_57_0 _ _ _ _).symm
  obtain ⟨V1, eV1⟩ : ∃ z : Mm, z = wr V 57 0 0 := ⟨_, rfl⟩
  rw [← eV1]
  have h := h V1 eV1
  refine ab_iconst O 0 dX9_forestWeight_5 rfl ?_
  refine ab_istore_n O 1 dX9_forestWeight_6 rfl (show 1 < 3 by decide) ?_
  refine ab_iconst O 0 dX9_forestWeight_7 rfl ?_
  refine ab_istore_n O 2 dX9_forestWeight_8 rfl (show 2 < 3 by decide) ?_
  obtain ⟨n9, h⟩ := h
  refine ab_less (cl_X9_forestWeight_L9 hd O I (fun V4 x5 x6 h => ?_) n9 (V1) (0) (0) h) (ab_le_s (ab_le_s (ab_le_s ab_le_0)))
  refine ab_iload_n O 1 dX9_forestWeight_45 rfl rfl ?_
  exact ab_ireturn O I dX9_forestWeight_46 (by decide) (by decide) (by rfl) ⟨_, rfl, h⟩

def wp_X9_forestWeightAnew (V : Mm) (post : Int32 → Mm → Prop) : Prop := (wp_X9_forestWeight V (fun (r2 : Int32) (V1 : Mm) => post r2 V1))
set_option maxHeartbeats 4000000 in
theorem c_X9_forestWeightAnew (d : Nat) (hd : 1 ≤ d) (l : Launch) (hl : l.stackTraces = false) (g : ab_G) (o : Nat → Int64) (D : Nat → UInt64) {V : Mm} {post : Int32 → Mm → Prop} (h : wp_X9_forestWeightAnew V post) : Ct l g tk_strs False d 0 0 yX9_forestWeightAnew cX9_forestWeightAnew 1 (some .int) [.ref 57] (SW V o D) (tk_I g (fun r u => ∃ V : Mm, u = SW V o D ∧ post r V)) (fun _ _ => False) := by
  refine ct_in (by decide +kernel) (show 1 ≤ 1 by decide) (by simp [Value.category]) hl (fun X I O _ => ?_)
  show Ab X g 0 0 _ 0 [some (.ref (57))] [] _
  refine ab_aload_n O 0 dX9_forestWeightAnew_0 rfl rfl ?_
  refine ab_callvI O I.2.2.2.2.2.2 (fr := False) (st := []) lk_X9_104 rfl (at_57 _ _ _) dX9_forestWeightAnew_1 (c_X9_forestWeight (d - 1) (by omega) _ O.2.2.2.2.2.2.1 _ _ _ h) rfl rfl ⟨by rw [I.2.1]; show d - 1 + 1 ≤ d; omega, by rw [I.2.1]; show 8 + (_ + 11) + 36 * (d - 1) ≤ 36 * d; omega⟩ (show 0 ≤ 8 by decide) ⟨by rw [I.2.1]; show 0 + 0 ≤ 0; decide, by rw [I.2.1]; show 0 + 0 ≤ 0; decide⟩ (fun q => q.elim) (fun E u q => q.elim) (fun r2 u hu => ?_)
  obtain ⟨V1, rfl, h⟩ := hu
  exact ab_ireturn O I dX9_forestWeightAnew_4 (by decide) (by decide) (by rfl) ⟨_, rfl, h⟩

def wp_X9_isHead (V : Mm) (a0 : Int32) (post : Int32 → Mm → Prop) : Prop := (vp_in a0 20 ∧ (((V 67 (Int32.toNatClampNeg (a0))) = (-1) → post 1 V) ∧ (¬ (V 67 (Int32.toNatClampNeg (a0))) = (-1) → (vp_in a0 20 ∧ (vp_in (V 67 (Int32.toNatClampNeg (a0))) 20 ∧ (((V 70 (Int32.toNatClampNeg ((V 67 (Int32.toNatClampNeg (a0)))))) = a0 → post 0 V) ∧ (¬ (V 70 (Int32.toNatClampNeg ((V 67 (Int32.toNatClampNeg (a0)))))) = a0 → post 1 V)))))))
set_option maxHeartbeats 4000000 in
theorem c_X9_isHead (d : Nat) (hd : 0 ≤ d) (l : Launch) (hl : l.stackTraces = false) (g : ab_G) (o : Nat → Int64) (D : Nat → UInt64) (a0 : Int32) {V : Mm} {post : Int32 → Mm → Prop} (h : wp_X9_isHead V a0 post) : Ct l g tk_strs False d 0 0 yX9_isHead cX9_isHead 2 (some .boolean) [.ref 57, .int a0] (SW V o D) (tk_I g (fun r u => ∃ V : Mm, u = SW V o D ∧ post r V)) (fun _ _ => False) := by
  refine ct_in (by decide +kernel) (show 2 ≤ 2 by decide) (by simp [Value.category]) hl (fun X I O _ => ?_)
  show Ab X g 0 0 _ 0 [some (.ref (57)), some (.int (a0))] [] _
  refine ab_aload_n O 0 dX9_isHead_0 rfl rfl ?_
  refine ab_get O fl_X9_38 dX9_isHead_1 (at_57 _ _ _) rfl ?_
  refine ab_iload_n O 1 dX9_isHead_4 rfl rfl ?_
  refine ab_iald O dX9_isHead_5 (at_67 _ _ _) h.1 ?_
  have h := h.2
  refine ab_iconst O (-1) dX9_isHead_6 rfl ?_
  refine ab_icmp_eq O 25 dX9_isHead_7 rfl (fun q1 => ?_) (fun q1 => ?_)
  · have h := h.1 q1
    refine ab_iconst O 1 dX9_isHead_25 rfl ?_
    refine ab_goto O 30 dX9_isHead_26 rfl ?_
    exact ab_ireturn O I dX9_isHead_30 (by decide) (by decide) (by rfl) ⟨_, rfl, h⟩
  · have h := h.2 q1
    refine ab_aload_n O 0 dX9_isHead_10 rfl rfl ?_
    refine ab_get O fl_X9_47 dX9_isHead_11 (at_57 _ _ _) rfl ?_
    refine ab_aload_n O 0 dX9_isHead_14 rfl rfl ?_
    refine ab_get O fl_X9_38 dX9_isHead_15 (at_57 _ _ _) rfl ?_
    refine ab_iload_n O 1 dX9_isHead_18 rfl rfl ?_
    refine ab_iald O dX9_isHead_19 (at_67 _ _ _) h.1 ?_
    have h := h.2
    refine ab_iald O dX9_isHead_20 (at_70 _ _ _) h.1 ?_
    have h := h.2
    refine ab_iload_n O 1 dX9_isHead_21 rfl rfl ?_
    refine ab_icmp_eq O 29 dX9_isHead_22 rfl (fun q2 => ?_) (fun q2 => ?_)
    · have h := h.1 q2
      refine ab_iconst O 0 dX9_isHead_29 rfl ?_
      exact ab_ireturn O I dX9_isHead_30 (by decide) (by decide) (by rfl) ⟨_, rfl, h⟩
    · have h := h.2 q2
      refine ab_iconst O 1 dX9_isHead_25 rfl ?_
      refine ab_goto O 30 dX9_isHead_26 rfl ?_
      exact ab_ireturn O I dX9_isHead_30 (by decide) (by decide) (by rfl) ⟨_, rfl, h⟩

def wp_X9_head_L13 (post : Int32 → Mm → Prop) (kx : Mm → Int32 → Prop) : Nat → Mm → Int32 → Prop
  | 0, _, _ => False
  | n13 + 1, V, x13_3 => (wp_X9_isHead V (x13_3) (fun (r5 : Int32) (V4 : Mm) => ((r5 = 0 → (vp_in x13_3 20 ∧ wp_X9_head_L13 post kx n13 (V4) ((V4 67 (Int32.toNatClampNeg (x13_3)))))) ∧ (¬ r5 = 0 → kx (V4) (x13_3)))))

def wp_X9_head (V : Mm) (a0 a1 : Int32) (post : Int32 → Mm → Prop) : Prop := (wp_X9_isApart V (a0) (a1) (fun (r2 : Int32) (V1 : Mm) => ((r2 = 0 → (∃ m13 : Nat, wp_X9_head_L13 post (fun (V7 : Mm) (x8 : Int32) => post x8 V7) m13 (V1) (a1))) ∧ (¬ r2 = 0 → post 0 V1))))
set_option maxHeartbeats 4000000 in
theorem cl_X9_head_L13 {X : ab_M} {g : ab_G} {l : Launch} {d : Nat} (hd : 3 ≤ d) {post : Int32 → Mm → Prop} {kx : Mm → Int32 → Prop} {o : Nat → Int64} {D : Nat → UInt64} (O : ab_Ok X g cX9_head RX9) (I : ab_I X l tk_strs 4 (some .int) yX9_head.name d 0 0) (hk : ∀ (V : Mm) (x13_3 : Int32), kx V x13_3 → Ab X g 0 0 (tk_Q X g (tk_I g (fun r u => ∃ V : Mm, u = SW V o D ∧ post r V)) (fun _ _ => False) 0 0) 31 [none, none, none, some (.int (x13_3))] [] (SW V o D)) : ∀ (n : Nat) (V : Mm) (x13_3 : Int32), wp_X9_head_L13 post kx n V x13_3 → Ab X g 0 0 (tk_Q X g (tk_I g (fun r u => ∃ V : Mm, u = SW V o D ∧ post r V)) (fun _ _ => False) 0 0) 13 [some (.ref (57)), none, none, some (.int (x13_3))] [] (SW V o D) := by
  intro n
  induction n with
  | zero => intro V x13_3 h; exact h.elim
  | succ n ih =>
    intro V x13_3 h
    refine ab_aload_n O 0 dX9_head_13 rfl rfl ?_
    refine ab_iload_n O 3 dX9_head_14 rfl rfl ?_
    refine ab_callvI O I.2.2.2.2.2.2 (fr := False) (st := []) lk_X9_140 rfl (at_57 _ _ _) dX9_head_15 (c_X9_isHead (d - 1) (by omega) _ O.2.2.2.2.2.2.1 _ _ _ _ h) rfl rfl ⟨by rw [I.2.1]; show d - 1 + 1 ≤ d; omega, by rw [I.2.1]; show 8 + (_ + 11) + 36 * (d - 1) ≤ 36 * d; omega⟩ (show 0 ≤ 8 by decide) ⟨by rw [I.2.1]; show 0 + 0 ≤ 0; decide, by rw [I.2.1]; show 0 + 0 ≤ 0; decide⟩ (fun q => q.elim) (fun E u q => q.elim) (fun r5 u hu => ?_)
    obtain ⟨V4, rfl, h⟩ := hu
    refine ab_if_ne O 31 dX9_head_18 rfl (fun q6 => ?_) (fun q6 => ?_)
    · have h := h.2 q6
      exact ab_less (hk (V4) (x13_3) h) (ab_le_n (ab_le_n (ab_le_n (ab_le_s ab_le_0))))
    · have h := h.1 q6
      refine ab_aload_n O 0 dX9_head_21 rfl rfl ?_
      refine ab_get O fl_X9_38 dX9_head_22 (at_57 _ _ _) rfl ?_
      refine ab_iload_n O 3 dX9_head_25 rfl rfl ?_
      refine ab_iald O dX9_head_26 (at_67 _ _ _) h.1 ?_
      have h := h.2
      refine ab_istore_n O 3 dX9_head_27 rfl (show 3 < 4 by decide) ?_
      refine ab_goto O 13 dX9_head_28 rfl ?_
      exact ab_less (ih (V4) ((V4 67 (Int32.toNatClampNeg (x13_3)))) h) (ab_le_s (ab_le_n (ab_le_n (ab_le_s ab_le_0))))
set_option maxHeartbeats 4000000 in
theorem c_X9_head (d : Nat) (hd : 3 ≤ d) (l : Launch) (hl : l.stackTraces = false) (g : ab_G) (o : Nat → Int64) (D : Nat → UInt64) (a0 : Int32) (a1 : Int32) {V : Mm} {post : Int32 → Mm → Prop} (h : wp_X9_head V a0 a1 post) : Ct l g tk_strs False d 0 0 yX9_head cX9_head 4 (some .int) [.ref 57, .int a0, .int a1] (SW V o D) (tk_I g (fun r u => ∃ V : Mm, u = SW V o D ∧ post r V)) (fun _ _ => False) := by
  refine ct_in (by decide +kernel) (show 3 ≤ 4 by decide) (by simp [Value.category]) hl (fun X I O _ => ?_)
  show Ab X g 0 0 _ 0 [some (.ref (57)), some (.int (a0)), some (.int (a1)), none] [] _
  refine ab_aload_n O 0 dX9_head_0 rfl rfl ?_
  refine ab_iload_n O 1 dX9_head_1 rfl rfl ?_
  refine ab_iload_n O 2 dX9_head_2 rfl rfl ?_
  refine ab_callvI O I.2.2.2.2.2.2 (fr := False) (st := []) lk_X9_117 rfl (at_57 _ _ _) dX9_head_3 (c_X9_isApart (d - 1) (by omega) _ O.2.2.2.2.2.2.1 _ _ _ _ _ h) rfl rfl ⟨by rw [I.2.1]; show d - 1 + 1 ≤ d; omega, by rw [I.2.1]; show 8 + (_ + 11) + 36 * (d - 1) ≤ 36 * d; omega⟩ (show 0 ≤ 8 by decide) ⟨by rw [I.2.1]; show 0 + 0 ≤ 0; decide, by rw [I.2.1]; show 0 + 0 ≤ 0; decide⟩ (fun q => q.elim) (fun E u q => q.elim) (fun r2 u hu => ?_)
  obtain ⟨V1, rfl, h⟩ := hu
  refine ab_if_eq O 11 dX9_head_6 rfl (fun q3 => ?_) (fun q3 => ?_)
  · have h := h.1 q3
    refine ab_iload_n O 2 dX9_head_11 rfl rfl ?_
    refine ab_istore_n O 3 dX9_head_12 rfl (show 3 < 4 by decide) ?_
    obtain ⟨n9, h⟩ := h
    refine ab_less (cl_X9_head_L13 hd O I (fun V7 x8 h => ?_) n9 (V1) (a1) h) (ab_le_s (ab_le_n (ab_le_n (ab_le_s ab_le_0))))
    refine ab_iload_n O 3 dX9_head_31 rfl rfl ?_
    exact ab_ireturn O I dX9_head_32 (by decide) (by decide) (by rfl) ⟨_, rfl, h⟩
  · have h := h.2 q3
    refine ab_iconst O 0 dX9_head_9 rfl ?_
    exact ab_ireturn O I dX9_head_10 (by decide) (by decide) (by rfl) ⟨_, rfl, h⟩

def wp_X9_heavyChild (V : Mm) (a0 a1 : Int32) (post : Int32 → Mm → Prop) : Prop := (wp_X9_isApart V (a0) (a1) (fun (r2 : Int32) (V1 : Mm) => ((r2 = 0 → (vp_in a1 20 ∧ ((0 ≤ (V1 70 (Int32.toNatClampNeg (a1))) → (vp_in a1 20 ∧ post (V1 70 (Int32.toNatClampNeg (a1))) V1)) ∧ (¬ 0 ≤ (V1 70 (Int32.toNatClampNeg (a1))) → (wp_X9_fails V1 (3) (fun (r6 : Int32) (V5 : Mm) => post r6 V5)))))) ∧ (¬ r2 = 0 → post 0 V1))))
set_option maxHeartbeats 4000000 in
theorem c_X9_heavyChild (d : Nat) (hd : 3 ≤ d) (l : Launch) (hl : l.stackTraces = false) (g : ab_G) (o : Nat → Int64) (D : Nat → UInt64) (a0 : Int32) (a1 : Int32) {V : Mm} {post : Int32 → Mm → Prop} (h : wp_X9_heavyChild V a0 a1 post) : Ct l g tk_strs False d 0 0 yX9_heavyChild cX9_heavyChild 3 (some .int) [.ref 57, .int a0, .int a1] (SW V o D) (tk_I g (fun r u => ∃ V : Mm, u = SW V o D ∧ post r V)) (fun _ _ => False) := by
  refine ct_in (by decide +kernel) (show 3 ≤ 3 by decide) (by simp [Value.category]) hl (fun X I O _ => ?_)
  show Ab X g 0 0 _ 0 [some (.ref (57)), some (.int (a0)), some (.int (a1))] [] _
  refine ab_aload_n O 0 dX9_heavyChild_0 rfl rfl ?_
  refine ab_iload_n O 1 dX9_heavyChild_1 rfl rfl ?_
  refine ab_iload_n O 2 dX9_heavyChild_2 rfl rfl ?_
  refine ab_callvI O I.2.2.2.2.2.2 (fr := False) (st := []) lk_X9_117 rfl (at_57 _ _ _) dX9_heavyChild_3 (c_X9_isApart (d - 1) (by omega) _ O.2.2.2.2.2.2.1 _ _ _ _ _ h) rfl rfl ⟨by rw [I.2.1]; show d - 1 + 1 ≤ d; omega, by rw [I.2.1]; show 8 + (_ + 11) + 36 * (d - 1) ≤ 36 * d; omega⟩ (show 0 ≤ 8 by decide) ⟨by rw [I.2.1]; show 0 + 0 ≤ 0; decide, by rw [I.2.1]; show 0 + 0 ≤ 0; decide⟩ (fun q => q.elim) (fun E u q => q.elim) (fun r2 u hu => ?_)
  obtain ⟨V1, rfl, h⟩ := hu
  refine ab_if_eq O 11 dX9_heavyChild_6 rfl (fun q3 => ?_) (fun q3 => ?_)
  · have h := h.1 q3
    refine ab_aload_n O 0 dX9_heavyChild_11 rfl rfl ?_
    refine ab_get O fl_X9_47 dX9_heavyChild_12 (at_57 _ _ _) rfl ?_
    refine ab_iload_n O 2 dX9_heavyChild_15 rfl rfl ?_
    refine ab_iald O dX9_heavyChild_16 (at_70 _ _ _) h.1 ?_
    have h := h.2
    refine ab_if_ge O 28 dX9_heavyChild_17 rfl (fun q4 => ?_) (fun q4 => ?_)
    · have h := h.1 q4
      refine ab_aload_n O 0 dX9_heavyChild_28 rfl rfl ?_
      refine ab_get O fl_X9_47 dX9_heavyChild_29 (at_57 _ _ _) rfl ?_
      refine ab_iload_n O 2 dX9_heavyChild_32 rfl rfl ?_
      refine ab_iald O dX9_heavyChild_33 (at_70 _ _ _) h.1 ?_
      have h := h.2
      exact ab_ireturn O I dX9_heavyChild_34 (by decide) (by decide) (by rfl) ⟨_, rfl, h⟩
    · have h := h.2 q4
      refine ab_aload_n O 0 dX9_heavyChild_20 rfl rfl ?_
      refine ab_iconst O 3 dX9_heavyChild_21 rfl ?_
      refine ab_callvI O I.2.2.2.2.2.2 (fr := False) (st := []) lk_X9_78 rfl (at_57 _ _ _) dX9_heavyChild_22 (c_X9_fails (d - 1) (by omega) _ O.2.2.2.2.2.2.1 _ _ _ _ h) rfl rfl ⟨by rw [I.2.1]; show d - 1 + 1 ≤ d; omega, by rw [I.2.1]; show 8 + (_ + 11) + 36 * (d - 1) ≤ 36 * d; omega⟩ (show 0 ≤ 8 by decide) ⟨by rw [I.2.1]; show 0 + 0 ≤ 0; decide, by rw [I.2.1]; show 0 + 0 ≤ 0; decide⟩ (fun q => q.elim) (fun E u q => q.elim) (fun r6 u hu => ?_)
      obtain ⟨V5, rfl, h⟩ := hu
      refine ab_goto O 34 dX9_heavyChild_25 rfl ?_
      exact ab_ireturn O I dX9_heavyChild_34 (by decide) (by decide) (by rfl) ⟨_, rfl, h⟩
  · have h := h.2 q3
    refine ab_iconst O 0 dX9_heavyChild_9 rfl ?_
    exact ab_ireturn O I dX9_heavyChild_10 (by decide) (by decide) (by rfl) ⟨_, rfl, h⟩

def wp_X9_heavyPaths_L15 (post : Int32 → Mm → Prop) (kx : Mm → Int32 → Int32 → Prop) : Nat → Mm → Int32 → Int32 → Prop
  | 0, _, _, _ => False
  | n15 + 1, V, x15_2, x15_3 => (((V 57 17) ≤ x15_3 → kx (V) (x15_2) (x15_3)) ∧ (¬ (V 57 17) ≤ x15_3 → (vp_in x15_3 20 ∧ (wp_X9_isHead V ((V 71 (Int32.toNatClampNeg (x15_3)))) (fun (r6 : Int32) (V5 : Mm) => ((r6 = 0 → wp_X9_heavyPaths_L15 post kx n15 (V5) ((x15_2 + 0)) ((x15_3 + (1)))) ∧ (¬ r6 = 0 → wp_X9_heavyPaths_L15 post kx n15 (V5) ((x15_2 + 1)) ((x15_3 + (1))))))))))

def wp_X9_heavyPaths (V : Mm) (a0 : Int32) (post : Int32 → Mm → Prop) : Prop := (wp_X9_isApart V (a0) (a0) (fun (r2 : Int32) (V1 : Mm) => ((r2 = 0 → (∃ m15 : Nat, wp_X9_heavyPaths_L15 post (fun (V8 : Mm) (x9 : Int32) (x10 : Int32) => post x9 V8) m15 (V1) (0) (0))) ∧ (¬ r2 = 0 → post 0 V1))))
set_option maxHeartbeats 4000000 in
theorem cl_X9_heavyPaths_L15 {X : ab_M} {g : ab_G} {l : Launch} {d : Nat} (hd : 3 ≤ d) {post : Int32 → Mm → Prop} {kx : Mm → Int32 → Int32 → Prop} {o : Nat → Int64} {D : Nat → UInt64} (O : ab_Ok X g cX9_heavyPaths RX9) (I : ab_I X l tk_strs 4 (some .int) yX9_heavyPaths.name d 0 0) (hk : ∀ (V : Mm) (x15_2 : Int32) (x15_3 : Int32), kx V x15_2 x15_3 → Ab X g 0 0 (tk_Q X g (tk_I g (fun r u => ∃ V : Mm, u = SW V o D ∧ post r V)) (fun _ _ => False) 0 0) 50 [none, none, some (.int (x15_2)), none] [] (SW V o D)) : ∀ (n : Nat) (V : Mm) (x15_2 : Int32) (x15_3 : Int32), wp_X9_heavyPaths_L15 post kx n V x15_2 x15_3 → Ab X g 0 0 (tk_Q X g (tk_I g (fun r u => ∃ V : Mm, u = SW V o D ∧ post r V)) (fun _ _ => False) 0 0) 15 [some (.ref (57)), none, some (.int (x15_2)), some (.int (x15_3))] [] (SW V o D) := by
  intro n
  induction n with
  | zero => intro V x15_2 x15_3 h; exact h.elim
  | succ n ih =>
    intro V x15_2 x15_3 h
    refine ab_iload_n O 3 dX9_heavyPaths_15 rfl rfl ?_
    refine ab_aload_n O 0 dX9_heavyPaths_16 rfl rfl ?_
    refine ab_get O fl_X9_94 dX9_heavyPaths_17 (at_57 _ _ _) rfl ?_
    refine ab_icmp_ge O 50 dX9_heavyPaths_20 rfl (fun q4 => ?_) (fun q4 => ?_)
    · have h := h.1 q4
      exact ab_less (hk (V) (x15_2) (x15_3) h) (ab_le_n (ab_le_n (ab_le_s (ab_le_n ab_le_0))))
    · have h := h.2 q4
      refine ab_iload_n O 2 dX9_heavyPaths_23 rfl rfl ?_
      refine ab_aload_n O 0 dX9_heavyPaths_24 rfl rfl ?_
      refine ab_aload_n O 0 dX9_heavyPaths_25 rfl rfl ?_
      refine ab_get O fl_X9_50 dX9_heavyPaths_26 (at_57 _ _ _) rfl ?_
      refine ab_iload_n O 3 dX9_heavyPaths_29 rfl rfl ?_
      refine ab_iald O dX9_heavyPaths_30 (at_71 _ _ _) h.1 ?_
      have h := h.2
      refine ab_callvI O I.2.2.2.2.2.2 (fr := False) (st := [.int (x15_2)]) lk_X9_140 rfl (at_57 _ _ _) dX9_heavyPaths_31 (c_X9_isHead (d - 1) (by omega) _ O.2.2.2.2.2.2.1 _ _ _ _ h) rfl rfl ⟨by rw [I.2.1]; show d - 1 + 1 ≤ d; omega, by rw [I.2.1]; show 8 + (_ + 11) + 36 * (d - 1) ≤ 36 * d; omega⟩ (show 1 ≤ 8 by decide) ⟨by rw [I.2.1]; show 0 + 0 ≤ 0; decide, by rw [I.2.1]; show 0 + 0 ≤ 0; decide⟩ (fun q => q.elim) (fun E u q => q.elim) (fun r6 u hu => ?_)
      obtain ⟨V5, rfl, h⟩ := hu
      refine ab_if_eq O 41 dX9_heavyPaths_34 rfl (fun q7 => ?_) (fun q7 => ?_)
      · have h := h.1 q7
        refine ab_iconst O 0 dX9_heavyPaths_41 rfl ?_
        refine ab_iadd O dX9_heavyPaths_42 ?_
        refine ab_istore_n O 2 dX9_heavyPaths_43 rfl (show 2 < 4 by decide) ?_
        refine ab_iinc O ((x15_3 + (1))) dX9_heavyPaths_44 rfl rfl ?_
        refine ab_goto O 15 dX9_heavyPaths_47 rfl ?_
        exact ab_less (ih (V5) ((x15_2 + 0)) ((x15_3 + (1))) h) (ab_le_s (ab_le_n (ab_le_s (ab_le_s ab_le_0))))
      · have h := h.2 q7
        refine ab_iconst O 1 dX9_heavyPaths_37 rfl ?_
        refine ab_goto O 42 dX9_heavyPaths_38 rfl ?_
        refine ab_iadd O dX9_heavyPaths_42 ?_
        refine ab_istore_n O 2 dX9_heavyPaths_43 rfl (show 2 < 4 by decide) ?_
        refine ab_iinc O ((x15_3 + (1))) dX9_heavyPaths_44 rfl rfl ?_
        refine ab_goto O 15 dX9_heavyPaths_47 rfl ?_
        exact ab_less (ih (V5) ((x15_2 + 1)) ((x15_3 + (1))) h) (ab_le_s (ab_le_n (ab_le_s (ab_le_s ab_le_0))))
set_option maxHeartbeats 4000000 in
theorem c_X9_heavyPaths (d : Nat) (hd : 3 ≤ d) (l : Launch) (hl : l.stackTraces = false) (g : ab_G) (o : Nat → Int64) (D : Nat → UInt64) (a0 : Int32) {V : Mm} {post : Int32 → Mm → Prop} (h : wp_X9_heavyPaths V a0 post) : Ct l g tk_strs False d 0 0 yX9_heavyPaths cX9_heavyPaths 4 (some .int) [.ref 57, .int a0] (SW V o D) (tk_I g (fun r u => ∃ V : Mm, u = SW V o D ∧ post r V)) (fun _ _ => False) := by
  refine ct_in (by decide +kernel) (show 2 ≤ 4 by decide) (by simp [Value.category]) hl (fun X I O _ => ?_)
  show Ab X g 0 0 _ 0 [some (.ref (57)), some (.int (a0)), none, none] [] _
  refine ab_aload_n O 0 dX9_heavyPaths_0 rfl rfl ?_
  refine ab_iload_n O 1 dX9_heavyPaths_1 rfl rfl ?_
  refine ab_iload_n O 1 dX9_heavyPaths_2 rfl rfl ?_
  refine ab_callvI O I.2.2.2.2.2.2 (fr := False) (st := []) lk_X9_117 rfl (at_57 _ _ _) dX9_heavyPaths_3 (c_X9_isApart (d - 1) (by omega) _ O.2.2.2.2.2.2.1 _ _ _ _ _ h) rfl rfl ⟨by rw [I.2.1]; show d - 1 + 1 ≤ d; omega, by rw [I.2.1]; show 8 + (_ + 11) + 36 * (d - 1) ≤ 36 * d; omega⟩ (show 0 ≤ 8 by decide) ⟨by rw [I.2.1]; show 0 + 0 ≤ 0; decide, by rw [I.2.1]; show 0 + 0 ≤ 0; decide⟩ (fun q => q.elim) (fun E u q => q.elim) (fun r2 u hu => ?_)
  obtain ⟨V1, rfl, h⟩ := hu
  refine ab_if_eq O 11 dX9_heavyPaths_6 rfl (fun q3 => ?_) (fun q3 => ?_)
  · have h := h.1 q3
    refine ab_iconst O 0 dX9_heavyPaths_11 rfl ?_
    refine ab_istore_n O 2 dX9_heavyPaths_12 rfl (show 2 < 4 by decide) ?_
    refine ab_iconst O 0 dX9_heavyPaths_13 rfl ?_
    refine ab_istore_n O 3 dX9_heavyPaths_14 rfl (show 3 < 4 by decide) ?_
    obtain ⟨n9, h⟩ := h
    refine ab_less (cl_X9_heavyPaths_L15 hd O I (fun V8 x9 x10 h => ?_) n9 (V1) (0) (0) h) (ab_le_s (ab_le_n (ab_le_s (ab_le_s ab_le_0))))
    refine ab_iload_n O 2 dX9_heavyPaths_50 rfl rfl ?_
    exact ab_ireturn O I dX9_heavyPaths_51 (by decide) (by decide) (by rfl) ⟨_, rfl, h⟩
  · have h := h.2 q3
    refine ab_iconst O 0 dX9_heavyPaths_9 rfl ?_
    exact ab_ireturn O I dX9_heavyPaths_10 (by decide) (by decide) (by rfl) ⟨_, rfl, h⟩

def wp_X9_isConnected (V : Mm) (a0 a1 : Int32) (post : Int32 → Mm → Prop) : Prop := (∀ V1 : Mm, V1 = wr V 57 0 0 → (wp_X9_isVertex V1 (a0) (fun (r3 : Int32) (V2 : Mm) => ((r3 = 0 → (wp_X9_fails V2 (1) (fun (r6 : Int32) (V5 : Mm) => ((r6 ≤ 0 → post 0 V5) ∧ (¬ r6 ≤ 0 → post 1 V5))))) ∧ (¬ r3 = 0 → (wp_X9_isVertex V2 (a1) (fun (r9 : Int32) (V8 : Mm) => ((r9 = 0 → (wp_X9_fails V8 (1) (fun (r13 : Int32) (V12 : Mm) => ((r13 ≤ 0 → post 0 V12) ∧ (¬ r13 ≤ 0 → post 1 V12))))) ∧ (¬ r9 = 0 → (vp_in a0 20 ∧ (vp_in a1 20 ∧ (((V8 63 (Int32.toNatClampNeg (a0))) = (V8 63 (Int32.toNatClampNeg (a1))) → post 1 V8) ∧ (¬ (V8 63 (Int32.toNatClampNeg (a0))) = (V8 63 (Int32.toNatClampNeg (a1))) → post 0 V8)))))))))))))
set_option maxHeartbeats 4000000 in
theorem c_X9_isConnected (d : Nat) (hd : 2 ≤ d) (l : Launch) (hl : l.stackTraces = false) (g : ab_G) (o : Nat → Int64) (D : Nat → UInt64) (a0 : Int32) (a1 : Int32) {V : Mm} {post : Int32 → Mm → Prop} (h : wp_X9_isConnected V a0 a1 post) : Ct l g tk_strs False d 0 0 yX9_isConnected cX9_isConnected 3 (some .boolean) [.ref 57, .int a0, .int a1] (SW V o D) (tk_I g (fun r u => ∃ V : Mm, u = SW V o D ∧ post r V)) (fun _ _ => False) := by
  refine ct_in (by decide +kernel) (show 3 ≤ 3 by decide) (by simp [Value.category]) hl (fun X I O _ => ?_)
  show Ab X g 0 0 _ 0 [some (.ref (57)), some (.int (a0)), some (.int (a1))] [] _
  refine ab_aload_n O 0 dX9_isConnected_0 rfl rfl ?_
  refine ab_iconst O 0 dX9_isConnected_1 rfl ?_
  refine ab_put O fl_X9_53 cl_X9 dX9_isConnected_2 (at_57 _ _ _) rfl .int (by decide +kernel) (fun _ => rfl) (fun _ => rfl) (show 0 < 18 by decide) ?_
  refine ab_eq ?_ rfl rfl rfl (sf_57_0 _ _ _ _).symm
  obtain ⟨V1, eV1⟩ : ∃ z : Mm, z = wr V 57 0 0 := ⟨_, rfl⟩
  rw [← eV1]
  have h := h V1 eV1
  refine ab_aload_n O 0 dX9_isConnected_5 rfl rfl ?_
  refine ab_iload_n O 1 dX9_isConnected_6 rfl rfl ?_
  refine ab_callvI O I.2.2.2.2.2.2 (fr := False) (st := []) lk_X9_84 rfl (at_57 _ _ _) dX9_isConnected_7 (c_X9_isVertex (d - 1) (by omega) _ O.2.2.2.2.2.2.1 _ _ _ _ h) rfl rfl ⟨by rw [I.2.1]; show d - 1 + 1 ≤ d; omega, by rw [I.2.1]; show 8 + (_ + 11) + 36 * (d - 1) ≤ 36 * d; omega⟩ (show 0 ≤ 8 by decide) ⟨by rw [I.2.1]; show 0 + 0 ≤ 0; decide, by rw [I.2.1]; show 0 + 0 ≤ 0; decide⟩ (fun q => q.elim) (fun E u q => q.elim) (fun r3 u hu => ?_)
  obtain ⟨V2, rfl, h⟩ := hu
  refine ab_if_eq O 21 dX9_isConnected_10 rfl (fun q4 => ?_) (fun q4 => ?_)
  · have h := h.1 q4
    refine ab_aload_n O 0 dX9_isConnected_21 rfl rfl ?_
    refine ab_iconst O 1 dX9_isConnected_22 rfl ?_
    refine ab_callvI O I.2.2.2.2.2.2 (fr := False) (st := []) lk_X9_78 rfl (at_57 _ _ _) dX9_isConnected_23 (c_X9_fails (d - 1) (by omega) _ O.2.2.2.2.2.2.1 _ _ _ _ h) rfl rfl ⟨by rw [I.2.1]; show d - 1 + 1 ≤ d; omega, by rw [I.2.1]; show 8 + (_ + 11) + 36 * (d - 1) ≤ 36 * d; omega⟩ (show 0 ≤ 8 by decide) ⟨by rw [I.2.1]; show 0 + 0 ≤ 0; decide, by rw [I.2.1]; show 0 + 0 ≤ 0; decide⟩ (fun q => q.elim) (fun E u q => q.elim) (fun r6 u hu => ?_)
    obtain ⟨V5, rfl, h⟩ := hu
    refine ab_if_le O 33 dX9_isConnected_26 rfl (fun q7 => ?_) (fun q7 => ?_)
    · have h := h.1 q7
      refine ab_iconst O 0 dX9_isConnected_33 rfl ?_
      exact ab_ireturn O I dX9_isConnected_34 (by decide) (by decide) (by rfl) ⟨_, rfl, h⟩
    · have h := h.2 q7
      refine ab_iconst O 1 dX9_isConnected_29 rfl ?_
      refine ab_goto O 34 dX9_isConnected_30 rfl ?_
      exact ab_ireturn O I dX9_isConnected_34 (by decide) (by decide) (by rfl) ⟨_, rfl, h⟩
  · have h := h.2 q4
    refine ab_aload_n O 0 dX9_isConnected_13 rfl rfl ?_
    refine ab_iload_n O 2 dX9_isConnected_14 rfl rfl ?_
    refine ab_callvI O I.2.2.2.2.2.2 (fr := False) (st := []) lk_X9_84 rfl (at_57 _ _ _) dX9_isConnected_15 (c_X9_isVertex (d - 1) (by omega) _ O.2.2.2.2.2.2.1 _ _ _ _ h) rfl rfl ⟨by rw [I.2.1]; show d - 1 + 1 ≤ d; omega, by rw [I.2.1]; show 8 + (_ + 11) + 36 * (d - 1) ≤ 36 * d; omega⟩ (show 0 ≤ 8 by decide) ⟨by rw [I.2.1]; show 0 + 0 ≤ 0; decide, by rw [I.2.1]; show 0 + 0 ≤ 0; decide⟩ (fun q => q.elim) (fun E u q => q.elim) (fun r9 u hu => ?_)
    obtain ⟨V8, rfl, h⟩ := hu
    refine ab_if_ne O 35 dX9_isConnected_18 rfl (fun q10 => ?_) (fun q10 => ?_)
    · have h := h.2 q10
      refine ab_aload_n O 0 dX9_isConnected_35 rfl rfl ?_
      refine ab_get O fl_X9_25 dX9_isConnected_36 (at_57 _ _ _) rfl ?_
      refine ab_iload_n O 1 dX9_isConnected_39 rfl rfl ?_
      refine ab_iald O dX9_isConnected_40 (at_63 _ _ _) h.1 ?_
      have h := h.2
      refine ab_aload_n O 0 dX9_isConnected_41 rfl rfl ?_
      refine ab_get O fl_X9_25 dX9_isConnected_42 (at_57 _ _ _) rfl ?_
      refine ab_iload_n O 2 dX9_isConnected_45 rfl rfl ?_
      refine ab_iald O dX9_isConnected_46 (at_63 _ _ _) h.1 ?_
      have h := h.2
      refine ab_icmp_ne O 54 dX9_isConnected_47 rfl (fun q11 => ?_) (fun q11 => ?_)
      · have h := h.2 q11
        refine ab_iconst O 0 dX9_isConnected_54 rfl ?_
        exact ab_ireturn O I dX9_isConnected_55 (by decide) (by decide) (by rfl) ⟨_, rfl, h⟩
      · have h := h.1 q11
        refine ab_iconst O 1 dX9_isConnected_50 rfl ?_
        refine ab_goto O 55 dX9_isConnected_51 rfl ?_
        exact ab_ireturn O I dX9_isConnected_55 (by decide) (by decide) (by rfl) ⟨_, rfl, h⟩
    · have h := h.1 q10
      refine ab_aload_n O 0 dX9_isConnected_21 rfl rfl ?_
      refine ab_iconst O 1 dX9_isConnected_22 rfl ?_
      refine ab_callvI O I.2.2.2.2.2.2 (fr := False) (st := []) lk_X9_78 rfl (at_57 _ _ _) dX9_isConnected_23 (c_X9_fails (d - 1) (by omega) _ O.2.2.2.2.2.2.1 _ _ _ _ h) rfl rfl ⟨by rw [I.2.1]; show d - 1 + 1 ≤ d; omega, by rw [I.2.1]; show 8 + (_ + 11) + 36 * (d - 1) ≤ 36 * d; omega⟩ (show 0 ≤ 8 by decide) ⟨by rw [I.2.1]; show 0 + 0 ≤ 0; decide, by rw [I.2.1]; show 0 + 0 ≤ 0; decide⟩ (fun q => q.elim) (fun E u q => q.elim) (fun r13 u hu => ?_)
      obtain ⟨V12, rfl, h⟩ := hu
      refine ab_if_le O 33 dX9_isConnected_26 rfl (fun q14 => ?_) (fun q14 => ?_)
      · have h := h.1 q14
        refine ab_iconst O 0 dX9_isConnected_33 rfl ?_
        exact ab_ireturn O I dX9_isConnected_34 (by decide) (by decide) (by rfl) ⟨_, rfl, h⟩
      · have h := h.2 q14
        refine ab_iconst O 1 dX9_isConnected_29 rfl ?_
        refine ab_goto O 34 dX9_isConnected_30 rfl ?_
        exact ab_ireturn O I dX9_isConnected_34 (by decide) (by decide) (by rfl) ⟨_, rfl, h⟩

def wp_X9_isConnectedByWalk (V : Mm) (a0 a1 : Int32) (post : Int32 → Mm → Prop) : Prop := (wp_X9_isConnected V (a0) (a1) (fun (r2 : Int32) (V1 : Mm) => (narrow .boolean (.int r2) = .int r2 ∧ post r2 V1)))
set_option maxHeartbeats 4000000 in
theorem c_X9_isConnectedByWalk (d : Nat) (hd : 3 ≤ d) (l : Launch) (hl : l.stackTraces = false) (g : ab_G) (o : Nat → Int64) (D : Nat → UInt64) (a0 : Int32) (a1 : Int32) {V : Mm} {post : Int32 → Mm → Prop} (h : wp_X9_isConnectedByWalk V a0 a1 post) : Ct l g tk_strs False d 0 0 yX9_isConnectedByWalk cX9_isConnectedByWalk 3 (some .boolean) [.ref 57, .int a0, .int a1] (SW V o D) (tk_I g (fun r u => ∃ V : Mm, u = SW V o D ∧ post r V)) (fun _ _ => False) := by
  refine ct_in (by decide +kernel) (show 3 ≤ 3 by decide) (by simp [Value.category]) hl (fun X I O _ => ?_)
  show Ab X g 0 0 _ 0 [some (.ref (57)), some (.int (a0)), some (.int (a1))] [] _
  refine ab_aload_n O 0 dX9_isConnectedByWalk_0 rfl rfl ?_
  refine ab_iload_n O 1 dX9_isConnectedByWalk_1 rfl rfl ?_
  refine ab_iload_n O 2 dX9_isConnectedByWalk_2 rfl rfl ?_
  refine ab_callvI O I.2.2.2.2.2.2 (fr := False) (st := []) lk_X9_111 rfl (at_57 _ _ _) dX9_isConnectedByWalk_3 (c_X9_isConnected (d - 1) (by omega) _ O.2.2.2.2.2.2.1 _ _ _ _ _ h) rfl rfl ⟨by rw [I.2.1]; show d - 1 + 1 ≤ d; omega, by rw [I.2.1]; show 8 + (_ + 11) + 36 * (d - 1) ≤ 36 * d; omega⟩ (show 0 ≤ 8 by decide) ⟨by rw [I.2.1]; show 0 + 0 ≤ 0; decide, by rw [I.2.1]; show 0 + 0 ≤ 0; decide⟩ (fun q => q.elim) (fun E u q => q.elim) (fun r2 u hu => ?_)
  obtain ⟨V1, rfl, h⟩ := hu
  exact ab_ireturn O I dX9_isConnectedByWalk_6 (by decide) (by decide) h.1 ⟨_, rfl, h.2⟩

def wp_X9_isEdge (V : Mm) (a0 : Int32) (post : Int32 → Mm → Prop) : Prop := (wp_X9_isBetween V (a0) (0) (((V 57 10) - 1)) (fun (r2 : Int32) (V1 : Mm) => (narrow .boolean (.int r2) = .int r2 ∧ post r2 V1)))
set_option maxHeartbeats 4000000 in
theorem c_X9_isEdge (d : Nat) (hd : 1 ≤ d) (l : Launch) (hl : l.stackTraces = false) (g : ab_G) (o : Nat → Int64) (D : Nat → UInt64) (a0 : Int32) {V : Mm} {post : Int32 → Mm → Prop} (h : wp_X9_isEdge V a0 post) : Ct l g tk_strs False d 0 0 yX9_isEdge cX9_isEdge 2 (some .boolean) [.ref 57, .int a0] (SW V o D) (tk_I g (fun r u => ∃ V : Mm, u = SW V o D ∧ post r V)) (fun _ _ => False) := by
  refine ct_in (by decide +kernel) (show 2 ≤ 2 by decide) (by simp [Value.category]) hl (fun X I O _ => ?_)
  show Ab X g 0 0 _ 0 [some (.ref (57)), some (.int (a0))] [] _
  refine ab_iload_n O 1 dX9_isEdge_0 rfl rfl ?_
  refine ab_iconst O 0 dX9_isEdge_1 rfl ?_
  refine ab_aload_n O 0 dX9_isEdge_2 rfl rfl ?_
  refine ab_get O fl_X9_64 dX9_isEdge_3 (at_57 _ _ _) rfl ?_
  refine ab_iconst O 1 dX9_isEdge_6 rfl ?_
  refine ab_isub O dX9_isEdge_7 ?_
  refine ab_callsI O I.2.2.2.2.2.2 (fr := False) (st := []) lk_X9_60 dX9_isEdge_8 (c_X9_isBetween (d - 1) (by omega) _ O.2.2.2.2.2.2.1 _ _ _ _ _ _ h) rfl rfl ⟨by rw [I.2.1]; show d - 1 + 1 ≤ d; omega, by rw [I.2.1]; show 8 + (_ + 11) + 36 * (d - 1) ≤ 36 * d; omega⟩ (show 0 ≤ 8 by decide) ⟨by rw [I.2.1]; show 0 + 0 ≤ 0; decide, by rw [I.2.1]; show 0 + 0 ≤ 0; decide⟩ (fun q => q.elim) (fun E u q => q.elim) (fun r2 u hu => ?_)
  obtain ⟨V1, rfl, h⟩ := hu
  exact ab_ireturn O I dX9_isEdge_11 (by decide) (by decide) h.1 ⟨_, rfl, h.2⟩

def wp_X9_finds_66_L6 (y6_1 : Int32) (post : Mm → Prop) (kx : Mm → Int32 → Prop) : Nat → Mm → Int32 → Prop
  | 0, _, _ => False
  | n6 + 1, V, x6_3 => (((V 57 9) ≤ x6_3 → kx (V) (x6_3)) ∧ (¬ (V 57 9) ≤ x6_3 → (vp_in x6_3 20 ∧ ∀ V3 : Mm, V3 = wr V 63 (Int32.toNatClampNeg (x6_3)) x6_3 → wp_X9_finds_66_L6 y6_1 post kx n6 (V3) ((x6_3 + (1))))))

def wp_X9_finds_66_L118 (y118_1 y118_3 y118_5 y118_6 : Int32) (post : Mm → Prop) (kx : Mm → Int32 → Prop) : Nat → Mm → Int32 → Prop
  | 0, _, _ => False
  | n118 + 1, V, x118_7 => (((V 57 9) ≤ x118_7 → kx (V) (x118_7)) ∧ (¬ (V 57 9) ≤ x118_7 → (vp_in x118_7 20 ∧ (((V 63 (Int32.toNatClampNeg (x118_7))) = y118_6 → (vp_in x118_7 20 ∧ ∀ V12 : Mm, V12 = wr V 63 (Int32.toNatClampNeg (x118_7)) y118_5 → wp_X9_finds_66_L118 y118_1 y118_3 y118_5 y118_6 post kx n118 (V12) ((x118_7 + (1))))) ∧ (¬ (V 63 (Int32.toNatClampNeg (x118_7))) = y118_6 → wp_X9_finds_66_L118 y118_1 y118_3 y118_5 y118_6 post kx n118 (V) ((x118_7 + (1))))))))

def wp_X9_finds_66_L29 (y29_1 : Int32) (post : Mm → Prop) (kx : Mm → Int32 → Prop) : Nat → Mm → Int32 → Prop
  | 0, _, _ => False
  | n29 + 1, V, x29_3 => (((V 57 10) ≤ x29_3 → kx (V) (x29_3)) ∧ (¬ (V 57 10) ≤ x29_3 → (vp_in x29_3 60 ∧ (vp_in (V 62 (Int32.toNatClampNeg (x29_3))) 60 ∧ (vp_in (V 59 (Int32.toNatClampNeg ((V 62 (Int32.toNatClampNeg (x29_3)))))) 20 ∧ (vp_in (V 62 (Int32.toNatClampNeg (x29_3))) 60 ∧ (vp_in (V 60 (Int32.toNatClampNeg ((V 62 (Int32.toNatClampNeg (x29_3)))))) 20 ∧ (vp_in (V 62 (Int32.toNatClampNeg (x29_3))) 60 ∧ (((V 64 (Int32.toNatClampNeg ((V 62 (Int32.toNatClampNeg (x29_3)))))) = 0 → (vp_in (V 62 (Int32.toNatClampNeg (x29_3))) 60 ∧ ∀ V8 : Mm, V8 = wr V 66 (Int32.toNatClampNeg ((V 62 (Int32.toNatClampNeg (x29_3))))) 0 → (vp_in (V 62 (Int32.toNatClampNeg (x29_3))) 60 ∧ (((V8 66 (Int32.toNatClampNeg ((V 62 (Int32.toNatClampNeg (x29_3)))))) = 0 → wp_X9_finds_66_L29 y29_1 post kx n29 (V8) ((x29_3 + (1)))) ∧ (¬ (V8 66 (Int32.toNatClampNeg ((V 62 (Int32.toNatClampNeg (x29_3)))))) = 0 → (∃ m118 : Nat, wp_X9_finds_66_L118 (y29_1) (x29_3) ((V 63 (Int32.toNatClampNeg ((V 59 (Int32.toNatClampNeg ((V 62 (Int32.toNatClampNeg (x29_3)))))))))) ((V 63 (Int32.toNatClampNeg ((V 60 (Int32.toNatClampNeg ((V 62 (Int32.toNatClampNeg (x29_3)))))))))) post (fun (V13 : Mm) (x14 : Int32) => wp_X9_finds_66_L29 y29_1 post kx n29 (V13) ((x29_3 + (1)))) m118 (V8) (0))))))) ∧ (¬ (V 64 (Int32.toNatClampNeg ((V 62 (Int32.toNatClampNeg (x29_3)))))) = 0 → (((V 62 (Int32.toNatClampNeg (x29_3))) = y29_1 → (vp_in (V 62 (Int32.toNatClampNeg (x29_3))) 60 ∧ ∀ V16 : Mm, V16 = wr V 66 (Int32.toNatClampNeg ((V 62 (Int32.toNatClampNeg (x29_3))))) 0 → (vp_in (V 62 (Int32.toNatClampNeg (x29_3))) 60 ∧ (((V16 66 (Int32.toNatClampNeg ((V 62 (Int32.toNatClampNeg (x29_3)))))) = 0 → wp_X9_finds_66_L29 y29_1 post kx n29 (V16) ((x29_3 + (1)))) ∧ (¬ (V16 66 (Int32.toNatClampNeg ((V 62 (Int32.toNatClampNeg (x29_3)))))) = 0 → (∃ m118 : Nat, wp_X9_finds_66_L118 (y29_1) (x29_3) ((V 63 (Int32.toNatClampNeg ((V 59 (Int32.toNatClampNeg ((V 62 (Int32.toNatClampNeg (x29_3)))))))))) ((V 63 (Int32.toNatClampNeg ((V 60 (Int32.toNatClampNeg ((V 62 (Int32.toNatClampNeg (x29_3)))))))))) post (fun (V21 : Mm) (x22 : Int32) => wp_X9_finds_66_L29 y29_1 post kx n29 (V21) ((x29_3 + (1)))) m118 (V16) (0))))))) ∧ (¬ (V 62 (Int32.toNatClampNeg (x29_3))) = y29_1 → (((V 63 (Int32.toNatClampNeg ((V 59 (Int32.toNatClampNeg ((V 62 (Int32.toNatClampNeg (x29_3))))))))) = (V 63 (Int32.toNatClampNeg ((V 60 (Int32.toNatClampNeg ((V 62 (Int32.toNatClampNeg (x29_3))))))))) → (vp_in (V 62 (Int32.toNatClampNeg (x29_3))) 60 ∧ ∀ V24 : Mm, V24 = wr V 66 (Int32.toNatClampNeg ((V 62 (Int32.toNatClampNeg (x29_3))))) 0 → (vp_in (V 62 (Int32.toNatClampNeg (x29_3))) 60 ∧ (((V24 66 (Int32.toNatClampNeg ((V 62 (Int32.toNatClampNeg (x29_3)))))) = 0 → wp_X9_finds_66_L29 y29_1 post kx n29 (V24) ((x29_3 + (1)))) ∧ (¬ (V24 66 (Int32.toNatClampNeg ((V 62 (Int32.toNatClampNeg (x29_3)))))) = 0 → (∃ m118 : Nat, wp_X9_finds_66_L118 (y29_1) (x29_3) ((V 63 (Int32.toNatClampNeg ((V 59 (Int32.toNatClampNeg ((V 62 (Int32.toNatClampNeg (x29_3)))))))))) ((V 63 (Int32.toNatClampNeg ((V 60 (Int32.toNatClampNeg ((V 62 (Int32.toNatClampNeg (x29_3)))))))))) post (fun (V29 : Mm) (x30 : Int32) => wp_X9_finds_66_L29 y29_1 post kx n29 (V29) ((x29_3 + (1)))) m118 (V24) (0))))))) ∧ (¬ (V 63 (Int32.toNatClampNeg ((V 59 (Int32.toNatClampNeg ((V 62 (Int32.toNatClampNeg (x29_3))))))))) = (V 63 (Int32.toNatClampNeg ((V 60 (Int32.toNatClampNeg ((V 62 (Int32.toNatClampNeg (x29_3))))))))) → (vp_in (V 62 (Int32.toNatClampNeg (x29_3))) 60 ∧ ∀ V31 : Mm, V31 = wr V 66 (Int32.toNatClampNeg ((V 62 (Int32.toNatClampNeg (x29_3))))) 1 → (vp_in (V 62 (Int32.toNatClampNeg (x29_3))) 60 ∧ (((V31 66 (Int32.toNatClampNeg ((V 62 (Int32.toNatClampNeg (x29_3)))))) = 0 → wp_X9_finds_66_L29 y29_1 post kx n29 (V31) ((x29_3 + (1)))) ∧ (¬ (V31 66 (Int32.toNatClampNeg ((V 62 (Int32.toNatClampNeg (x29_3)))))) = 0 → (∃ m118 : Nat, wp_X9_finds_66_L118 (y29_1) (x29_3) ((V 63 (Int32.toNatClampNeg ((V 59 (Int32.toNatClampNeg ((V 62 (Int32.toNatClampNeg (x29_3)))))))))) ((V 63 (Int32.toNatClampNeg ((V 60 (Int32.toNatClampNeg ((V 62 (Int32.toNatClampNeg (x29_3)))))))))) post (fun (V36 : Mm) (x37 : Int32) => wp_X9_finds_66_L29 y29_1 post kx n29 (V36) ((x29_3 + (1)))) m118 (V31) (0))))))))))))))))))))

def wp_X9_finds_66 (V : Mm) (a0 : Int32) (post : Mm → Prop) : Prop := (wp_X9_sorts V (fun (V1 : Mm) => (∃ m6 : Nat, wp_X9_finds_66_L6 (a0) post (fun (V4 : Mm) (x5 : Int32) => (∃ m29 : Nat, wp_X9_finds_66_L29 (a0) post (fun (V38 : Mm) (x39 : Int32) => post V38) m29 (V4) (0))) m6 (V1) (0))))
set_option maxHeartbeats 4000000 in
theorem cl_X9_finds_66_L6 {X : ab_M} {g : ab_G} {l : Launch} {d : Nat} (hd : 2 ≤ d) (y6_1 : Int32) {post : Mm → Prop} {kx : Mm → Int32 → Prop} {o : Nat → Int64} {D : Nat → UInt64} (O : ab_Ok X g cX9_finds RX9) (I : ab_I X l tk_strs 8 none yX9_finds.name d 0 0) (hk : ∀ (V : Mm) (x6_3 : Int32), kx V x6_3 → Ab X g 0 0 (tk_Q X g (tk_V g (fun u => ∃ V : Mm, u = SW V o D ∧ post V)) (fun _ _ => False) 0 0) 27 [some (.ref (57)), some (.int (y6_1)), some (.ref (66)), none, none, none, none, none] [] (SW V o D)) : ∀ (n : Nat) (V : Mm) (x6_3 : Int32), wp_X9_finds_66_L6 y6_1 post kx n V x6_3 → Ab X g 0 0 (tk_Q X g (tk_V g (fun u => ∃ V : Mm, u = SW V o D ∧ post V)) (fun _ _ => False) 0 0) 6 [some (.ref (57)), some (.int (y6_1)), some (.ref (66)), some (.int (x6_3)), none, none, none, none] [] (SW V o D) := by
  intro n
  induction n with
  | zero => intro V x6_3 h; exact h.elim
  | succ n ih =>
    intro V x6_3 h
    refine ab_iload_n O 3 dX9_finds_6 rfl rfl ?_
    refine ab_aload_n O 0 dX9_finds_7 rfl rfl ?_
    refine ab_get O fl_X9_57 dX9_finds_8 (at_57 _ _ _) rfl ?_
    refine ab_icmp_ge O 27 dX9_finds_11 rfl (fun q2 => ?_) (fun q2 => ?_)
    · have h := h.1 q2
      exact ab_less (hk (V) (x6_3) h) (ab_le_s (ab_le_s (ab_le_s (ab_le_n (ab_le_n (ab_le_n (ab_le_n (ab_le_n ab_le_0))))))))
    · have h := h.2 q2
      refine ab_aload_n O 0 dX9_finds_14 rfl rfl ?_
      refine ab_get O fl_X9_25 dX9_finds_15 (at_57 _ _ _) rfl ?_
      refine ab_iload_n O 3 dX9_finds_18 rfl rfl ?_
      refine ab_iload_n O 3 dX9_finds_19 rfl rfl ?_
      refine ab_iast O dX9_finds_20 (at_63 _ _ _) h.1 ?_
      have h := h.2
      refine ab_eq ?_ rfl rfl rfl (sa_63 _ _ _ _ _).symm
      obtain ⟨V3, eV3⟩ : ∃ z : Mm, z = wr V 63 (Int32.toNatClampNeg (x6_3)) x6_3 := ⟨_, rfl⟩
      rw [← eV3]
      have h := h V3 eV3
      refine ab_iinc O ((x6_3 + (1))) dX9_finds_21 rfl rfl ?_
      refine ab_goto O 6 dX9_finds_24 rfl ?_
      exact ab_less (ih (V3) ((x6_3 + (1))) h) (ab_le_s (ab_le_s (ab_le_s (ab_le_s (ab_le_n (ab_le_n (ab_le_n (ab_le_n ab_le_0))))))))
set_option maxHeartbeats 4000000 in
theorem cl_X9_finds_66_L118 {X : ab_M} {g : ab_G} {l : Launch} {d : Nat} (hd : 2 ≤ d) (y118_1 y118_3 y118_5 y118_6 : Int32) {post : Mm → Prop} {kx : Mm → Int32 → Prop} {o : Nat → Int64} {D : Nat → UInt64} (O : ab_Ok X g cX9_finds RX9) (I : ab_I X l tk_strs 8 none yX9_finds.name d 0 0) (hk : ∀ (V : Mm) (x118_7 : Int32), kx V x118_7 → Ab X g 0 0 (tk_Q X g (tk_V g (fun u => ∃ V : Mm, u = SW V o D ∧ post V)) (fun _ _ => False) 0 0) 154 [some (.ref (57)), some (.int (y118_1)), some (.ref (66)), some (.int (y118_3)), none, none, none, none] [] (SW V o D)) : ∀ (n : Nat) (V : Mm) (x118_7 : Int32), wp_X9_finds_66_L118 y118_1 y118_3 y118_5 y118_6 post kx n V x118_7 → Ab X g 0 0 (tk_Q X g (tk_V g (fun u => ∃ V : Mm, u = SW V o D ∧ post V)) (fun _ _ => False) 0 0) 118 [some (.ref (57)), some (.int (y118_1)), some (.ref (66)), some (.int (y118_3)), none, some (.int (y118_5)), some (.int (y118_6)), some (.int (x118_7))] [] (SW V o D) := by
  intro n
  induction n with
  | zero => intro V x118_7 h; exact h.elim
  | succ n ih =>
    intro V x118_7 h
    refine ab_iload O dX9_finds_118 rfl ?_
    refine ab_aload_n O 0 dX9_finds_120 rfl rfl ?_
    refine ab_get O fl_X9_57 dX9_finds_121 (at_57 _ _ _) rfl ?_
    refine ab_icmp_ge O 154 dX9_finds_124 rfl (fun q10 => ?_) (fun q10 => ?_)
    · have h := h.1 q10
      exact ab_less (hk (V) (x118_7) h) (ab_le_s (ab_le_s (ab_le_s (ab_le_s (ab_le_n (ab_le_n (ab_le_n (ab_le_n ab_le_0))))))))
    · have h := h.2 q10
      refine ab_aload_n O 0 dX9_finds_127 rfl rfl ?_
      refine ab_get O fl_X9_25 dX9_finds_128 (at_57 _ _ _) rfl ?_
      refine ab_iload O dX9_finds_131 rfl ?_
      refine ab_iald O dX9_finds_133 (at_63 _ _ _) h.1 ?_
      have h := h.2
      refine ab_iload O dX9_finds_134 rfl ?_
      refine ab_icmp_ne O 148 dX9_finds_136 rfl (fun q11 => ?_) (fun q11 => ?_)
      · have h := h.2 q11
        refine ab_iinc O ((x118_7 + (1))) dX9_finds_148 rfl rfl ?_
        refine ab_goto O 118 dX9_finds_151 rfl ?_
        exact ab_less (ih (V) ((x118_7 + (1))) h) (ab_le_s (ab_le_s (ab_le_s (ab_le_s (ab_le_n (ab_le_s (ab_le_s (ab_le_s ab_le_0))))))))
      · have h := h.1 q11
        refine ab_aload_n O 0 dX9_finds_139 rfl rfl ?_
        refine ab_get O fl_X9_25 dX9_finds_140 (at_57 _ _ _) rfl ?_
        refine ab_iload O dX9_finds_143 rfl ?_
        refine ab_iload O dX9_finds_145 rfl ?_
        refine ab_iast O dX9_finds_147 (at_63 _ _ _) h.1 ?_
        have h := h.2
        refine ab_eq ?_ rfl rfl rfl (sa_63 _ _ _ _ _).symm
        obtain ⟨V12, eV12⟩ : ∃ z : Mm, z = wr V 63 (Int32.toNatClampNeg (x118_7)) y118_5 := ⟨_, rfl⟩
        rw [← eV12]
        have h := h V12 eV12
        refine ab_iinc O ((x118_7 + (1))) dX9_finds_148 rfl rfl ?_
        refine ab_goto O 118 dX9_finds_151 rfl ?_
        exact ab_less (ih (V12) ((x118_7 + (1))) h) (ab_le_s (ab_le_s (ab_le_s (ab_le_s (ab_le_n (ab_le_s (ab_le_s (ab_le_s ab_le_0))))))))
set_option maxHeartbeats 4000000 in
theorem cl_X9_finds_66_L29 {X : ab_M} {g : ab_G} {l : Launch} {d : Nat} (hd : 2 ≤ d) (y29_1 : Int32) {post : Mm → Prop} {kx : Mm → Int32 → Prop} {o : Nat → Int64} {D : Nat → UInt64} (O : ab_Ok X g cX9_finds RX9) (I : ab_I X l tk_strs 8 none yX9_finds.name d 0 0) (hk : ∀ (V : Mm) (x29_3 : Int32), kx V x29_3 → Ab X g 0 0 (tk_Q X g (tk_V g (fun u => ∃ V : Mm, u = SW V o D ∧ post V)) (fun _ _ => False) 0 0) 160 [none, none, none, none, none, none, none, none] [] (SW V o D)) : ∀ (n : Nat) (V : Mm) (x29_3 : Int32), wp_X9_finds_66_L29 y29_1 post kx n V x29_3 → Ab X g 0 0 (tk_Q X g (tk_V g (fun u => ∃ V : Mm, u = SW V o D ∧ post V)) (fun _ _ => False) 0 0) 29 [some (.ref (57)), some (.int (y29_1)), some (.ref (66)), some (.int (x29_3)), none, none, none, none] [] (SW V o D) := by
  intro n
  induction n with
  | zero => intro V x29_3 h; exact h.elim
  | succ n ih =>
    intro V x29_3 h
    refine ab_iload_n O 3 dX9_finds_29 rfl rfl ?_
    refine ab_aload_n O 0 dX9_finds_30 rfl rfl ?_
    refine ab_get O fl_X9_64 dX9_finds_31 (at_57 _ _ _) rfl ?_
    refine ab_icmp_ge O 160 dX9_finds_34 rfl (fun q6 => ?_) (fun q6 => ?_)
    · have h := h.1 q6
      exact ab_less (hk (V) (x29_3) h) (ab_le_n (ab_le_n (ab_le_n (ab_le_n (ab_le_n (ab_le_n (ab_le_n (ab_le_n ab_le_0))))))))
    · have h := h.2 q6
      refine ab_aload_n O 0 dX9_finds_37 rfl rfl ?_
      refine ab_get O fl_X9_22 dX9_finds_38 (at_57 _ _ _) rfl ?_
      refine ab_iload_n O 3 dX9_finds_41 rfl rfl ?_
      refine ab_iald O dX9_finds_42 (at_62 _ _ _) h.1 ?_
      have h := h.2
      refine ab_istore O dX9_finds_43 (show 4 < 8 by decide) ?_
      refine ab_aload_n O 0 dX9_finds_45 rfl rfl ?_
      refine ab_get O fl_X9_25 dX9_finds_46 (at_57 _ _ _) rfl ?_
      refine ab_aload_n O 0 dX9_finds_49 rfl rfl ?_
      refine ab_get O fl_X9_13 dX9_finds_50 (at_57 _ _ _) rfl ?_
      refine ab_iload O dX9_finds_53 rfl ?_
      refine ab_iald O dX9_finds_55 (at_59 _ _ _) h.1 ?_
      have h := h.2
      refine ab_iald O dX9_finds_56 (at_63 _ _ _) h.1 ?_
      have h := h.2
      refine ab_istore O dX9_finds_57 (show 5 < 8 by decide) ?_
      refine ab_aload_n O 0 dX9_finds_59 rfl rfl ?_
      refine ab_get O fl_X9_25 dX9_finds_60 (at_57 _ _ _) rfl ?_
      refine ab_aload_n O 0 dX9_finds_63 rfl rfl ?_
      refine ab_get O fl_X9_16 dX9_finds_64 (at_57 _ _ _) rfl ?_
      refine ab_iload O dX9_finds_67 rfl ?_
      refine ab_iald O dX9_finds_69 (at_60 _ _ _) h.1 ?_
      have h := h.2
      refine ab_iald O dX9_finds_70 (at_63 _ _ _) h.1 ?_
      have h := h.2
      refine ab_istore O dX9_finds_71 (show 6 < 8 by decide) ?_
      refine ab_aload_n O 2 dX9_finds_73 rfl rfl ?_
      refine ab_iload O dX9_finds_74 rfl ?_
      refine ab_aload_n O 0 dX9_finds_76 rfl rfl ?_
      refine ab_get O fl_X9_28 dX9_finds_77 (at_57 _ _ _) rfl ?_
      refine ab_iload O dX9_finds_80 rfl ?_
      refine ab_zald O dX9_finds_82 (at_64 _ _ _) h.1 ?_
      have h := h.2
      refine ab_if_eq O 103 dX9_finds_83 rfl (fun q7 => ?_) (fun q7 => ?_)
      · have h := h.1 q7
        refine ab_iconst O 0 dX9_finds_103 rfl ?_
        refine ab_zast O dX9_finds_104 (at_66 _ _ _) h.1 ?_
        have h := h.2
        refine ab_eq ?_ rfl rfl rfl (sa_66 _ _ _ _ _).symm
        show Ab _ _ _ _ _ _ _ _ (SW (wr V 66 (Int32.toNatClampNeg ((V 62 (Int32.toNatClampNeg (x29_3))))) 0) _ _)
        obtain ⟨V8, eV8⟩ : ∃ z : Mm, z = wr V 66 (Int32.toNatClampNeg ((V 62 (Int32.toNatClampNeg (x29_3))))) 0 := ⟨_, rfl⟩
        rw [← eV8]
        have h := h V8 eV8
        refine ab_aload_n O 2 dX9_finds_105 rfl rfl ?_
        refine ab_iload O dX9_finds_106 rfl ?_
        refine ab_zald O dX9_finds_108 (at_66 _ _ _) h.1 ?_
        have h := h.2
        refine ab_if_ne O 115 dX9_finds_109 rfl (fun q9 => ?_) (fun q9 => ?_)
        · have h := h.2 q9
          refine ab_iconst O 0 dX9_finds_115 rfl ?_
          refine ab_istore O dX9_finds_116 (show 7 < 8 by decide) ?_
          obtain ⟨n9, h⟩ := h
          refine ab_less (cl_X9_finds_66_L118 hd (y29_1) (x29_3) ((V 63 (Int32.toNatClampNeg ((V 59 (Int32.toNatClampNeg ((V 62 (Int32.toNatClampNeg (x29_3)))))))))) ((V 63 (Int32.toNatClampNeg ((V 60 (Int32.toNatClampNeg ((V 62 (Int32.toNatClampNeg (x29_3)))))))))) O I (fun V13 x14 h => ?_) n9 (V8) (0) h) (ab_le_s (ab_le_s (ab_le_s (ab_le_s (ab_le_n (ab_le_s (ab_le_s (ab_le_s ab_le_0))))))))
          refine ab_iinc O ((x29_3 + (1))) dX9_finds_154 rfl rfl ?_
          refine ab_goto O 29 dX9_finds_157 rfl ?_
          exact ab_less (ih (V13) ((x29_3 + (1))) h) (ab_le_s (ab_le_s (ab_le_s (ab_le_s (ab_le_n (ab_le_n (ab_le_n (ab_le_n ab_le_0))))))))
        · have h := h.1 q9
          refine ab_goto O 154 dX9_finds_112 rfl ?_
          refine ab_iinc O ((x29_3 + (1))) dX9_finds_154 rfl rfl ?_
          refine ab_goto O 29 dX9_finds_157 rfl ?_
          exact ab_less (ih (V8) ((x29_3 + (1))) h) (ab_le_s (ab_le_s (ab_le_s (ab_le_s (ab_le_n (ab_le_n (ab_le_n (ab_le_n ab_le_0))))))))
      · have h := h.2 q7
        refine ab_iload O dX9_finds_86 rfl ?_
        refine ab_iload_n O 1 dX9_finds_88 rfl rfl ?_
        refine ab_icmp_eq O 103 dX9_finds_89 rfl (fun q15 => ?_) (fun q15 => ?_)
        · have h := h.1 q15
          refine ab_iconst O 0 dX9_finds_103 rfl ?_
          refine ab_zast O dX9_finds_104 (at_66 _ _ _) h.1 ?_
          have h := h.2
          refine ab_eq ?_ rfl rfl rfl (sa_66 _ _ _ _ _).symm
          show Ab _ _ _ _ _ _ _ _ (SW (wr V 66 (Int32.toNatClampNeg ((V 62 (Int32.toNatClampNeg (x29_3))))) 0) _ _)
          obtain ⟨V16, eV16⟩ : ∃ z : Mm, z = wr V 66 (Int32.toNatClampNeg ((V 62 (Int32.toNatClampNeg (x29_3))))) 0 := ⟨_, rfl⟩
          rw [← eV16]
          have h := h V16 eV16
          refine ab_aload_n O 2 dX9_finds_105 rfl rfl ?_
          refine ab_iload O dX9_finds_106 rfl ?_
          refine ab_zald O dX9_finds_108 (at_66 _ _ _) h.1 ?_
          have h := h.2
          refine ab_if_ne O 115 dX9_finds_109 rfl (fun q17 => ?_) (fun q17 => ?_)
          · have h := h.2 q17
            refine ab_iconst O 0 dX9_finds_115 rfl ?_
            refine ab_istore O dX9_finds_116 (show 7 < 8 by decide) ?_
            obtain ⟨n9, h⟩ := h
            refine ab_less (cl_X9_finds_66_L118 hd (y29_1) (x29_3) ((V 63 (Int32.toNatClampNeg ((V 59 (Int32.toNatClampNeg ((V 62 (Int32.toNatClampNeg (x29_3)))))))))) ((V 63 (Int32.toNatClampNeg ((V 60 (Int32.toNatClampNeg ((V 62 (Int32.toNatClampNeg (x29_3)))))))))) O I (fun V21 x22 h => ?_) n9 (V16) (0) h) (ab_le_s (ab_le_s (ab_le_s (ab_le_s (ab_le_n (ab_le_s (ab_le_s (ab_le_s ab_le_0))))))))
            refine ab_iinc O ((x29_3 + (1))) dX9_finds_154 rfl rfl ?_
            refine ab_goto O 29 dX9_finds_157 rfl ?_
            exact ab_less (ih (V21) ((x29_3 + (1))) h) (ab_le_s (ab_le_s (ab_le_s (ab_le_s (ab_le_n (ab_le_n (ab_le_n (ab_le_n ab_le_0))))))))
          · have h := h.1 q17
            refine ab_goto O 154 dX9_finds_112 rfl ?_
            refine ab_iinc O ((x29_3 + (1))) dX9_finds_154 rfl rfl ?_
            refine ab_goto O 29 dX9_finds_157 rfl ?_
            exact ab_less (ih (V16) ((x29_3 + (1))) h) (ab_le_s (ab_le_s (ab_le_s (ab_le_s (ab_le_n (ab_le_n (ab_le_n (ab_le_n ab_le_0))))))))
        · have h := h.2 q15
          refine ab_iload O dX9_finds_92 rfl ?_
          refine ab_iload O dX9_finds_94 rfl ?_
          refine ab_icmp_eq O 103 dX9_finds_96 rfl (fun q23 => ?_) (fun q23 => ?_)
          · have h := h.1 q23
            refine ab_iconst O 0 dX9_finds_103 rfl ?_
            refine ab_zast O dX9_finds_104 (at_66 _ _ _) h.1 ?_
            have h := h.2
            refine ab_eq ?_ rfl rfl rfl (sa_66 _ _ _ _ _).symm
            show Ab _ _ _ _ _ _ _ _ (SW (wr V 66 (Int32.toNatClampNeg ((V 62 (Int32.toNatClampNeg (x29_3))))) 0) _ _)
            obtain ⟨V24, eV24⟩ : ∃ z : Mm, z = wr V 66 (Int32.toNatClampNeg ((V 62 (Int32.toNatClampNeg (x29_3))))) 0 := ⟨_, rfl⟩
            rw [← eV24]
            have h := h V24 eV24
            refine ab_aload_n O 2 dX9_finds_105 rfl rfl ?_
            refine ab_iload O dX9_finds_106 rfl ?_
            refine ab_zald O dX9_finds_108 (at_66 _ _ _) h.1 ?_
            have h := h.2
            refine ab_if_ne O 115 dX9_finds_109 rfl (fun q25 => ?_) (fun q25 => ?_)
            · have h := h.2 q25
              refine ab_iconst O 0 dX9_finds_115 rfl ?_
              refine ab_istore O dX9_finds_116 (show 7 < 8 by decide) ?_
              obtain ⟨n9, h⟩ := h
              refine ab_less (cl_X9_finds_66_L118 hd (y29_1) (x29_3) ((V 63 (Int32.toNatClampNeg ((V 59 (Int32.toNatClampNeg ((V 62 (Int32.toNatClampNeg (x29_3)))))))))) ((V 63 (Int32.toNatClampNeg ((V 60 (Int32.toNatClampNeg ((V 62 (Int32.toNatClampNeg (x29_3)))))))))) O I (fun V29 x30 h => ?_) n9 (V24) (0) h) (ab_le_s (ab_le_s (ab_le_s (ab_le_s (ab_le_n (ab_le_s (ab_le_s (ab_le_s ab_le_0))))))))
              refine ab_iinc O ((x29_3 + (1))) dX9_finds_154 rfl rfl ?_
              refine ab_goto O 29 dX9_finds_157 rfl ?_
              exact ab_less (ih (V29) ((x29_3 + (1))) h) (ab_le_s (ab_le_s (ab_le_s (ab_le_s (ab_le_n (ab_le_n (ab_le_n (ab_le_n ab_le_0))))))))
            · have h := h.1 q25
              refine ab_goto O 154 dX9_finds_112 rfl ?_
              refine ab_iinc O ((x29_3 + (1))) dX9_finds_154 rfl rfl ?_
              refine ab_goto O 29 dX9_finds_157 rfl ?_
              exact ab_less (ih (V24) ((x29_3 + (1))) h) (ab_le_s (ab_le_s (ab_le_s (ab_le_s (ab_le_n (ab_le_n (ab_le_n (ab_le_n ab_le_0))))))))
          · have h := h.2 q23
            refine ab_iconst O 1 dX9_finds_99 rfl ?_
            refine ab_goto O 104 dX9_finds_100 rfl ?_
            refine ab_zast O dX9_finds_104 (at_66 _ _ _) h.1 ?_
            have h := h.2
            refine ab_eq ?_ rfl rfl rfl (sa_66 _ _ _ _ _).symm
            show Ab _ _ _ _ _ _ _ _ (SW (wr V 66 (Int32.toNatClampNeg ((V 62 (Int32.toNatClampNeg (x29_3))))) 1) _ _)
            obtain ⟨V31, eV31⟩ : ∃ z : Mm, z = wr V 66 (Int32.toNatClampNeg ((V 62 (Int32.toNatClampNeg (x29_3))))) 1 := ⟨_, rfl⟩
            rw [← eV31]
            have h := h V31 eV31
            refine ab_aload_n O 2 dX9_finds_105 rfl rfl ?_
            refine ab_iload O dX9_finds_106 rfl ?_
            refine ab_zald O dX9_finds_108 (at_66 _ _ _) h.1 ?_
            have h := h.2
            refine ab_if_ne O 115 dX9_finds_109 rfl (fun q32 => ?_) (fun q32 => ?_)
            · have h := h.2 q32
              refine ab_iconst O 0 dX9_finds_115 rfl ?_
              refine ab_istore O dX9_finds_116 (show 7 < 8 by decide) ?_
              obtain ⟨n9, h⟩ := h
              refine ab_less (cl_X9_finds_66_L118 hd (y29_1) (x29_3) ((V 63 (Int32.toNatClampNeg ((V 59 (Int32.toNatClampNeg ((V 62 (Int32.toNatClampNeg (x29_3)))))))))) ((V 63 (Int32.toNatClampNeg ((V 60 (Int32.toNatClampNeg ((V 62 (Int32.toNatClampNeg (x29_3)))))))))) O I (fun V36 x37 h => ?_) n9 (V31) (0) h) (ab_le_s (ab_le_s (ab_le_s (ab_le_s (ab_le_n (ab_le_s (ab_le_s (ab_le_s ab_le_0))))))))
              refine ab_iinc O ((x29_3 + (1))) dX9_finds_154 rfl rfl ?_
              refine ab_goto O 29 dX9_finds_157 rfl ?_
              exact ab_less (ih (V36) ((x29_3 + (1))) h) (ab_le_s (ab_le_s (ab_le_s (ab_le_s (ab_le_n (ab_le_n (ab_le_n (ab_le_n ab_le_0))))))))
            · have h := h.1 q32
              refine ab_goto O 154 dX9_finds_112 rfl ?_
              refine ab_iinc O ((x29_3 + (1))) dX9_finds_154 rfl rfl ?_
              refine ab_goto O 29 dX9_finds_157 rfl ?_
              exact ab_less (ih (V31) ((x29_3 + (1))) h) (ab_le_s (ab_le_s (ab_le_s (ab_le_s (ab_le_n (ab_le_n (ab_le_n (ab_le_n ab_le_0))))))))
set_option maxHeartbeats 4000000 in
theorem c_X9_finds_66 (d : Nat) (hd : 2 ≤ d) (l : Launch) (hl : l.stackTraces = false) (g : ab_G) (o : Nat → Int64) (D : Nat → UInt64) (a0 : Int32) {V : Mm} {post : Mm → Prop} (h : wp_X9_finds_66 V a0 post) : Ct l g tk_strs False d 0 0 yX9_finds cX9_finds 8 none [.ref 57, .int a0, .ref 66] (SW V o D) (tk_V g (fun u => ∃ V : Mm, u = SW V o D ∧ post V)) (fun _ _ => False) := by
  refine ct_in (by decide +kernel) (show 3 ≤ 8 by decide) (by simp [Value.category]) hl (fun X I O _ => ?_)
  show Ab X g 0 0 _ 0 [some (.ref (57)), some (.int (a0)), some (.ref (66)), none, none, none, none, none] [] _
  refine ab_aload_n O 0 dX9_finds_0 rfl rfl ?_
  refine ab_callvV O I.2.2.2.2.2.2 (fr := False) (st := []) lk_X9_71 rfl (at_57 _ _ _) dX9_finds_1 (c_X9_sorts (d - 1) (by omega) _ O.2.2.2.2.2.2.1 _ _ _ h) rfl rfl ⟨by rw [I.2.1]; show d - 1 + 1 ≤ d; omega, by rw [I.2.1]; show 8 + (_ + 11) + 36 * (d - 1) ≤ 36 * d; omega⟩ (show 0 ≤ 8 by decide) ⟨by rw [I.2.1]; show 0 + 0 ≤ 0; decide, by rw [I.2.1]; show 0 + 0 ≤ 0; decide⟩ (fun q => q.elim) (fun E u q => q.elim) (fun u hu => ?_)
  obtain ⟨V1, rfl, h⟩ := hu
  refine ab_iconst O 0 dX9_finds_4 rfl ?_
  refine ab_istore_n O 3 dX9_finds_5 rfl (show 3 < 8 by decide) ?_
  obtain ⟨n9, h⟩ := h
  refine ab_less (cl_X9_finds_66_L6 hd (a0) O I (fun V4 x5 h => ?_) n9 (V1) (0) h) (ab_le_s (ab_le_s (ab_le_s (ab_le_s (ab_le_n (ab_le_n (ab_le_n (ab_le_n ab_le_0))))))))
  refine ab_iconst O 0 dX9_finds_27 rfl ?_
  refine ab_istore_n O 3 dX9_finds_28 rfl (show 3 < 8 by decide) ?_
  obtain ⟨n9, h⟩ := h
  refine ab_less (cl_X9_finds_66_L29 hd (a0) O I (fun V38 x39 h => ?_) n9 (V4) (0) h) (ab_le_s (ab_le_s (ab_le_s (ab_le_s (ab_le_n (ab_le_n (ab_le_n (ab_le_n ab_le_0))))))))
  exact ab_return O I dX9_finds_160 (by decide) (by decide) ⟨_, rfl, h⟩

def wp_X9_joining_L13 (post : Int32 → Mm → Prop) (kx : Mm → Int32 → Int32 → Prop) : Nat → Mm → Int32 → Int32 → Prop
  | 0, _, _, _ => False
  | n13 + 1, V, x13_2, x13_3 => (((V 57 10) ≤ x13_3 → kx (V) (x13_2) (x13_3)) ∧ (¬ (V 57 10) ≤ x13_3 → (vp_in x13_3 60 ∧ (((V 66 (Int32.toNatClampNeg (x13_3))) = 0 → wp_X9_joining_L13 post kx n13 (V) (x13_2) ((x13_3 + (1)))) ∧ (¬ (V 66 (Int32.toNatClampNeg (x13_3))) = 0 → (vp_in x13_3 60 ∧ (((V 65 (Int32.toNatClampNeg (x13_3))) = 0 → wp_X9_joining_L13 post kx n13 (V) (x13_3) ((x13_3 + (1)))) ∧ (¬ (V 65 (Int32.toNatClampNeg (x13_3))) = 0 → wp_X9_joining_L13 post kx n13 (V) (x13_2) ((x13_3 + (1)))))))))))

def wp_X9_joining (V : Mm) (a0 : Int32) (post : Int32 → Mm → Prop) : Prop := (wp_X9_finds_66 V (a0) (fun (V1 : Mm) => (∃ m13 : Nat, wp_X9_joining_L13 post (fun (V5 : Mm) (x6 : Int32) (x7 : Int32) => (wp_X9_finds_ V5 (fun (V8 : Mm) => post x6 V8))) m13 (V1) ((-1)) (0))))
set_option maxHeartbeats 4000000 in
theorem cl_X9_joining_L13 {X : ab_M} {g : ab_G} {l : Launch} {d : Nat} (hd : 4 ≤ d) {post : Int32 → Mm → Prop} {kx : Mm → Int32 → Int32 → Prop} {o : Nat → Int64} {D : Nat → UInt64} (O : ab_Ok X g cX9_joining RX9) (I : ab_I X l tk_strs 4 (some .int) yX9_joining.name d 0 0) (hk : ∀ (V : Mm) (x13_2 : Int32) (x13_3 : Int32), kx V x13_2 x13_3 → Ab X g 0 0 (tk_Q X g (tk_I g (fun r u => ∃ V : Mm, u = SW V o D ∧ post r V)) (fun _ _ => False) 0 0) 47 [some (.ref (57)), none, some (.int (x13_2)), none] [] (SW V o D)) : ∀ (n : Nat) (V : Mm) (x13_2 : Int32) (x13_3 : Int32), wp_X9_joining_L13 post kx n V x13_2 x13_3 → Ab X g 0 0 (tk_Q X g (tk_I g (fun r u => ∃ V : Mm, u = SW V o D ∧ post r V)) (fun _ _ => False) 0 0) 13 [some (.ref (57)), none, some (.int (x13_2)), some (.int (x13_3))] [] (SW V o D) := by
  intro n
  induction n with
  | zero => intro V x13_2 x13_3 h; exact h.elim
  | succ n ih =>
    intro V x13_2 x13_3 h
    refine ab_iload_n O 3 dX9_joining_13 rfl rfl ?_
    refine ab_aload_n O 0 dX9_joining_14 rfl rfl ?_
    refine ab_get O fl_X9_64 dX9_joining_15 (at_57 _ _ _) rfl ?_
    refine ab_icmp_ge O 47 dX9_joining_18 rfl (fun q2 => ?_) (fun q2 => ?_)
    · have h := h.1 q2
      exact ab_less (hk (V) (x13_2) (x13_3) h) (ab_le_s (ab_le_n (ab_le_s (ab_le_n ab_le_0))))
    · have h := h.2 q2
      refine ab_aload_n O 0 dX9_joining_21 rfl rfl ?_
      refine ab_get O fl_X9_35 dX9_joining_22 (at_57 _ _ _) rfl ?_
      refine ab_iload_n O 3 dX9_joining_25 rfl rfl ?_
      refine ab_zald O dX9_joining_26 (at_66 _ _ _) h.1 ?_
      have h := h.2
      refine ab_if_eq O 41 dX9_joining_27 rfl (fun q3 => ?_) (fun q3 => ?_)
      · have h := h.1 q3
        refine ab_iinc O ((x13_3 + (1))) dX9_joining_41 rfl rfl ?_
        refine ab_goto O 13 dX9_joining_44 rfl ?_
        exact ab_less (ih (V) (x13_2) ((x13_3 + (1))) h) (ab_le_s (ab_le_n (ab_le_s (ab_le_s ab_le_0))))
      · have h := h.2 q3
        refine ab_aload_n O 0 dX9_joining_30 rfl rfl ?_
        refine ab_get O fl_X9_32 dX9_joining_31 (at_57 _ _ _) rfl ?_
        refine ab_iload_n O 3 dX9_joining_34 rfl rfl ?_
        refine ab_zald O dX9_joining_35 (at_65 _ _ _) h.1 ?_
        have h := h.2
        refine ab_if_ne O 41 dX9_joining_36 rfl (fun q4 => ?_) (fun q4 => ?_)
        · have h := h.2 q4
          refine ab_iinc O ((x13_3 + (1))) dX9_joining_41 rfl rfl ?_
          refine ab_goto O 13 dX9_joining_44 rfl ?_
          exact ab_less (ih (V) (x13_2) ((x13_3 + (1))) h) (ab_le_s (ab_le_n (ab_le_s (ab_le_s ab_le_0))))
        · have h := h.1 q4
          refine ab_iload_n O 3 dX9_joining_39 rfl rfl ?_
          refine ab_istore_n O 2 dX9_joining_40 rfl (show 2 < 4 by decide) ?_
          refine ab_iinc O ((x13_3 + (1))) dX9_joining_41 rfl rfl ?_
          refine ab_goto O 13 dX9_joining_44 rfl ?_
          exact ab_less (ih (V) (x13_3) ((x13_3 + (1))) h) (ab_le_s (ab_le_n (ab_le_s (ab_le_s ab_le_0))))
set_option maxHeartbeats 4000000 in
theorem c_X9_joining (d : Nat) (hd : 4 ≤ d) (l : Launch) (hl : l.stackTraces = false) (g : ab_G) (o : Nat → Int64) (D : Nat → UInt64) (a0 : Int32) {V : Mm} {post : Int32 → Mm → Prop} (h : wp_X9_joining V a0 post) : Ct l g tk_strs False d 0 0 yX9_joining cX9_joining 4 (some .int) [.ref 57, .int a0] (SW V o D) (tk_I g (fun r u => ∃ V : Mm, u = SW V o D ∧ post r V)) (fun _ _ => False) := by
  refine ct_in (by decide +kernel) (show 2 ≤ 4 by decide) (by simp [Value.category]) hl (fun X I O _ => ?_)
  show Ab X g 0 0 _ 0 [some (.ref (57)), some (.int (a0)), none, none] [] _
  refine ab_aload_n O 0 dX9_joining_0 rfl rfl ?_
  refine ab_iload_n O 1 dX9_joining_1 rfl rfl ?_
  refine ab_aload_n O 0 dX9_joining_2 rfl rfl ?_
  refine ab_get O fl_X9_35 dX9_joining_3 (at_57 _ _ _) rfl ?_
  refine ab_callvV O I.2.2.2.2.2.2 (fr := False) (st := []) lk_X9_74 rfl (at_57 _ _ _) dX9_joining_6 (c_X9_finds_66 (d - 1) (by omega) _ O.2.2.2.2.2.2.1 _ _ _ _ h) rfl rfl ⟨by rw [I.2.1]; show d - 1 + 1 ≤ d; omega, by rw [I.2.1]; show 8 + (_ + 11) + 36 * (d - 1) ≤ 36 * d; omega⟩ (show 0 ≤ 8 by decide) ⟨by rw [I.2.1]; show 0 + 0 ≤ 0; decide, by rw [I.2.1]; show 0 + 0 ≤ 0; decide⟩ (fun q => q.elim) (fun E u q => q.elim) (fun u hu => ?_)
  obtain ⟨V1, rfl, h⟩ := hu
  refine ab_iconst O (-1) dX9_joining_9 rfl ?_
  refine ab_istore_n O 2 dX9_joining_10 rfl (show 2 < 4 by decide) ?_
  refine ab_iconst O 0 dX9_joining_11 rfl ?_
  refine ab_istore_n O 3 dX9_joining_12 rfl (show 3 < 4 by decide) ?_
  obtain ⟨n9, h⟩ := h
  refine ab_less (cl_X9_joining_L13 hd O I (fun V5 x6 x7 h => ?_) n9 (V1) ((-1)) (0) h) (ab_le_s (ab_le_n (ab_le_s (ab_le_s ab_le_0))))
  refine ab_aload_n O 0 dX9_joining_47 rfl rfl ?_
  refine ab_callvV O I.2.2.2.2.2.2 (fr := False) (st := []) lk_X9_82 rfl (at_57 _ _ _) dX9_joining_48 (c_X9_finds_ (d - 1) (by omega) _ O.2.2.2.2.2.2.1 _ _ _ h) rfl rfl ⟨by rw [I.2.1]; show d - 1 + 1 ≤ d; omega, by rw [I.2.1]; show 8 + (_ + 11) + 36 * (d - 1) ≤ 36 * d; omega⟩ (show 0 ≤ 8 by decide) ⟨by rw [I.2.1]; show 0 + 0 ≤ 0; decide, by rw [I.2.1]; show 0 + 0 ≤ 0; decide⟩ (fun q => q.elim) (fun E u q => q.elim) (fun u hu => ?_)
  obtain ⟨V8, rfl, h⟩ := hu
  refine ab_iload_n O 2 dX9_joining_51 rfl rfl ?_
  exact ab_ireturn O I dX9_joining_52 (by decide) (by decide) (by rfl) ⟨_, rfl, h⟩

def wp_X9_last_L27 (y27_2 : Int32) (post : Int32 → Mm → Prop) (kx : Mm → Int32 → Int32 → Prop) : Nat → Mm → Int32 → Int32 → Prop
  | 0, _, _, _ => False
  | n27 + 1, V, x27_3, x27_4 => ((x27_4 = y27_2 → kx (V) (x27_3) (x27_4)) ∧ (¬ x27_4 = y27_2 → (vp_in x27_4 20 ∧ (wp_X9_between V (x27_4) ((V 67 (Int32.toNatClampNeg (x27_4)))) (fun (r7 : Int32) (V6 : Mm) => ((x27_3 < 0 → (vp_in x27_4 20 ∧ wp_X9_last_L27 y27_2 post kx n27 (V6) (r7) ((V6 67 (Int32.toNatClampNeg (x27_4)))))) ∧ (¬ x27_3 < 0 → (wp_X9_comesBefore V6 (x27_3) (r7) (fun (r10 : Int32) (V9 : Mm) => ((r10 = 0 → (vp_in x27_4 20 ∧ wp_X9_last_L27 y27_2 post kx n27 (V9) (x27_3) ((V9 67 (Int32.toNatClampNeg (x27_4)))))) ∧ (¬ r10 = 0 → (vp_in x27_4 20 ∧ wp_X9_last_L27 y27_2 post kx n27 (V9) (r7) ((V9 67 (Int32.toNatClampNeg (x27_4))))))))))))))))

def wp_X9_last (V : Mm) (a0 a1 : Int32) (post : Int32 → Mm → Prop) : Prop := (wp_X9_isApart V (a1) (a0) (fun (r2 : Int32) (V1 : Mm) => ((r2 = 0 → ((a0 = a1 → (wp_X9_fails V1 (3) (fun (r16 : Int32) (V15 : Mm) => post r16 V15))) ∧ (¬ a0 = a1 → (∃ m27 : Nat, wp_X9_last_L27 (a1) post (fun (V12 : Mm) (x13 : Int32) (x14 : Int32) => post x13 V12) m27 (V1) ((-1)) (a0))))) ∧ (¬ r2 = 0 → post 0 V1))))
set_option maxHeartbeats 4000000 in
theorem cl_X9_last_L27 {X : ab_M} {g : ab_G} {l : Launch} {d : Nat} (hd : 3 ≤ d) (y27_2 : Int32) {post : Int32 → Mm → Prop} {kx : Mm → Int32 → Int32 → Prop} {o : Nat → Int64} {D : Nat → UInt64} (O : ab_Ok X g cX9_last RX9) (I : ab_I X l tk_strs 6 (some .int) yX9_last.name d 0 0) (hk : ∀ (V : Mm) (x27_3 : Int32) (x27_4 : Int32), kx V x27_3 x27_4 → Ab X g 0 0 (tk_Q X g (tk_I g (fun r u => ∃ V : Mm, u = SW V o D ∧ post r V)) (fun _ _ => False) 0 0) 77 [none, none, none, some (.int (x27_3)), none, none] [] (SW V o D)) : ∀ (n : Nat) (V : Mm) (x27_3 : Int32) (x27_4 : Int32), wp_X9_last_L27 y27_2 post kx n V x27_3 x27_4 → Ab X g 0 0 (tk_Q X g (tk_I g (fun r u => ∃ V : Mm, u = SW V o D ∧ post r V)) (fun _ _ => False) 0 0) 27 [some (.ref (57)), none, some (.int (y27_2)), some (.int (x27_3)), some (.int (x27_4)), none] [] (SW V o D) := by
  intro n
  induction n with
  | zero => intro V x27_3 x27_4 h; exact h.elim
  | succ n ih =>
    intro V x27_3 x27_4 h
    refine ab_iload O dX9_last_27 rfl ?_
    refine ab_iload_n O 2 dX9_last_29 rfl rfl ?_
    refine ab_icmp_eq O 77 dX9_last_30 rfl (fun q5 => ?_) (fun q5 => ?_)
    · have h := h.1 q5
      exact ab_less (hk (V) (x27_3) (x27_4) h) (ab_le_n (ab_le_n (ab_le_n (ab_le_s (ab_le_n (ab_le_n ab_le_0))))))
    · have h := h.2 q5
      refine ab_aload_n O 0 dX9_last_33 rfl rfl ?_
      refine ab_iload O dX9_last_34 rfl ?_
      refine ab_aload_n O 0 dX9_last_36 rfl rfl ?_
      refine ab_get O fl_X9_38 dX9_last_37 (at_57 _ _ _) rfl ?_
      refine ab_iload O dX9_last_40 rfl ?_
      refine ab_iald O dX9_last_42 (at_67 _ _ _) h.1 ?_
      have h := h.2
      refine ab_callvI O I.2.2.2.2.2.2 (fr := False) (st := []) lk_X9_124 rfl (at_57 _ _ _) dX9_last_43 (c_X9_between (d - 1) (by omega) _ O.2.2.2.2.2.2.1 _ _ _ _ _ h) rfl rfl ⟨by rw [I.2.1]; show d - 1 + 1 ≤ d; omega, by rw [I.2.1]; show 8 + (_ + 11) + 36 * (d - 1) ≤ 36 * d; omega⟩ (show 0 ≤ 8 by decide) ⟨by rw [I.2.1]; show 0 + 0 ≤ 0; decide, by rw [I.2.1]; show 0 + 0 ≤ 0; decide⟩ (fun q => q.elim) (fun E u q => q.elim) (fun r7 u hu => ?_)
      obtain ⟨V6, rfl, h⟩ := hu
      refine ab_istore O dX9_last_46 (show 5 < 6 by decide) ?_
      refine ab_iload_n O 3 dX9_last_48 rfl rfl ?_
      refine ab_if_lt O 62 dX9_last_49 rfl (fun q8 => ?_) (fun q8 => ?_)
      · have h := h.1 q8
        refine ab_iload O dX9_last_62 rfl ?_
        refine ab_istore_n O 3 dX9_last_64 rfl (show 3 < 6 by decide) ?_
        refine ab_aload_n O 0 dX9_last_65 rfl rfl ?_
        refine ab_get O fl_X9_38 dX9_last_66 (at_57 _ _ _) rfl ?_
        refine ab_iload O dX9_last_69 rfl ?_
        refine ab_iald O dX9_last_71 (at_67 _ _ _) h.1 ?_
        have h := h.2
        refine ab_istore O dX9_last_72 (show 4 < 6 by decide) ?_
        refine ab_goto O 27 dX9_last_74 rfl ?_
        exact ab_less (ih (V6) (r7) ((V6 67 (Int32.toNatClampNeg (x27_4)))) h) (ab_le_s (ab_le_n (ab_le_s (ab_le_s (ab_le_s (ab_le_n ab_le_0))))))
      · have h := h.2 q8
        refine ab_aload_n O 0 dX9_last_52 rfl rfl ?_
        refine ab_iload_n O 3 dX9_last_53 rfl rfl ?_
        refine ab_iload O dX9_last_54 rfl ?_
        refine ab_callvI O I.2.2.2.2.2.2 (fr := False) (st := []) lk_X9_67 rfl (at_57 _ _ _) dX9_last_56 (c_X9_comesBefore (d - 1) (by omega) _ O.2.2.2.2.2.2.1 _ _ _ _ _ h) rfl rfl ⟨by rw [I.2.1]; show d - 1 + 1 ≤ d; omega, by rw [I.2.1]; show 8 + (_ + 11) + 36 * (d - 1) ≤ 36 * d; omega⟩ (show 0 ≤ 8 by decide) ⟨by rw [I.2.1]; show 0 + 0 ≤ 0; decide, by rw [I.2.1]; show 0 + 0 ≤ 0; decide⟩ (fun q => q.elim) (fun E u q => q.elim) (fun r10 u hu => ?_)
        obtain ⟨V9, rfl, h⟩ := hu
        refine ab_if_eq O 65 dX9_last_59 rfl (fun q11 => ?_) (fun q11 => ?_)
        · have h := h.1 q11
          refine ab_aload_n O 0 dX9_last_65 rfl rfl ?_
          refine ab_get O fl_X9_38 dX9_last_66 (at_57 _ _ _) rfl ?_
          refine ab_iload O dX9_last_69 rfl ?_
          refine ab_iald O dX9_last_71 (at_67 _ _ _) h.1 ?_
          have h := h.2
          refine ab_istore O dX9_last_72 (show 4 < 6 by decide) ?_
          refine ab_goto O 27 dX9_last_74 rfl ?_
          exact ab_less (ih (V9) (x27_3) ((V9 67 (Int32.toNatClampNeg (x27_4)))) h) (ab_le_s (ab_le_n (ab_le_s (ab_le_s (ab_le_s (ab_le_n ab_le_0))))))
        · have h := h.2 q11
          refine ab_iload O dX9_last_62 rfl ?_
          refine ab_istore_n O 3 dX9_last_64 rfl (show 3 < 6 by decide) ?_
          refine ab_aload_n O 0 dX9_last_65 rfl rfl ?_
          refine ab_get O fl_X9_38 dX9_last_66 (at_57 _ _ _) rfl ?_
          refine ab_iload O dX9_last_69 rfl ?_
          refine ab_iald O dX9_last_71 (at_67 _ _ _) h.1 ?_
          have h := h.2
          refine ab_istore O dX9_last_72 (show 4 < 6 by decide) ?_
          refine ab_goto O 27 dX9_last_74 rfl ?_
          exact ab_less (ih (V9) (r7) ((V9 67 (Int32.toNatClampNeg (x27_4)))) h) (ab_le_s (ab_le_n (ab_le_s (ab_le_s (ab_le_s (ab_le_n ab_le_0))))))
set_option maxHeartbeats 4000000 in
theorem c_X9_last (d : Nat) (hd : 3 ≤ d) (l : Launch) (hl : l.stackTraces = false) (g : ab_G) (o : Nat → Int64) (D : Nat → UInt64) (a0 : Int32) (a1 : Int32) {V : Mm} {post : Int32 → Mm → Prop} (h : wp_X9_last V a0 a1 post) : Ct l g tk_strs False d 0 0 yX9_last cX9_last 6 (some .int) [.ref 57, .int a0, .int a1] (SW V o D) (tk_I g (fun r u => ∃ V : Mm, u = SW V o D ∧ post r V)) (fun _ _ => False) := by
  refine ct_in (by decide +kernel) (show 3 ≤ 6 by decide) (by simp [Value.category]) hl (fun X I O _ => ?_)
  show Ab X g 0 0 _ 0 [some (.ref (57)), some (.int (a0)), some (.int (a1)), none, none, none] [] _
  refine ab_aload_n O 0 dX9_last_0 rfl rfl ?_
  refine ab_iload_n O 2 dX9_last_1 rfl rfl ?_
  refine ab_iload_n O 1 dX9_last_2 rfl rfl ?_
  refine ab_callvI O I.2.2.2.2.2.2 (fr := False) (st := []) lk_X9_117 rfl (at_57 _ _ _) dX9_last_3 (c_X9_isApart (d - 1) (by omega) _ O.2.2.2.2.2.2.1 _ _ _ _ _ h) rfl rfl ⟨by rw [I.2.1]; show d - 1 + 1 ≤ d; omega, by rw [I.2.1]; show 8 + (_ + 11) + 36 * (d - 1) ≤ 36 * d; omega⟩ (show 0 ≤ 8 by decide) ⟨by rw [I.2.1]; show 0 + 0 ≤ 0; decide, by rw [I.2.1]; show 0 + 0 ≤ 0; decide⟩ (fun q => q.elim) (fun E u q => q.elim) (fun r2 u hu => ?_)
  obtain ⟨V1, rfl, h⟩ := hu
  refine ab_if_eq O 11 dX9_last_6 rfl (fun q3 => ?_) (fun q3 => ?_)
  · have h := h.1 q3
    refine ab_iload_n O 1 dX9_last_11 rfl rfl ?_
    refine ab_iload_n O 2 dX9_last_12 rfl rfl ?_
    refine ab_icmp_ne O 22 dX9_last_13 rfl (fun q4 => ?_) (fun q4 => ?_)
    · have h := h.2 q4
      refine ab_iconst O (-1) dX9_last_22 rfl ?_
      refine ab_istore_n O 3 dX9_last_23 rfl (show 3 < 6 by decide) ?_
      refine ab_iload_n O 1 dX9_last_24 rfl rfl ?_
      refine ab_istore O dX9_last_25 (show 4 < 6 by decide) ?_
      obtain ⟨n9, h⟩ := h
      refine ab_less (cl_X9_last_L27 hd (a1) O I (fun V12 x13 x14 h => ?_) n9 (V1) ((-1)) (a0) h) (ab_le_s (ab_le_n (ab_le_s (ab_le_s (ab_le_s (ab_le_n ab_le_0))))))
      refine ab_iload_n O 3 dX9_last_77 rfl rfl ?_
      exact ab_ireturn O I dX9_last_78 (by decide) (by decide) (by rfl) ⟨_, rfl, h⟩
    · have h := h.1 q4
      refine ab_aload_n O 0 dX9_last_16 rfl rfl ?_
      refine ab_iconst O 3 dX9_last_17 rfl ?_
      refine ab_callvI O I.2.2.2.2.2.2 (fr := False) (st := []) lk_X9_78 rfl (at_57 _ _ _) dX9_last_18 (c_X9_fails (d - 1) (by omega) _ O.2.2.2.2.2.2.1 _ _ _ _ h) rfl rfl ⟨by rw [I.2.1]; show d - 1 + 1 ≤ d; omega, by rw [I.2.1]; show 8 + (_ + 11) + 36 * (d - 1) ≤ 36 * d; omega⟩ (show 0 ≤ 8 by decide) ⟨by rw [I.2.1]; show 0 + 0 ≤ 0; decide, by rw [I.2.1]; show 0 + 0 ≤ 0; decide⟩ (fun q => q.elim) (fun E u q => q.elim) (fun r16 u hu => ?_)
      obtain ⟨V15, rfl, h⟩ := hu
      exact ab_ireturn O I dX9_last_21 (by decide) (by decide) (by rfl) ⟨_, rfl, h⟩
  · have h := h.2 q3
    refine ab_iconst O 0 dX9_last_9 rfl ?_
    exact ab_ireturn O I dX9_last_10 (by decide) (by decide) (by rfl) ⟨_, rfl, h⟩

def wp_X9_lastByWalk (V : Mm) (a0 a1 : Int32) (post : Int32 → Mm → Prop) : Prop := (wp_X9_last V (a0) (a1) (fun (r2 : Int32) (V1 : Mm) => post r2 V1))
set_option maxHeartbeats 4000000 in
theorem c_X9_lastByWalk (d : Nat) (hd : 4 ≤ d) (l : Launch) (hl : l.stackTraces = false) (g : ab_G) (o : Nat → Int64) (D : Nat → UInt64) (a0 : Int32) (a1 : Int32) {V : Mm} {post : Int32 → Mm → Prop} (h : wp_X9_lastByWalk V a0 a1 post) : Ct l g tk_strs False d 0 0 yX9_lastByWalk cX9_lastByWalk 3 (some .int) [.ref 57, .int a0, .int a1] (SW V o D) (tk_I g (fun r u => ∃ V : Mm, u = SW V o D ∧ post r V)) (fun _ _ => False) := by
  refine ct_in (by decide +kernel) (show 3 ≤ 3 by decide) (by simp [Value.category]) hl (fun X I O _ => ?_)
  show Ab X g 0 0 _ 0 [some (.ref (57)), some (.int (a0)), some (.int (a1))] [] _
  refine ab_aload_n O 0 dX9_lastByWalk_0 rfl rfl ?_
  refine ab_iload_n O 1 dX9_lastByWalk_1 rfl rfl ?_
  refine ab_iload_n O 2 dX9_lastByWalk_2 rfl rfl ?_
  refine ab_callvI O I.2.2.2.2.2.2 (fr := False) (st := []) lk_X9_127 rfl (at_57 _ _ _) dX9_lastByWalk_3 (c_X9_last (d - 1) (by omega) _ O.2.2.2.2.2.2.1 _ _ _ _ _ h) rfl rfl ⟨by rw [I.2.1]; show d - 1 + 1 ≤ d; omega, by rw [I.2.1]; show 8 + (_ + 11) + 36 * (d - 1) ≤ 36 * d; omega⟩ (show 0 ≤ 8 by decide) ⟨by rw [I.2.1]; show 0 + 0 ≤ 0; decide, by rw [I.2.1]; show 0 + 0 ≤ 0; decide⟩ (fun q => q.elim) (fun E u q => q.elim) (fun r2 u hu => ?_)
  obtain ⟨V1, rfl, h⟩ := hu
  exact ab_ireturn O I dX9_lastByWalk_6 (by decide) (by decide) (by rfl) ⟨_, rfl, h⟩

def wp_X9_lightEdges_L16 (y16_1 : Int32) (post : Int32 → Mm → Prop) (kx : Mm → Int32 → Int32 → Prop) : Nat → Mm → Int32 → Int32 → Prop
  | 0, _, _, _ => False
  | n16 + 1, V, x16_3, x16_4 => ((x16_4 = y16_1 → kx (V) (x16_3) (x16_4)) ∧ (¬ x16_4 = y16_1 → (wp_X9_isHead V (x16_4) (fun (r6 : Int32) (V5 : Mm) => ((r6 = 0 → (vp_in x16_4 20 ∧ wp_X9_lightEdges_L16 y16_1 post kx n16 (V5) ((x16_3 + 0)) ((V5 67 (Int32.toNatClampNeg (x16_4)))))) ∧ (¬ r6 = 0 → (vp_in x16_4 20 ∧ wp_X9_lightEdges_L16 y16_1 post kx n16 (V5) ((x16_3 + 1)) ((V5 67 (Int32.toNatClampNeg (x16_4)))))))))))

def wp_X9_lightEdges (V : Mm) (a0 a1 : Int32) (post : Int32 → Mm → Prop) : Prop := (wp_X9_isApart V (a0) (a1) (fun (r2 : Int32) (V1 : Mm) => ((r2 = 0 → (∃ m16 : Nat, wp_X9_lightEdges_L16 (a0) post (fun (V8 : Mm) (x9 : Int32) (x10 : Int32) => post x9 V8) m16 (V1) (0) (a1))) ∧ (¬ r2 = 0 → post 0 V1))))
set_option maxHeartbeats 4000000 in
theorem cl_X9_lightEdges_L16 {X : ab_M} {g : ab_G} {l : Launch} {d : Nat} (hd : 3 ≤ d) (y16_1 : Int32) {post : Int32 → Mm → Prop} {kx : Mm → Int32 → Int32 → Prop} {o : Nat → Int64} {D : Nat → UInt64} (O : ab_Ok X g cX9_lightEdges RX9) (I : ab_I X l tk_strs 5 (some .int) yX9_lightEdges.name d 0 0) (hk : ∀ (V : Mm) (x16_3 : Int32) (x16_4 : Int32), kx V x16_3 x16_4 → Ab X g 0 0 (tk_Q X g (tk_I g (fun r u => ∃ V : Mm, u = SW V o D ∧ post r V)) (fun _ _ => False) 0 0) 51 [none, none, none, some (.int (x16_3)), none] [] (SW V o D)) : ∀ (n : Nat) (V : Mm) (x16_3 : Int32) (x16_4 : Int32), wp_X9_lightEdges_L16 y16_1 post kx n V x16_3 x16_4 → Ab X g 0 0 (tk_Q X g (tk_I g (fun r u => ∃ V : Mm, u = SW V o D ∧ post r V)) (fun _ _ => False) 0 0) 16 [some (.ref (57)), some (.int (y16_1)), none, some (.int (x16_3)), some (.int (x16_4))] [] (SW V o D) := by
  intro n
  induction n with
  | zero => intro V x16_3 x16_4 h; exact h.elim
  | succ n ih =>
    intro V x16_3 x16_4 h
    refine ab_iload O dX9_lightEdges_16 rfl ?_
    refine ab_iload_n O 1 dX9_lightEdges_18 rfl rfl ?_
    refine ab_icmp_eq O 51 dX9_lightEdges_19 rfl (fun q4 => ?_) (fun q4 => ?_)
    · have h := h.1 q4
      exact ab_less (hk (V) (x16_3) (x16_4) h) (ab_le_n (ab_le_n (ab_le_n (ab_le_s (ab_le_n ab_le_0)))))
    · have h := h.2 q4
      refine ab_iload_n O 3 dX9_lightEdges_22 rfl rfl ?_
      refine ab_aload_n O 0 dX9_lightEdges_23 rfl rfl ?_
      refine ab_iload O dX9_lightEdges_24 rfl ?_
      refine ab_callvI O I.2.2.2.2.2.2 (fr := False) (st := [.int (x16_3)]) lk_X9_140 rfl (at_57 _ _ _) dX9_lightEdges_26 (c_X9_isHead (d - 1) (by omega) _ O.2.2.2.2.2.2.1 _ _ _ _ h) rfl rfl ⟨by rw [I.2.1]; show d - 1 + 1 ≤ d; omega, by rw [I.2.1]; show 8 + (_ + 11) + 36 * (d - 1) ≤ 36 * d; omega⟩ (show 1 ≤ 8 by decide) ⟨by rw [I.2.1]; show 0 + 0 ≤ 0; decide, by rw [I.2.1]; show 0 + 0 ≤ 0; decide⟩ (fun q => q.elim) (fun E u q => q.elim) (fun r6 u hu => ?_)
      obtain ⟨V5, rfl, h⟩ := hu
      refine ab_if_eq O 36 dX9_lightEdges_29 rfl (fun q7 => ?_) (fun q7 => ?_)
      · have h := h.1 q7
        refine ab_iconst O 0 dX9_lightEdges_36 rfl ?_
        refine ab_iadd O dX9_lightEdges_37 ?_
        refine ab_istore_n O 3 dX9_lightEdges_38 rfl (show 3 < 5 by decide) ?_
        refine ab_aload_n O 0 dX9_lightEdges_39 rfl rfl ?_
        refine ab_get O fl_X9_38 dX9_lightEdges_40 (at_57 _ _ _) rfl ?_
        refine ab_iload O dX9_lightEdges_43 rfl ?_
        refine ab_iald O dX9_lightEdges_45 (at_67 _ _ _) h.1 ?_
        have h := h.2
        refine ab_istore O dX9_lightEdges_46 (show 4 < 5 by decide) ?_
        refine ab_goto O 16 dX9_lightEdges_48 rfl ?_
        exact ab_less (ih (V5) ((x16_3 + 0)) ((V5 67 (Int32.toNatClampNeg (x16_4)))) h) (ab_le_s (ab_le_s (ab_le_n (ab_le_s (ab_le_s ab_le_0)))))
      · have h := h.2 q7
        refine ab_iconst O 1 dX9_lightEdges_32 rfl ?_
        refine ab_goto O 37 dX9_lightEdges_33 rfl ?_
        refine ab_iadd O dX9_lightEdges_37 ?_
        refine ab_istore_n O 3 dX9_lightEdges_38 rfl (show 3 < 5 by decide) ?_
        refine ab_aload_n O 0 dX9_lightEdges_39 rfl rfl ?_
        refine ab_get O fl_X9_38 dX9_lightEdges_40 (at_57 _ _ _) rfl ?_
        refine ab_iload O dX9_lightEdges_43 rfl ?_
        refine ab_iald O dX9_lightEdges_45 (at_67 _ _ _) h.1 ?_
        have h := h.2
        refine ab_istore O dX9_lightEdges_46 (show 4 < 5 by decide) ?_
        refine ab_goto O 16 dX9_lightEdges_48 rfl ?_
        exact ab_less (ih (V5) ((x16_3 + 1)) ((V5 67 (Int32.toNatClampNeg (x16_4)))) h) (ab_le_s (ab_le_s (ab_le_n (ab_le_s (ab_le_s ab_le_0)))))
set_option maxHeartbeats 4000000 in
theorem c_X9_lightEdges (d : Nat) (hd : 3 ≤ d) (l : Launch) (hl : l.stackTraces = false) (g : ab_G) (o : Nat → Int64) (D : Nat → UInt64) (a0 : Int32) (a1 : Int32) {V : Mm} {post : Int32 → Mm → Prop} (h : wp_X9_lightEdges V a0 a1 post) : Ct l g tk_strs False d 0 0 yX9_lightEdges cX9_lightEdges 5 (some .int) [.ref 57, .int a0, .int a1] (SW V o D) (tk_I g (fun r u => ∃ V : Mm, u = SW V o D ∧ post r V)) (fun _ _ => False) := by
  refine ct_in (by decide +kernel) (show 3 ≤ 5 by decide) (by simp [Value.category]) hl (fun X I O _ => ?_)
  show Ab X g 0 0 _ 0 [some (.ref (57)), some (.int (a0)), some (.int (a1)), none, none] [] _
  refine ab_aload_n O 0 dX9_lightEdges_0 rfl rfl ?_
  refine ab_iload_n O 1 dX9_lightEdges_1 rfl rfl ?_
  refine ab_iload_n O 2 dX9_lightEdges_2 rfl rfl ?_
  refine ab_callvI O I.2.2.2.2.2.2 (fr := False) (st := []) lk_X9_117 rfl (at_57 _ _ _) dX9_lightEdges_3 (c_X9_isApart (d - 1) (by omega) _ O.2.2.2.2.2.2.1 _ _ _ _ _ h) rfl rfl ⟨by rw [I.2.1]; show d - 1 + 1 ≤ d; omega, by rw [I.2.1]; show 8 + (_ + 11) + 36 * (d - 1) ≤ 36 * d; omega⟩ (show 0 ≤ 8 by decide) ⟨by rw [I.2.1]; show 0 + 0 ≤ 0; decide, by rw [I.2.1]; show 0 + 0 ≤ 0; decide⟩ (fun q => q.elim) (fun E u q => q.elim) (fun r2 u hu => ?_)
  obtain ⟨V1, rfl, h⟩ := hu
  refine ab_if_eq O 11 dX9_lightEdges_6 rfl (fun q3 => ?_) (fun q3 => ?_)
  · have h := h.1 q3
    refine ab_iconst O 0 dX9_lightEdges_11 rfl ?_
    refine ab_istore_n O 3 dX9_lightEdges_12 rfl (show 3 < 5 by decide) ?_
    refine ab_iload_n O 2 dX9_lightEdges_13 rfl rfl ?_
    refine ab_istore O dX9_lightEdges_14 (show 4 < 5 by decide) ?_
    obtain ⟨n9, h⟩ := h
    refine ab_less (cl_X9_lightEdges_L16 hd (a0) O I (fun V8 x9 x10 h => ?_) n9 (V1) (0) (a1) h) (ab_le_s (ab_le_s (ab_le_n (ab_le_s (ab_le_s ab_le_0)))))
    refine ab_iload_n O 3 dX9_lightEdges_51 rfl rfl ?_
    exact ab_ireturn O I dX9_lightEdges_52 (by decide) (by decide) (by rfl) ⟨_, rfl, h⟩
  · have h := h.2 q3
    refine ab_iconst O 0 dX9_lightEdges_9 rfl ?_
    exact ab_ireturn O I dX9_lightEdges_10 (by decide) (by decide) (by rfl) ⟨_, rfl, h⟩

def wp_X9_lightest_L32 (y32_1 y32_2 : Int32) (post : Int32 → Mm → Prop) (kx : Mm → Int32 → Int32 → Prop) : Nat → Mm → Int32 → Int32 → Prop
  | 0, _, _, _ => False
  | n32 + 1, V, x32_3, x32_4 => (((V 57 10) ≤ x32_4 → kx (V) (x32_3) (x32_4)) ∧ (¬ (V 57 10) ≤ x32_4 → (vp_in x32_4 60 ∧ (((V 64 (Int32.toNatClampNeg (x32_4))) = 0 → wp_X9_lightest_L32 y32_1 y32_2 post kx n32 (V) (x32_3) ((x32_4 + (1)))) ∧ (¬ (V 64 (Int32.toNatClampNeg (x32_4))) = 0 → (wp_X9_joins V (x32_4) (y32_1) (y32_2) (fun (r13 : Int32) (V12 : Mm) => ((r13 = 0 → wp_X9_lightest_L32 y32_1 y32_2 post kx n32 (V12) (x32_3) ((x32_4 + (1)))) ∧ (¬ r13 = 0 → ((x32_3 < 0 → wp_X9_lightest_L32 y32_1 y32_2 post kx n32 (V12) (x32_4) ((x32_4 + (1)))) ∧ (¬ x32_3 < 0 → (wp_X9_comesBefore V12 (x32_4) (x32_3) (fun (r17 : Int32) (V16 : Mm) => ((r17 = 0 → wp_X9_lightest_L32 y32_1 y32_2 post kx n32 (V16) (x32_3) ((x32_4 + (1)))) ∧ (¬ r17 = 0 → wp_X9_lightest_L32 y32_1 y32_2 post kx n32 (V16) (x32_4) ((x32_4 + (1))))))))))))))))))

def wp_X9_lightest (V : Mm) (a0 a1 : Int32) (post : Int32 → Mm → Prop) : Prop := (∀ V1 : Mm, V1 = wr V 57 0 0 → (wp_X9_isVertex V1 (a0) (fun (r3 : Int32) (V2 : Mm) => ((r3 = 0 → (wp_X9_fails V2 (1) (fun (r6 : Int32) (V5 : Mm) => post r6 V5))) ∧ (¬ r3 = 0 → (wp_X9_isVertex V2 (a1) (fun (r8 : Int32) (V7 : Mm) => ((r8 = 0 → (wp_X9_fails V7 (1) (fun (r26 : Int32) (V25 : Mm) => post r26 V25))) ∧ (¬ r8 = 0 → (∃ m32 : Nat, wp_X9_lightest_L32 (a0) (a1) post (fun (V19 : Mm) (x20 : Int32) (x21 : Int32) => ((0 ≤ x20 → post x20 V19) ∧ (¬ 0 ≤ x20 → (wp_X9_fails V19 (2) (fun (r24 : Int32) (V23 : Mm) => post r24 V23))))) m32 (V7) ((-1)) (0)))))))))))
set_option maxHeartbeats 4000000 in
theorem cl_X9_lightest_L32 {X : ab_M} {g : ab_G} {l : Launch} {d : Nat} (hd : 2 ≤ d) (y32_1 y32_2 : Int32) {post : Int32 → Mm → Prop} {kx : Mm → Int32 → Int32 → Prop} {o : Nat → Int64} {D : Nat → UInt64} (O : ab_Ok X g cX9_lightest RX9) (I : ab_I X l tk_strs 5 (some .int) yX9_lightest.name d 0 0) (hk : ∀ (V : Mm) (x32_3 : Int32) (x32_4 : Int32), kx V x32_3 x32_4 → Ab X g 0 0 (tk_Q X g (tk_I g (fun r u => ∃ V : Mm, u = SW V o D ∧ post r V)) (fun _ _ => False) 0 0) 85 [some (.ref (57)), none, none, some (.int (x32_3)), none] [] (SW V o D)) : ∀ (n : Nat) (V : Mm) (x32_3 : Int32) (x32_4 : Int32), wp_X9_lightest_L32 y32_1 y32_2 post kx n V x32_3 x32_4 → Ab X g 0 0 (tk_Q X g (tk_I g (fun r u => ∃ V : Mm, u = SW V o D ∧ post r V)) (fun _ _ => False) 0 0) 32 [some (.ref (57)), some (.int (y32_1)), some (.int (y32_2)), some (.int (x32_3)), some (.int (x32_4))] [] (SW V o D) := by
  intro n
  induction n with
  | zero => intro V x32_3 x32_4 h; exact h.elim
  | succ n ih =>
    intro V x32_3 x32_4 h
    refine ab_iload O dX9_lightest_32 rfl ?_
    refine ab_aload_n O 0 dX9_lightest_34 rfl rfl ?_
    refine ab_get O fl_X9_64 dX9_lightest_35 (at_57 _ _ _) rfl ?_
    refine ab_icmp_ge O 85 dX9_lightest_38 rfl (fun q10 => ?_) (fun q10 => ?_)
    · have h := h.1 q10
      exact ab_less (hk (V) (x32_3) (x32_4) h) (ab_le_s (ab_le_n (ab_le_n (ab_le_s (ab_le_n ab_le_0)))))
    · have h := h.2 q10
      refine ab_aload_n O 0 dX9_lightest_41 rfl rfl ?_
      refine ab_get O fl_X9_28 dX9_lightest_42 (at_57 _ _ _) rfl ?_
      refine ab_iload O dX9_lightest_45 rfl ?_
      refine ab_zald O dX9_lightest_47 (at_64 _ _ _) h.1 ?_
      have h := h.2
      refine ab_if_eq O 79 dX9_lightest_48 rfl (fun q11 => ?_) (fun q11 => ?_)
      · have h := h.1 q11
        refine ab_iinc O ((x32_4 + (1))) dX9_lightest_79 rfl rfl ?_
        refine ab_goto O 32 dX9_lightest_82 rfl ?_
        exact ab_less (ih (V) (x32_3) ((x32_4 + (1))) h) (ab_le_s (ab_le_s (ab_le_s (ab_le_s (ab_le_s ab_le_0)))))
      · have h := h.2 q11
        refine ab_aload_n O 0 dX9_lightest_51 rfl rfl ?_
        refine ab_iload O dX9_lightest_52 rfl ?_
        refine ab_iload_n O 1 dX9_lightest_54 rfl rfl ?_
        refine ab_iload_n O 2 dX9_lightest_55 rfl rfl ?_
        refine ab_callvI O I.2.2.2.2.2.2 (fr := False) (st := []) lk_X9_101 rfl (at_57 _ _ _) dX9_lightest_56 (c_X9_joins (d - 1) (by omega) _ O.2.2.2.2.2.2.1 _ _ _ _ _ _ h) rfl rfl ⟨by rw [I.2.1]; show d - 1 + 1 ≤ d; omega, by rw [I.2.1]; show 8 + (_ + 11) + 36 * (d - 1) ≤ 36 * d; omega⟩ (show 0 ≤ 8 by decide) ⟨by rw [I.2.1]; show 0 + 0 ≤ 0; decide, by rw [I.2.1]; show 0 + 0 ≤ 0; decide⟩ (fun q => q.elim) (fun E u q => q.elim) (fun r13 u hu => ?_)
        obtain ⟨V12, rfl, h⟩ := hu
        refine ab_if_eq O 79 dX9_lightest_59 rfl (fun q14 => ?_) (fun q14 => ?_)
        · have h := h.1 q14
          refine ab_iinc O ((x32_4 + (1))) dX9_lightest_79 rfl rfl ?_
          refine ab_goto O 32 dX9_lightest_82 rfl ?_
          exact ab_less (ih (V12) (x32_3) ((x32_4 + (1))) h) (ab_le_s (ab_le_s (ab_le_s (ab_le_s (ab_le_s ab_le_0)))))
        · have h := h.2 q14
          refine ab_iload_n O 3 dX9_lightest_62 rfl rfl ?_
          refine ab_if_lt O 76 dX9_lightest_63 rfl (fun q15 => ?_) (fun q15 => ?_)
          · have h := h.1 q15
            refine ab_iload O dX9_lightest_76 rfl ?_
            refine ab_istore_n O 3 dX9_lightest_78 rfl (show 3 < 5 by decide) ?_
            refine ab_iinc O ((x32_4 + (1))) dX9_lightest_79 rfl rfl ?_
            refine ab_goto O 32 dX9_lightest_82 rfl ?_
            exact ab_less (ih (V12) (x32_4) ((x32_4 + (1))) h) (ab_le_s (ab_le_s (ab_le_s (ab_le_s (ab_le_s ab_le_0)))))
          · have h := h.2 q15
            refine ab_aload_n O 0 dX9_lightest_66 rfl rfl ?_
            refine ab_iload O dX9_lightest_67 rfl ?_
            refine ab_iload_n O 3 dX9_lightest_69 rfl rfl ?_
            refine ab_callvI O I.2.2.2.2.2.2 (fr := False) (st := []) lk_X9_67 rfl (at_57 _ _ _) dX9_lightest_70 (c_X9_comesBefore (d - 1) (by omega) _ O.2.2.2.2.2.2.1 _ _ _ _ _ h) rfl rfl ⟨by rw [I.2.1]; show d - 1 + 1 ≤ d; omega, by rw [I.2.1]; show 8 + (_ + 11) + 36 * (d - 1) ≤ 36 * d; omega⟩ (show 0 ≤ 8 by decide) ⟨by rw [I.2.1]; show 0 + 0 ≤ 0; decide, by rw [I.2.1]; show 0 + 0 ≤ 0; decide⟩ (fun q => q.elim) (fun E u q => q.elim) (fun r17 u hu => ?_)
            obtain ⟨V16, rfl, h⟩ := hu
            refine ab_if_eq O 79 dX9_lightest_73 rfl (fun q18 => ?_) (fun q18 => ?_)
            · have h := h.1 q18
              refine ab_iinc O ((x32_4 + (1))) dX9_lightest_79 rfl rfl ?_
              refine ab_goto O 32 dX9_lightest_82 rfl ?_
              exact ab_less (ih (V16) (x32_3) ((x32_4 + (1))) h) (ab_le_s (ab_le_s (ab_le_s (ab_le_s (ab_le_s ab_le_0)))))
            · have h := h.2 q18
              refine ab_iload O dX9_lightest_76 rfl ?_
              refine ab_istore_n O 3 dX9_lightest_78 rfl (show 3 < 5 by decide) ?_
              refine ab_iinc O ((x32_4 + (1))) dX9_lightest_79 rfl rfl ?_
              refine ab_goto O 32 dX9_lightest_82 rfl ?_
              exact ab_less (ih (V16) (x32_4) ((x32_4 + (1))) h) (ab_le_s (ab_le_s (ab_le_s (ab_le_s (ab_le_s ab_le_0)))))
set_option maxHeartbeats 4000000 in
theorem c_X9_lightest (d : Nat) (hd : 2 ≤ d) (l : Launch) (hl : l.stackTraces = false) (g : ab_G) (o : Nat → Int64) (D : Nat → UInt64) (a0 : Int32) (a1 : Int32) {V : Mm} {post : Int32 → Mm → Prop} (h : wp_X9_lightest V a0 a1 post) : Ct l g tk_strs False d 0 0 yX9_lightest cX9_lightest 5 (some .int) [.ref 57, .int a0, .int a1] (SW V o D) (tk_I g (fun r u => ∃ V : Mm, u = SW V o D ∧ post r V)) (fun _ _ => False) := by
  refine ct_in (by decide +kernel) (show 3 ≤ 5 by decide) (by simp [Value.category]) hl (fun X I O _ => ?_)
  show Ab X g 0 0 _ 0 [some (.ref (57)), some (.int (a0)), some (.int (a1)), none, none] [] _
  refine ab_aload_n O 0 dX9_lightest_0 rfl rfl ?_
  refine ab_iconst O 0 dX9_lightest_1 rfl ?_
  refine ab_put O fl_X9_53 cl_X9 dX9_lightest_2 (at_57 _ _ _) rfl .int (by decide +kernel) (fun _ => rfl) (fun _ => rfl) (show 0 < 18 by decide) ?_
  refine ab_eq ?_ rfl rfl rfl (sf_57_0 _ _ _ _).symm
  obtain ⟨V1, eV1⟩ : ∃ z : Mm, z = wr V 57 0 0 := ⟨_, rfl⟩
  rw [← eV1]
  have h := h V1 eV1
  refine ab_aload_n O 0 dX9_lightest_5 rfl rfl ?_
  refine ab_iload_n O 1 dX9_lightest_6 rfl rfl ?_
  refine ab_callvI O I.2.2.2.2.2.2 (fr := False) (st := []) lk_X9_84 rfl (at_57 _ _ _) dX9_lightest_7 (c_X9_isVertex (d - 1) (by omega) _ O.2.2.2.2.2.2.1 _ _ _ _ h) rfl rfl ⟨by rw [I.2.1]; show d - 1 + 1 ≤ d; omega, by rw [I.2.1]; show 8 + (_ + 11) + 36 * (d - 1) ≤ 36 * d; omega⟩ (show 0 ≤ 8 by decide) ⟨by rw [I.2.1]; show 0 + 0 ≤ 0; decide, by rw [I.2.1]; show 0 + 0 ≤ 0; decide⟩ (fun q => q.elim) (fun E u q => q.elim) (fun r3 u hu => ?_)
  obtain ⟨V2, rfl, h⟩ := hu
  refine ab_if_eq O 21 dX9_lightest_10 rfl (fun q4 => ?_) (fun q4 => ?_)
  · have h := h.1 q4
    refine ab_aload_n O 0 dX9_lightest_21 rfl rfl ?_
    refine ab_iconst O 1 dX9_lightest_22 rfl ?_
    refine ab_callvI O I.2.2.2.2.2.2 (fr := False) (st := []) lk_X9_78 rfl (at_57 _ _ _) dX9_lightest_23 (c_X9_fails (d - 1) (by omega) _ O.2.2.2.2.2.2.1 _ _ _ _ h) rfl rfl ⟨by rw [I.2.1]; show d - 1 + 1 ≤ d; omega, by rw [I.2.1]; show 8 + (_ + 11) + 36 * (d - 1) ≤ 36 * d; omega⟩ (show 0 ≤ 8 by decide) ⟨by rw [I.2.1]; show 0 + 0 ≤ 0; decide, by rw [I.2.1]; show 0 + 0 ≤ 0; decide⟩ (fun q => q.elim) (fun E u q => q.elim) (fun r6 u hu => ?_)
    obtain ⟨V5, rfl, h⟩ := hu
    exact ab_ireturn O I dX9_lightest_26 (by decide) (by decide) (by rfl) ⟨_, rfl, h⟩
  · have h := h.2 q4
    refine ab_aload_n O 0 dX9_lightest_13 rfl rfl ?_
    refine ab_iload_n O 2 dX9_lightest_14 rfl rfl ?_
    refine ab_callvI O I.2.2.2.2.2.2 (fr := False) (st := []) lk_X9_84 rfl (at_57 _ _ _) dX9_lightest_15 (c_X9_isVertex (d - 1) (by omega) _ O.2.2.2.2.2.2.1 _ _ _ _ h) rfl rfl ⟨by rw [I.2.1]; show d - 1 + 1 ≤ d; omega, by rw [I.2.1]; show 8 + (_ + 11) + 36 * (d - 1) ≤ 36 * d; omega⟩ (show 0 ≤ 8 by decide) ⟨by rw [I.2.1]; show 0 + 0 ≤ 0; decide, by rw [I.2.1]; show 0 + 0 ≤ 0; decide⟩ (fun q => q.elim) (fun E u q => q.elim) (fun r8 u hu => ?_)
    obtain ⟨V7, rfl, h⟩ := hu
    refine ab_if_ne O 27 dX9_lightest_18 rfl (fun q9 => ?_) (fun q9 => ?_)
    · have h := h.2 q9
      refine ab_iconst O (-1) dX9_lightest_27 rfl ?_
      refine ab_istore_n O 3 dX9_lightest_28 rfl (show 3 < 5 by decide) ?_
      refine ab_iconst O 0 dX9_lightest_29 rfl ?_
      refine ab_istore O dX9_lightest_30 (show 4 < 5 by decide) ?_
      obtain ⟨n9, h⟩ := h
      refine ab_less (cl_X9_lightest_L32 hd (a0) (a1) O I (fun V19 x20 x21 h => ?_) n9 (V7) ((-1)) (0) h) (ab_le_s (ab_le_s (ab_le_s (ab_le_s (ab_le_s ab_le_0)))))
      refine ab_iload_n O 3 dX9_lightest_85 rfl rfl ?_
      refine ab_if_ge O 97 dX9_lightest_86 rfl (fun q22 => ?_) (fun q22 => ?_)
      · have h := h.1 q22
        refine ab_iload_n O 3 dX9_lightest_97 rfl rfl ?_
        exact ab_ireturn O I dX9_lightest_98 (by decide) (by decide) (by rfl) ⟨_, rfl, h⟩
      · have h := h.2 q22
        refine ab_aload_n O 0 dX9_lightest_89 rfl rfl ?_
        refine ab_iconst O 2 dX9_lightest_90 rfl ?_
        refine ab_callvI O I.2.2.2.2.2.2 (fr := False) (st := []) lk_X9_78 rfl (at_57 _ _ _) dX9_lightest_91 (c_X9_fails (d - 1) (by omega) _ O.2.2.2.2.2.2.1 _ _ _ _ h) rfl rfl ⟨by rw [I.2.1]; show d - 1 + 1 ≤ d; omega, by rw [I.2.1]; show 8 + (_ + 11) + 36 * (d - 1) ≤ 36 * d; omega⟩ (show 0 ≤ 8 by decide) ⟨by rw [I.2.1]; show 0 + 0 ≤ 0; decide, by rw [I.2.1]; show 0 + 0 ≤ 0; decide⟩ (fun q => q.elim) (fun E u q => q.elim) (fun r24 u hu => ?_)
        obtain ⟨V23, rfl, h⟩ := hu
        refine ab_goto O 98 dX9_lightest_94 rfl ?_
        exact ab_ireturn O I dX9_lightest_98 (by decide) (by decide) (by rfl) ⟨_, rfl, h⟩
    · have h := h.1 q9
      refine ab_aload_n O 0 dX9_lightest_21 rfl rfl ?_
      refine ab_iconst O 1 dX9_lightest_22 rfl ?_
      refine ab_callvI O I.2.2.2.2.2.2 (fr := False) (st := []) lk_X9_78 rfl (at_57 _ _ _) dX9_lightest_23 (c_X9_fails (d - 1) (by omega) _ O.2.2.2.2.2.2.1 _ _ _ _ h) rfl rfl ⟨by rw [I.2.1]; show d - 1 + 1 ≤ d; omega, by rw [I.2.1]; show 8 + (_ + 11) + 36 * (d - 1) ≤ 36 * d; omega⟩ (show 0 ≤ 8 by decide) ⟨by rw [I.2.1]; show 0 + 0 ≤ 0; decide, by rw [I.2.1]; show 0 + 0 ≤ 0; decide⟩ (fun q => q.elim) (fun E u q => q.elim) (fun r26 u hu => ?_)
      obtain ⟨V25, rfl, h⟩ := hu
      exact ab_ireturn O I dX9_lightest_26 (by decide) (by decide) (by rfl) ⟨_, rfl, h⟩

def wp_X9_pathSum_L16 (post : Int32 → Mm → Prop) (kx : Mm → Int32 → Int32 → Prop) : Nat → Mm → Int32 → Int32 → Prop
  | 0, _, _, _ => False
  | n16 + 1, V, x16_3, x16_4 => ((x16_4 = (-1) → kx (V) (x16_3) (x16_4)) ∧ (¬ x16_4 = (-1) → (vp_in x16_4 20 ∧ (vp_in x16_4 20 ∧ wp_X9_pathSum_L16 post kx n16 (V) ((x16_3 + (V 58 (Int32.toNatClampNeg (x16_4))))) ((V 67 (Int32.toNatClampNeg (x16_4))))))))

def wp_X9_pathSum (V : Mm) (a0 a1 : Int32) (post : Int32 → Mm → Prop) : Prop := (wp_X9_isApart V (a1) (a0) (fun (r2 : Int32) (V1 : Mm) => ((r2 = 0 → (∃ m16 : Nat, wp_X9_pathSum_L16 post (fun (V5 : Mm) (x6 : Int32) (x7 : Int32) => post x6 V5) m16 (V1) (0) (a0))) ∧ (¬ r2 = 0 → post 0 V1))))
set_option maxHeartbeats 4000000 in
theorem cl_X9_pathSum_L16 {X : ab_M} {g : ab_G} {l : Launch} {d : Nat} (hd : 3 ≤ d) {post : Int32 → Mm → Prop} {kx : Mm → Int32 → Int32 → Prop} {o : Nat → Int64} {D : Nat → UInt64} (O : ab_Ok X g cX9_pathSum RX9) (I : ab_I X l tk_strs 5 (some .int) yX9_pathSum.name d 0 0) (hk : ∀ (V : Mm) (x16_3 : Int32) (x16_4 : Int32), kx V x16_3 x16_4 → Ab X g 0 0 (tk_Q X g (tk_I g (fun r u => ∃ V : Mm, u = SW V o D ∧ post r V)) (fun _ _ => False) 0 0) 44 [none, none, none, some (.int (x16_3)), none] [] (SW V o D)) : ∀ (n : Nat) (V : Mm) (x16_3 : Int32) (x16_4 : Int32), wp_X9_pathSum_L16 post kx n V x16_3 x16_4 → Ab X g 0 0 (tk_Q X g (tk_I g (fun r u => ∃ V : Mm, u = SW V o D ∧ post r V)) (fun _ _ => False) 0 0) 16 [some (.ref (57)), none, none, some (.int (x16_3)), some (.int (x16_4))] [] (SW V o D) := by
  intro n
  induction n with
  | zero => intro V x16_3 x16_4 h; exact h.elim
  | succ n ih =>
    intro V x16_3 x16_4 h
    refine ab_iload O dX9_pathSum_16 rfl ?_
    refine ab_iconst O (-1) dX9_pathSum_18 rfl ?_
    refine ab_icmp_eq O 44 dX9_pathSum_19 rfl (fun q4 => ?_) (fun q4 => ?_)
    · have h := h.1 q4
      exact ab_less (hk (V) (x16_3) (x16_4) h) (ab_le_n (ab_le_n (ab_le_n (ab_le_s (ab_le_n ab_le_0)))))
    · have h := h.2 q4
      refine ab_iload_n O 3 dX9_pathSum_22 rfl rfl ?_
      refine ab_aload_n O 0 dX9_pathSum_23 rfl rfl ?_
      refine ab_get O fl_X9_9 dX9_pathSum_24 (at_57 _ _ _) rfl ?_
      refine ab_iload O dX9_pathSum_27 rfl ?_
      refine ab_iald O dX9_pathSum_29 (at_58 _ _ _) h.1 ?_
      have h := h.2
      refine ab_iadd O dX9_pathSum_30 ?_
      refine ab_istore_n O 3 dX9_pathSum_31 rfl (show 3 < 5 by decide) ?_
      refine ab_aload_n O 0 dX9_pathSum_32 rfl rfl ?_
      refine ab_get O fl_X9_38 dX9_pathSum_33 (at_57 _ _ _) rfl ?_
      refine ab_iload O dX9_pathSum_36 rfl ?_
      refine ab_iald O dX9_pathSum_38 (at_67 _ _ _) h.1 ?_
      have h := h.2
      refine ab_istore O dX9_pathSum_39 (show 4 < 5 by decide) ?_
      refine ab_goto O 16 dX9_pathSum_41 rfl ?_
      exact ab_less (ih (V) ((x16_3 + (V 58 (Int32.toNatClampNeg (x16_4))))) ((V 67 (Int32.toNatClampNeg (x16_4)))) h) (ab_le_s (ab_le_n (ab_le_n (ab_le_s (ab_le_s ab_le_0)))))
set_option maxHeartbeats 4000000 in
theorem c_X9_pathSum (d : Nat) (hd : 3 ≤ d) (l : Launch) (hl : l.stackTraces = false) (g : ab_G) (o : Nat → Int64) (D : Nat → UInt64) (a0 : Int32) (a1 : Int32) {V : Mm} {post : Int32 → Mm → Prop} (h : wp_X9_pathSum V a0 a1 post) : Ct l g tk_strs False d 0 0 yX9_pathSum cX9_pathSum 5 (some .int) [.ref 57, .int a0, .int a1] (SW V o D) (tk_I g (fun r u => ∃ V : Mm, u = SW V o D ∧ post r V)) (fun _ _ => False) := by
  refine ct_in (by decide +kernel) (show 3 ≤ 5 by decide) (by simp [Value.category]) hl (fun X I O _ => ?_)
  show Ab X g 0 0 _ 0 [some (.ref (57)), some (.int (a0)), some (.int (a1)), none, none] [] _
  refine ab_aload_n O 0 dX9_pathSum_0 rfl rfl ?_
  refine ab_iload_n O 2 dX9_pathSum_1 rfl rfl ?_
  refine ab_iload_n O 1 dX9_pathSum_2 rfl rfl ?_
  refine ab_callvI O I.2.2.2.2.2.2 (fr := False) (st := []) lk_X9_117 rfl (at_57 _ _ _) dX9_pathSum_3 (c_X9_isApart (d - 1) (by omega) _ O.2.2.2.2.2.2.1 _ _ _ _ _ h) rfl rfl ⟨by rw [I.2.1]; show d - 1 + 1 ≤ d; omega, by rw [I.2.1]; show 8 + (_ + 11) + 36 * (d - 1) ≤ 36 * d; omega⟩ (show 0 ≤ 8 by decide) ⟨by rw [I.2.1]; show 0 + 0 ≤ 0; decide, by rw [I.2.1]; show 0 + 0 ≤ 0; decide⟩ (fun q => q.elim) (fun E u q => q.elim) (fun r2 u hu => ?_)
  obtain ⟨V1, rfl, h⟩ := hu
  refine ab_if_eq O 11 dX9_pathSum_6 rfl (fun q3 => ?_) (fun q3 => ?_)
  · have h := h.1 q3
    refine ab_iconst O 0 dX9_pathSum_11 rfl ?_
    refine ab_istore_n O 3 dX9_pathSum_12 rfl (show 3 < 5 by decide) ?_
    refine ab_iload_n O 1 dX9_pathSum_13 rfl rfl ?_
    refine ab_istore O dX9_pathSum_14 (show 4 < 5 by decide) ?_
    obtain ⟨n9, h⟩ := h
    refine ab_less (cl_X9_pathSum_L16 hd O I (fun V5 x6 x7 h => ?_) n9 (V1) (0) (a0) h) (ab_le_s (ab_le_n (ab_le_n (ab_le_s (ab_le_s ab_le_0)))))
    refine ab_iload_n O 3 dX9_pathSum_44 rfl rfl ?_
    exact ab_ireturn O I dX9_pathSum_45 (by decide) (by decide) (by rfl) ⟨_, rfl, h⟩
  · have h := h.2 q3
    refine ab_iconst O 0 dX9_pathSum_9 rfl ?_
    exact ab_ireturn O I dX9_pathSum_10 (by decide) (by decide) (by rfl) ⟨_, rfl, h⟩

def wp_X9_pathVertices (V : Mm) (a0 a1 : Int32) (post : Int32 → Mm → Prop) : Prop := (wp_X9_isApart V (a1) (a0) (fun (r2 : Int32) (V1 : Mm) => ((r2 = 0 → (vp_in a0 20 ∧ post ((V1 68 (Int32.toNatClampNeg (a0))) + 1) V1)) ∧ (¬ r2 = 0 → post 0 V1))))
set_option maxHeartbeats 4000000 in
theorem c_X9_pathVertices (d : Nat) (hd : 3 ≤ d) (l : Launch) (hl : l.stackTraces = false) (g : ab_G) (o : Nat → Int64) (D : Nat → UInt64) (a0 : Int32) (a1 : Int32) {V : Mm} {post : Int32 → Mm → Prop} (h : wp_X9_pathVertices V a0 a1 post) : Ct l g tk_strs False d 0 0 yX9_pathVertices cX9_pathVertices 3 (some .int) [.ref 57, .int a0, .int a1] (SW V o D) (tk_I g (fun r u => ∃ V : Mm, u = SW V o D ∧ post r V)) (fun _ _ => False) := by
  refine ct_in (by decide +kernel) (show 3 ≤ 3 by decide) (by simp [Value.category]) hl (fun X I O _ => ?_)
  show Ab X g 0 0 _ 0 [some (.ref (57)), some (.int (a0)), some (.int (a1))] [] _
  refine ab_aload_n O 0 dX9_pathVertices_0 rfl rfl ?_
  refine ab_iload_n O 2 dX9_pathVertices_1 rfl rfl ?_
  refine ab_iload_n O 1 dX9_pathVertices_2 rfl rfl ?_
  refine ab_callvI O I.2.2.2.2.2.2 (fr := False) (st := []) lk_X9_117 rfl (at_57 _ _ _) dX9_pathVertices_3 (c_X9_isApart (d - 1) (by omega) _ O.2.2.2.2.2.2.1 _ _ _ _ _ h) rfl rfl ⟨by rw [I.2.1]; show d - 1 + 1 ≤ d; omega, by rw [I.2.1]; show 8 + (_ + 11) + 36 * (d - 1) ≤ 36 * d; omega⟩ (show 0 ≤ 8 by decide) ⟨by rw [I.2.1]; show 0 + 0 ≤ 0; decide, by rw [I.2.1]; show 0 + 0 ≤ 0; decide⟩ (fun q => q.elim) (fun E u q => q.elim) (fun r2 u hu => ?_)
  obtain ⟨V1, rfl, h⟩ := hu
  refine ab_if_eq O 13 dX9_pathVertices_6 rfl (fun q3 => ?_) (fun q3 => ?_)
  · have h := h.1 q3
    refine ab_aload_n O 0 dX9_pathVertices_13 rfl rfl ?_
    refine ab_get O fl_X9_41 dX9_pathVertices_14 (at_57 _ _ _) rfl ?_
    refine ab_iload_n O 1 dX9_pathVertices_17 rfl rfl ?_
    refine ab_iald O dX9_pathVertices_18 (at_68 _ _ _) h.1 ?_
    have h := h.2
    refine ab_iconst O 1 dX9_pathVertices_19 rfl ?_
    refine ab_iadd O dX9_pathVertices_20 ?_
    exact ab_ireturn O I dX9_pathVertices_21 (by decide) (by decide) (by rfl) ⟨_, rfl, h⟩
  · have h := h.2 q3
    refine ab_iconst O 0 dX9_pathVertices_9 rfl ?_
    refine ab_goto O 21 dX9_pathVertices_10 rfl ?_
    exact ab_ireturn O I dX9_pathVertices_21 (by decide) (by decide) (by rfl) ⟨_, rfl, h⟩

def wp_X9_mean (V : Mm) (a0 a1 : Int32) (post : UInt32 → Mm → Prop) : Prop := (wp_X9_pathSum V (a0) (a1) (fun (r2 : Int32) (V1 : Mm) => (((V1 57 0) ≤ 0 → (wp_X9_pathVertices V1 (a0) (a1) (fun (r5 : Int32) (V4 : Mm) => (vf_n32 (FP.fdiv (FP.i2f r2) (FP.i2f r5)) ∧ post (FP.fdiv (FP.i2f r2) (FP.i2f r5)) V4)))) ∧ (¬ (V1 57 0) ≤ 0 → post 0 V1))))
set_option maxHeartbeats 4000000 in
theorem c_X9_mean (d : Nat) (hd : 4 ≤ d) (l : Launch) (hl : l.stackTraces = false) (g : ab_G) (o : Nat → Int64) (D : Nat → UInt64) (a0 : Int32) (a1 : Int32) {V : Mm} {post : UInt32 → Mm → Prop} (h : wp_X9_mean V a0 a1 post) : Ct l g tk_strs False d 0 0 yX9_mean cX9_mean 4 (some .float) [.ref 57, .int a0, .int a1] (SW V o D) (tk_F g (fun r u => ∃ V : Mm, u = SW V o D ∧ post r V)) (fun _ _ => False) := by
  refine ct_in (by decide +kernel) (show 3 ≤ 4 by decide) (by simp [Value.category]) hl (fun X I O _ => ?_)
  show Ab X g 0 0 _ 0 [some (.ref (57)), some (.int (a0)), some (.int (a1)), none] [] _
  refine ab_aload_n O 0 dX9_mean_0 rfl rfl ?_
  refine ab_iload_n O 1 dX9_mean_1 rfl rfl ?_
  refine ab_iload_n O 2 dX9_mean_2 rfl rfl ?_
  refine ab_callvI O I.2.2.2.2.2.2 (fr := False) (st := []) lk_X9_120 rfl (at_57 _ _ _) dX9_mean_3 (c_X9_pathSum (d - 1) (by omega) _ O.2.2.2.2.2.2.1 _ _ _ _ _ h) rfl rfl ⟨by rw [I.2.1]; show d - 1 + 1 ≤ d; omega, by rw [I.2.1]; show 8 + (_ + 11) + 36 * (d - 1) ≤ 36 * d; omega⟩ (show 0 ≤ 8 by decide) ⟨by rw [I.2.1]; show 0 + 0 ≤ 0; decide, by rw [I.2.1]; show 0 + 0 ≤ 0; decide⟩ (fun q => q.elim) (fun E u q => q.elim) (fun r2 u hu => ?_)
  obtain ⟨V1, rfl, h⟩ := hu
  refine ab_istore_n O 3 dX9_mean_6 rfl (show 3 < 4 by decide) ?_
  refine ab_aload_n O 0 dX9_mean_7 rfl rfl ?_
  refine ab_get O fl_X9_53 dX9_mean_8 (at_57 _ _ _) rfl ?_
  refine ab_if_le O 16 dX9_mean_11 rfl (fun q3 => ?_) (fun q3 => ?_)
  · have h := h.1 q3
    refine ab_iload_n O 3 dX9_mean_16 rfl rfl ?_
    refine ab_i2f O dX9_mean_17 ?_
    refine ab_aload_n O 0 dX9_mean_18 rfl rfl ?_
    refine ab_iload_n O 1 dX9_mean_19 rfl rfl ?_
    refine ab_iload_n O 2 dX9_mean_20 rfl rfl ?_
    refine ab_callvI O I.2.2.2.2.2.2 (fr := False) (st := [.float ((FP.i2f r2))]) lk_X9_130 rfl (at_57 _ _ _) dX9_mean_21 (c_X9_pathVertices (d - 1) (by omega) _ O.2.2.2.2.2.2.1 _ _ _ _ _ h) rfl rfl ⟨by rw [I.2.1]; show d - 1 + 1 ≤ d; omega, by rw [I.2.1]; show 8 + (_ + 11) + 36 * (d - 1) ≤ 36 * d; omega⟩ (show 1 ≤ 8 by decide) ⟨by rw [I.2.1]; show 0 + 0 ≤ 0; decide, by rw [I.2.1]; show 0 + 0 ≤ 0; decide⟩ (fun q => q.elim) (fun E u q => q.elim) (fun r5 u hu => ?_)
    obtain ⟨V4, rfl, h⟩ := hu
    refine ab_i2f O dX9_mean_24 ?_
    refine ab_fdiv O dX9_mean_25 h.1 ?_
    have h := h.2
    exact ab_freturn O I dX9_mean_26 (by decide) (by decide) ⟨_, rfl, h⟩
  · have h := h.2 q3
    refine ab_fconst0 O dX9_mean_14 ?_
    exact ab_freturn O I dX9_mean_15 (by decide) (by decide) ⟨_, rfl, h⟩

def wp_X9_neighbour_L24 (y24_1 : Int32) (post : Int32 → Mm → Prop) (kx : Mm → Int32 → Int32 → Prop) : Nat → Mm → Int32 → Int32 → Prop
  | 0, _, _, _ => False
  | n24 + 1, V, x24_3, x24_4 => (((V 57 9) ≤ x24_4 → kx (V) (x24_3) (x24_4)) ∧ (¬ (V 57 9) ≤ x24_4 → (wp_X9_isNeighbour V (y24_1) (x24_4) (fun (r7 : Int32) (V6 : Mm) => ((r7 = 0 → wp_X9_neighbour_L24 y24_1 post kx n24 (V6) (x24_3) ((x24_4 + (1)))) ∧ (¬ r7 = 0 → ((x24_3 = 0 → post x24_4 V6) ∧ (¬ x24_3 = 0 → wp_X9_neighbour_L24 y24_1 post kx n24 (V6) ((x24_3 + (-1))) ((x24_4 + (1)))))))))))

def wp_X9_neighbour (V : Mm) (a0 a1 : Int32) (post : Int32 → Mm → Prop) : Prop := (∀ V1 : Mm, V1 = wr V 57 0 0 → (wp_X9_isVertex V1 (a0) (fun (r3 : Int32) (V2 : Mm) => ((r3 = 0 → (wp_X9_fails V2 (1) (fun (r16 : Int32) (V15 : Mm) => post r16 V15))) ∧ (¬ r3 = 0 → (∃ m24 : Nat, wp_X9_neighbour_L24 (a0) post (fun (V10 : Mm) (x11 : Int32) (x12 : Int32) => (wp_X9_fails V10 (2) (fun (r14 : Int32) (V13 : Mm) => post r14 V13))) m24 (V2) (a1) (0)))))))
set_option maxHeartbeats 4000000 in
theorem cl_X9_neighbour_L24 {X : ab_M} {g : ab_G} {l : Launch} {d : Nat} (hd : 2 ≤ d) (y24_1 : Int32) {post : Int32 → Mm → Prop} {kx : Mm → Int32 → Int32 → Prop} {o : Nat → Int64} {D : Nat → UInt64} (O : ab_Ok X g cX9_neighbour RX9) (I : ab_I X l tk_strs 5 (some .int) yX9_neighbour.name d 0 0) (hk : ∀ (V : Mm) (x24_3 : Int32) (x24_4 : Int32), kx V x24_3 x24_4 → Ab X g 0 0 (tk_Q X g (tk_I g (fun r u => ∃ V : Mm, u = SW V o D ∧ post r V)) (fun _ _ => False) 0 0) 62 [some (.ref (57)), none, none, none, none] [] (SW V o D)) : ∀ (n : Nat) (V : Mm) (x24_3 : Int32) (x24_4 : Int32), wp_X9_neighbour_L24 y24_1 post kx n V x24_3 x24_4 → Ab X g 0 0 (tk_Q X g (tk_I g (fun r u => ∃ V : Mm, u = SW V o D ∧ post r V)) (fun _ _ => False) 0 0) 24 [some (.ref (57)), some (.int (y24_1)), none, some (.int (x24_3)), some (.int (x24_4))] [] (SW V o D) := by
  intro n
  induction n with
  | zero => intro V x24_3 x24_4 h; exact h.elim
  | succ n ih =>
    intro V x24_3 x24_4 h
    refine ab_iload O dX9_neighbour_24 rfl ?_
    refine ab_aload_n O 0 dX9_neighbour_26 rfl rfl ?_
    refine ab_get O fl_X9_57 dX9_neighbour_27 (at_57 _ _ _) rfl ?_
    refine ab_icmp_ge O 62 dX9_neighbour_30 rfl (fun q5 => ?_) (fun q5 => ?_)
    · have h := h.1 q5
      exact ab_less (hk (V) (x24_3) (x24_4) h) (ab_le_s (ab_le_n (ab_le_n (ab_le_n (ab_le_n ab_le_0)))))
    · have h := h.2 q5
      refine ab_aload_n O 0 dX9_neighbour_33 rfl rfl ?_
      refine ab_iload_n O 1 dX9_neighbour_34 rfl rfl ?_
      refine ab_iload O dX9_neighbour_35 rfl ?_
      refine ab_callvI O I.2.2.2.2.2.2 (fr := False) (st := []) lk_X9_108 rfl (at_57 _ _ _) dX9_neighbour_37 (c_X9_isNeighbour (d - 1) (by omega) _ O.2.2.2.2.2.2.1 _ _ _ _ _ h) rfl rfl ⟨by rw [I.2.1]; show d - 1 + 1 ≤ d; omega, by rw [I.2.1]; show 8 + (_ + 11) + 36 * (d - 1) ≤ 36 * d; omega⟩ (show 0 ≤ 8 by decide) ⟨by rw [I.2.1]; show 0 + 0 ≤ 0; decide, by rw [I.2.1]; show 0 + 0 ≤ 0; decide⟩ (fun q => q.elim) (fun E u q => q.elim) (fun r7 u hu => ?_)
      obtain ⟨V6, rfl, h⟩ := hu
      refine ab_if_ne O 46 dX9_neighbour_40 rfl (fun q8 => ?_) (fun q8 => ?_)
      · have h := h.2 q8
        refine ab_iload_n O 3 dX9_neighbour_46 rfl rfl ?_
        refine ab_if_ne O 53 dX9_neighbour_47 rfl (fun q9 => ?_) (fun q9 => ?_)
        · have h := h.2 q9
          refine ab_iinc O ((x24_3 + (-1))) dX9_neighbour_53 rfl rfl ?_
          refine ab_iinc O ((x24_4 + (1))) dX9_neighbour_56 rfl rfl ?_
          refine ab_goto O 24 dX9_neighbour_59 rfl ?_
          exact ab_less (ih (V6) ((x24_3 + (-1))) ((x24_4 + (1))) h) (ab_le_s (ab_le_s (ab_le_n (ab_le_s (ab_le_s ab_le_0)))))
        · have h := h.1 q9
          refine ab_iload O dX9_neighbour_50 rfl ?_
          exact ab_ireturn O I dX9_neighbour_52 (by decide) (by decide) (by rfl) ⟨_, rfl, h⟩
      · have h := h.1 q8
        refine ab_goto O 56 dX9_neighbour_43 rfl ?_
        refine ab_iinc O ((x24_4 + (1))) dX9_neighbour_56 rfl rfl ?_
        refine ab_goto O 24 dX9_neighbour_59 rfl ?_
        exact ab_less (ih (V6) (x24_3) ((x24_4 + (1))) h) (ab_le_s (ab_le_s (ab_le_n (ab_le_s (ab_le_s ab_le_0)))))
set_option maxHeartbeats 4000000 in
theorem c_X9_neighbour (d : Nat) (hd : 2 ≤ d) (l : Launch) (hl : l.stackTraces = false) (g : ab_G) (o : Nat → Int64) (D : Nat → UInt64) (a0 : Int32) (a1 : Int32) {V : Mm} {post : Int32 → Mm → Prop} (h : wp_X9_neighbour V a0 a1 post) : Ct l g tk_strs False d 0 0 yX9_neighbour cX9_neighbour 5 (some .int) [.ref 57, .int a0, .int a1] (SW V o D) (tk_I g (fun r u => ∃ V : Mm, u = SW V o D ∧ post r V)) (fun _ _ => False) := by
  refine ct_in (by decide +kernel) (show 3 ≤ 5 by decide) (by simp [Value.category]) hl (fun X I O _ => ?_)
  show Ab X g 0 0 _ 0 [some (.ref (57)), some (.int (a0)), some (.int (a1)), none, none] [] _
  refine ab_aload_n O 0 dX9_neighbour_0 rfl rfl ?_
  refine ab_iconst O 0 dX9_neighbour_1 rfl ?_
  refine ab_put O fl_X9_53 cl_X9 dX9_neighbour_2 (at_57 _ _ _) rfl .int (by decide +kernel) (fun _ => rfl) (fun _ => rfl) (show 0 < 18 by decide) ?_
  refine ab_eq ?_ rfl rfl rfl (sf_57_0 _ _ _ _).symm
  obtain ⟨V1, eV1⟩ : ∃ z : Mm, z = wr V 57 0 0 := ⟨_, rfl⟩
  rw [← eV1]
  have h := h V1 eV1
  refine ab_aload_n O 0 dX9_neighbour_5 rfl rfl ?_
  refine ab_iload_n O 1 dX9_neighbour_6 rfl rfl ?_
  refine ab_callvI O I.2.2.2.2.2.2 (fr := False) (st := []) lk_X9_84 rfl (at_57 _ _ _) dX9_neighbour_7 (c_X9_isVertex (d - 1) (by omega) _ O.2.2.2.2.2.2.1 _ _ _ _ h) rfl rfl ⟨by rw [I.2.1]; show d - 1 + 1 ≤ d; omega, by rw [I.2.1]; show 8 + (_ + 11) + 36 * (d - 1) ≤ 36 * d; omega⟩ (show 0 ≤ 8 by decide) ⟨by rw [I.2.1]; show 0 + 0 ≤ 0; decide, by rw [I.2.1]; show 0 + 0 ≤ 0; decide⟩ (fun q => q.elim) (fun E u q => q.elim) (fun r3 u hu => ?_)
  obtain ⟨V2, rfl, h⟩ := hu
  refine ab_if_ne O 19 dX9_neighbour_10 rfl (fun q4 => ?_) (fun q4 => ?_)
  · have h := h.2 q4
    refine ab_iload_n O 2 dX9_neighbour_19 rfl rfl ?_
    refine ab_istore_n O 3 dX9_neighbour_20 rfl (show 3 < 5 by decide) ?_
    refine ab_iconst O 0 dX9_neighbour_21 rfl ?_
    refine ab_istore O dX9_neighbour_22 (show 4 < 5 by decide) ?_
    obtain ⟨n9, h⟩ := h
    refine ab_less (cl_X9_neighbour_L24 hd (a0) O I (fun V10 x11 x12 h => ?_) n9 (V2) (a1) (0) h) (ab_le_s (ab_le_s (ab_le_n (ab_le_s (ab_le_s ab_le_0)))))
    refine ab_aload_n O 0 dX9_neighbour_62 rfl rfl ?_
    refine ab_iconst O 2 dX9_neighbour_63 rfl ?_
    refine ab_callvI O I.2.2.2.2.2.2 (fr := False) (st := []) lk_X9_78 rfl (at_57 _ _ _) dX9_neighbour_64 (c_X9_fails (d - 1) (by omega) _ O.2.2.2.2.2.2.1 _ _ _ _ h) rfl rfl ⟨by rw [I.2.1]; show d - 1 + 1 ≤ d; omega, by rw [I.2.1]; show 8 + (_ + 11) + 36 * (d - 1) ≤ 36 * d; omega⟩ (show 0 ≤ 8 by decide) ⟨by rw [I.2.1]; show 0 + 0 ≤ 0; decide, by rw [I.2.1]; show 0 + 0 ≤ 0; decide⟩ (fun q => q.elim) (fun E u q => q.elim) (fun r14 u hu => ?_)
    obtain ⟨V13, rfl, h⟩ := hu
    exact ab_ireturn O I dX9_neighbour_67 (by decide) (by decide) (by rfl) ⟨_, rfl, h⟩
  · have h := h.1 q4
    refine ab_aload_n O 0 dX9_neighbour_13 rfl rfl ?_
    refine ab_iconst O 1 dX9_neighbour_14 rfl ?_
    refine ab_callvI O I.2.2.2.2.2.2 (fr := False) (st := []) lk_X9_78 rfl (at_57 _ _ _) dX9_neighbour_15 (c_X9_fails (d - 1) (by omega) _ O.2.2.2.2.2.2.1 _ _ _ _ h) rfl rfl ⟨by rw [I.2.1]; show d - 1 + 1 ≤ d; omega, by rw [I.2.1]; show 8 + (_ + 11) + 36 * (d - 1) ≤ 36 * d; omega⟩ (show 0 ≤ 8 by decide) ⟨by rw [I.2.1]; show 0 + 0 ≤ 0; decide, by rw [I.2.1]; show 0 + 0 ≤ 0; decide⟩ (fun q => q.elim) (fun E u q => q.elim) (fun r16 u hu => ?_)
    obtain ⟨V15, rfl, h⟩ := hu
    exact ab_ireturn O I dX9_neighbour_18 (by decide) (by decide) (by rfl) ⟨_, rfl, h⟩

def wp_X9_otherEnd (V : Mm) (a0 a1 : Int32) (post : Int32 → Mm → Prop) : Prop := (∀ V1 : Mm, V1 = wr V 57 0 0 → (wp_X9_isEdge V1 (a0) (fun (r3 : Int32) (V2 : Mm) => ((r3 = 0 → (wp_X9_fails V2 (1) (fun (r6 : Int32) (V5 : Mm) => post r6 V5))) ∧ (¬ r3 = 0 → (wp_X9_isVertex V2 (a1) (fun (r8 : Int32) (V7 : Mm) => ((r8 = 0 → (wp_X9_fails V7 (1) (fun (r15 : Int32) (V14 : Mm) => post r15 V14))) ∧ (¬ r8 = 0 → (vp_in a0 60 ∧ (((V7 59 (Int32.toNatClampNeg (a0))) = a1 → (vp_in a0 60 ∧ (vp_in a0 60 ∧ post (((V7 59 (Int32.toNatClampNeg (a0))) + (V7 60 (Int32.toNatClampNeg (a0)))) - a1) V7))) ∧ (¬ (V7 59 (Int32.toNatClampNeg (a0))) = a1 → (vp_in a0 60 ∧ (((V7 60 (Int32.toNatClampNeg (a0))) = a1 → (vp_in a0 60 ∧ (vp_in a0 60 ∧ post (((V7 59 (Int32.toNatClampNeg (a0))) + (V7 60 (Int32.toNatClampNeg (a0)))) - a1) V7))) ∧ (¬ (V7 60 (Int32.toNatClampNeg (a0))) = a1 → (wp_X9_fails V7 (2) (fun (r13 : Int32) (V12 : Mm) => post r13 V12)))))))))))))))))
set_option maxHeartbeats 4000000 in
theorem c_X9_otherEnd (d : Nat) (hd : 2 ≤ d) (l : Launch) (hl : l.stackTraces = false) (g : ab_G) (o : Nat → Int64) (D : Nat → UInt64) (a0 : Int32) (a1 : Int32) {V : Mm} {post : Int32 → Mm → Prop} (h : wp_X9_otherEnd V a0 a1 post) : Ct l g tk_strs False d 0 0 yX9_otherEnd cX9_otherEnd 3 (some .int) [.ref 57, .int a0, .int a1] (SW V o D) (tk_I g (fun r u => ∃ V : Mm, u = SW V o D ∧ post r V)) (fun _ _ => False) := by
  refine ct_in (by decide +kernel) (show 3 ≤ 3 by decide) (by simp [Value.category]) hl (fun X I O _ => ?_)
  show Ab X g 0 0 _ 0 [some (.ref (57)), some (.int (a0)), some (.int (a1))] [] _
  refine ab_aload_n O 0 dX9_otherEnd_0 rfl rfl ?_
  refine ab_iconst O 0 dX9_otherEnd_1 rfl ?_
  refine ab_put O fl_X9_53 cl_X9 dX9_otherEnd_2 (at_57 _ _ _) rfl .int (by decide +kernel) (fun _ => rfl) (fun _ => rfl) (show 0 < 18 by decide) ?_
  refine ab_eq ?_ rfl rfl rfl (sf_57_0 _ _ _ _).symm
  obtain ⟨V1, eV1⟩ : ∃ z : Mm, z = wr V 57 0 0 := ⟨_, rfl⟩
  rw [← eV1]
  have h := h V1 eV1
  refine ab_aload_n O 0 dX9_otherEnd_5 rfl rfl ?_
  refine ab_iload_n O 1 dX9_otherEnd_6 rfl rfl ?_
  refine ab_callvI O I.2.2.2.2.2.2 (fr := False) (st := []) lk_X9_88 rfl (at_57 _ _ _) dX9_otherEnd_7 (c_X9_isEdge (d - 1) (by omega) _ O.2.2.2.2.2.2.1 _ _ _ _ h) rfl rfl ⟨by rw [I.2.1]; show d - 1 + 1 ≤ d; omega, by rw [I.2.1]; show 8 + (_ + 11) + 36 * (d - 1) ≤ 36 * d; omega⟩ (show 0 ≤ 8 by decide) ⟨by rw [I.2.1]; show 0 + 0 ≤ 0; decide, by rw [I.2.1]; show 0 + 0 ≤ 0; decide⟩ (fun q => q.elim) (fun E u q => q.elim) (fun r3 u hu => ?_)
  obtain ⟨V2, rfl, h⟩ := hu
  refine ab_if_eq O 21 dX9_otherEnd_10 rfl (fun q4 => ?_) (fun q4 => ?_)
  · have h := h.1 q4
    refine ab_aload_n O 0 dX9_otherEnd_21 rfl rfl ?_
    refine ab_iconst O 1 dX9_otherEnd_22 rfl ?_
    refine ab_callvI O I.2.2.2.2.2.2 (fr := False) (st := []) lk_X9_78 rfl (at_57 _ _ _) dX9_otherEnd_23 (c_X9_fails (d - 1) (by omega) _ O.2.2.2.2.2.2.1 _ _ _ _ h) rfl rfl ⟨by rw [I.2.1]; show d - 1 + 1 ≤ d; omega, by rw [I.2.1]; show 8 + (_ + 11) + 36 * (d - 1) ≤ 36 * d; omega⟩ (show 0 ≤ 8 by decide) ⟨by rw [I.2.1]; show 0 + 0 ≤ 0; decide, by rw [I.2.1]; show 0 + 0 ≤ 0; decide⟩ (fun q => q.elim) (fun E u q => q.elim) (fun r6 u hu => ?_)
    obtain ⟨V5, rfl, h⟩ := hu
    exact ab_ireturn O I dX9_otherEnd_26 (by decide) (by decide) (by rfl) ⟨_, rfl, h⟩
  · have h := h.2 q4
    refine ab_aload_n O 0 dX9_otherEnd_13 rfl rfl ?_
    refine ab_iload_n O 2 dX9_otherEnd_14 rfl rfl ?_
    refine ab_callvI O I.2.2.2.2.2.2 (fr := False) (st := []) lk_X9_84 rfl (at_57 _ _ _) dX9_otherEnd_15 (c_X9_isVertex (d - 1) (by omega) _ O.2.2.2.2.2.2.1 _ _ _ _ h) rfl rfl ⟨by rw [I.2.1]; show d - 1 + 1 ≤ d; omega, by rw [I.2.1]; show 8 + (_ + 11) + 36 * (d - 1) ≤ 36 * d; omega⟩ (show 0 ≤ 8 by decide) ⟨by rw [I.2.1]; show 0 + 0 ≤ 0; decide, by rw [I.2.1]; show 0 + 0 ≤ 0; decide⟩ (fun q => q.elim) (fun E u q => q.elim) (fun r8 u hu => ?_)
    obtain ⟨V7, rfl, h⟩ := hu
    refine ab_if_ne O 27 dX9_otherEnd_18 rfl (fun q9 => ?_) (fun q9 => ?_)
    · have h := h.2 q9
      refine ab_aload_n O 0 dX9_otherEnd_27 rfl rfl ?_
      refine ab_get O fl_X9_13 dX9_otherEnd_28 (at_57 _ _ _) rfl ?_
      refine ab_iload_n O 1 dX9_otherEnd_31 rfl rfl ?_
      refine ab_iald O dX9_otherEnd_32 (at_59 _ _ _) h.1 ?_
      have h := h.2
      refine ab_iload_n O 2 dX9_otherEnd_33 rfl rfl ?_
      refine ab_icmp_eq O 53 dX9_otherEnd_34 rfl (fun q10 => ?_) (fun q10 => ?_)
      · have h := h.1 q10
        refine ab_aload_n O 0 dX9_otherEnd_53 rfl rfl ?_
        refine ab_get O fl_X9_13 dX9_otherEnd_54 (at_57 _ _ _) rfl ?_
        refine ab_iload_n O 1 dX9_otherEnd_57 rfl rfl ?_
        refine ab_iald O dX9_otherEnd_58 (at_59 _ _ _) h.1 ?_
        have h := h.2
        refine ab_aload_n O 0 dX9_otherEnd_59 rfl rfl ?_
        refine ab_get O fl_X9_16 dX9_otherEnd_60 (at_57 _ _ _) rfl ?_
        refine ab_iload_n O 1 dX9_otherEnd_63 rfl rfl ?_
        refine ab_iald O dX9_otherEnd_64 (at_60 _ _ _) h.1 ?_
        have h := h.2
        refine ab_iadd O dX9_otherEnd_65 ?_
        refine ab_iload_n O 2 dX9_otherEnd_66 rfl rfl ?_
        refine ab_isub O dX9_otherEnd_67 ?_
        exact ab_ireturn O I dX9_otherEnd_68 (by decide) (by decide) (by rfl) ⟨_, rfl, h⟩
      · have h := h.2 q10
        refine ab_aload_n O 0 dX9_otherEnd_37 rfl rfl ?_
        refine ab_get O fl_X9_16 dX9_otherEnd_38 (at_57 _ _ _) rfl ?_
        refine ab_iload_n O 1 dX9_otherEnd_41 rfl rfl ?_
        refine ab_iald O dX9_otherEnd_42 (at_60 _ _ _) h.1 ?_
        have h := h.2
        refine ab_iload_n O 2 dX9_otherEnd_43 rfl rfl ?_
        refine ab_icmp_eq O 53 dX9_otherEnd_44 rfl (fun q11 => ?_) (fun q11 => ?_)
        · have h := h.1 q11
          refine ab_aload_n O 0 dX9_otherEnd_53 rfl rfl ?_
          refine ab_get O fl_X9_13 dX9_otherEnd_54 (at_57 _ _ _) rfl ?_
          refine ab_iload_n O 1 dX9_otherEnd_57 rfl rfl ?_
          refine ab_iald O dX9_otherEnd_58 (at_59 _ _ _) h.1 ?_
          have h := h.2
          refine ab_aload_n O 0 dX9_otherEnd_59 rfl rfl ?_
          refine ab_get O fl_X9_16 dX9_otherEnd_60 (at_57 _ _ _) rfl ?_
          refine ab_iload_n O 1 dX9_otherEnd_63 rfl rfl ?_
          refine ab_iald O dX9_otherEnd_64 (at_60 _ _ _) h.1 ?_
          have h := h.2
          refine ab_iadd O dX9_otherEnd_65 ?_
          refine ab_iload_n O 2 dX9_otherEnd_66 rfl rfl ?_
          refine ab_isub O dX9_otherEnd_67 ?_
          exact ab_ireturn O I dX9_otherEnd_68 (by decide) (by decide) (by rfl) ⟨_, rfl, h⟩
        · have h := h.2 q11
          refine ab_aload_n O 0 dX9_otherEnd_47 rfl rfl ?_
          refine ab_iconst O 2 dX9_otherEnd_48 rfl ?_
          refine ab_callvI O I.2.2.2.2.2.2 (fr := False) (st := []) lk_X9_78 rfl (at_57 _ _ _) dX9_otherEnd_49 (c_X9_fails (d - 1) (by omega) _ O.2.2.2.2.2.2.1 _ _ _ _ h) rfl rfl ⟨by rw [I.2.1]; show d - 1 + 1 ≤ d; omega, by rw [I.2.1]; show 8 + (_ + 11) + 36 * (d - 1) ≤ 36 * d; omega⟩ (show 0 ≤ 8 by decide) ⟨by rw [I.2.1]; show 0 + 0 ≤ 0; decide, by rw [I.2.1]; show 0 + 0 ≤ 0; decide⟩ (fun q => q.elim) (fun E u q => q.elim) (fun r13 u hu => ?_)
          obtain ⟨V12, rfl, h⟩ := hu
          exact ab_ireturn O I dX9_otherEnd_52 (by decide) (by decide) (by rfl) ⟨_, rfl, h⟩
    · have h := h.1 q9
      refine ab_aload_n O 0 dX9_otherEnd_21 rfl rfl ?_
      refine ab_iconst O 1 dX9_otherEnd_22 rfl ?_
      refine ab_callvI O I.2.2.2.2.2.2 (fr := False) (st := []) lk_X9_78 rfl (at_57 _ _ _) dX9_otherEnd_23 (c_X9_fails (d - 1) (by omega) _ O.2.2.2.2.2.2.1 _ _ _ _ h) rfl rfl ⟨by rw [I.2.1]; show d - 1 + 1 ≤ d; omega, by rw [I.2.1]; show 8 + (_ + 11) + 36 * (d - 1) ≤ 36 * d; omega⟩ (show 0 ≤ 8 by decide) ⟨by rw [I.2.1]; show 0 + 0 ≤ 0; decide, by rw [I.2.1]; show 0 + 0 ≤ 0; decide⟩ (fun q => q.elim) (fun E u q => q.elim) (fun r15 u hu => ?_)
      obtain ⟨V14, rfl, h⟩ := hu
      exact ab_ireturn O I dX9_otherEnd_26 (by decide) (by decide) (by rfl) ⟨_, rfl, h⟩

def wp_X9_parallel_L32 (y32_1 y32_2 : Int32) (post : Int32 → Mm → Prop) (kx : Mm → Int32 → Int32 → Prop) : Nat → Mm → Int32 → Int32 → Prop
  | 0, _, _, _ => False
  | n32 + 1, V, x32_3, x32_4 => (((V 57 10) ≤ x32_4 → kx (V) (x32_3) (x32_4)) ∧ (¬ (V 57 10) ≤ x32_4 → (vp_in x32_4 60 ∧ (((V 64 (Int32.toNatClampNeg (x32_4))) = 0 → wp_X9_parallel_L32 y32_1 y32_2 post kx n32 (V) ((x32_3 + 0)) ((x32_4 + (1)))) ∧ (¬ (V 64 (Int32.toNatClampNeg (x32_4))) = 0 → (wp_X9_joins V (x32_4) (y32_1) (y32_2) (fun (r13 : Int32) (V12 : Mm) => ((r13 = 0 → wp_X9_parallel_L32 y32_1 y32_2 post kx n32 (V12) ((x32_3 + 0)) ((x32_4 + (1)))) ∧ (¬ r13 = 0 → wp_X9_parallel_L32 y32_1 y32_2 post kx n32 (V12) ((x32_3 + 1)) ((x32_4 + (1))))))))))))

def wp_X9_parallel (V : Mm) (a0 a1 : Int32) (post : Int32 → Mm → Prop) : Prop := (∀ V1 : Mm, V1 = wr V 57 0 0 → (wp_X9_isVertex V1 (a0) (fun (r3 : Int32) (V2 : Mm) => ((r3 = 0 → (wp_X9_fails V2 (1) (fun (r6 : Int32) (V5 : Mm) => post r6 V5))) ∧ (¬ r3 = 0 → (wp_X9_isVertex V2 (a1) (fun (r8 : Int32) (V7 : Mm) => ((r8 = 0 → (wp_X9_fails V7 (1) (fun (r19 : Int32) (V18 : Mm) => post r19 V18))) ∧ (¬ r8 = 0 → (∃ m32 : Nat, wp_X9_parallel_L32 (a0) (a1) post (fun (V15 : Mm) (x16 : Int32) (x17 : Int32) => post x16 V15) m32 (V7) (0) (0)))))))))))
set_option maxHeartbeats 4000000 in
theorem cl_X9_parallel_L32 {X : ab_M} {g : ab_G} {l : Launch} {d : Nat} (hd : 2 ≤ d) (y32_1 y32_2 : Int32) {post : Int32 → Mm → Prop} {kx : Mm → Int32 → Int32 → Prop} {o : Nat → Int64} {D : Nat → UInt64} (O : ab_Ok X g cX9_parallel RX9) (I : ab_I X l tk_strs 5 (some .int) yX9_parallel.name d 0 0) (hk : ∀ (V : Mm) (x32_3 : Int32) (x32_4 : Int32), kx V x32_3 x32_4 → Ab X g 0 0 (tk_Q X g (tk_I g (fun r u => ∃ V : Mm, u = SW V o D ∧ post r V)) (fun _ _ => False) 0 0) 76 [none, none, none, some (.int (x32_3)), none] [] (SW V o D)) : ∀ (n : Nat) (V : Mm) (x32_3 : Int32) (x32_4 : Int32), wp_X9_parallel_L32 y32_1 y32_2 post kx n V x32_3 x32_4 → Ab X g 0 0 (tk_Q X g (tk_I g (fun r u => ∃ V : Mm, u = SW V o D ∧ post r V)) (fun _ _ => False) 0 0) 32 [some (.ref (57)), some (.int (y32_1)), some (.int (y32_2)), some (.int (x32_3)), some (.int (x32_4))] [] (SW V o D) := by
  intro n
  induction n with
  | zero => intro V x32_3 x32_4 h; exact h.elim
  | succ n ih =>
    intro V x32_3 x32_4 h
    refine ab_iload O dX9_parallel_32 rfl ?_
    refine ab_aload_n O 0 dX9_parallel_34 rfl rfl ?_
    refine ab_get O fl_X9_64 dX9_parallel_35 (at_57 _ _ _) rfl ?_
    refine ab_icmp_ge O 76 dX9_parallel_38 rfl (fun q10 => ?_) (fun q10 => ?_)
    · have h := h.1 q10
      exact ab_less (hk (V) (x32_3) (x32_4) h) (ab_le_n (ab_le_n (ab_le_n (ab_le_s (ab_le_n ab_le_0)))))
    · have h := h.2 q10
      refine ab_iload_n O 3 dX9_parallel_41 rfl rfl ?_
      refine ab_aload_n O 0 dX9_parallel_42 rfl rfl ?_
      refine ab_get O fl_X9_28 dX9_parallel_43 (at_57 _ _ _) rfl ?_
      refine ab_iload O dX9_parallel_46 rfl ?_
      refine ab_zald O dX9_parallel_48 (at_64 _ _ _) h.1 ?_
      have h := h.2
      refine ab_if_eq O 67 dX9_parallel_49 rfl (fun q11 => ?_) (fun q11 => ?_)
      · have h := h.1 q11
        refine ab_iconst O 0 dX9_parallel_67 rfl ?_
        refine ab_iadd O dX9_parallel_68 ?_
        refine ab_istore_n O 3 dX9_parallel_69 rfl (show 3 < 5 by decide) ?_
        refine ab_iinc O ((x32_4 + (1))) dX9_parallel_70 rfl rfl ?_
        refine ab_goto O 32 dX9_parallel_73 rfl ?_
        exact ab_less (ih (V) ((x32_3 + 0)) ((x32_4 + (1))) h) (ab_le_s (ab_le_s (ab_le_s (ab_le_s (ab_le_s ab_le_0)))))
      · have h := h.2 q11
        refine ab_aload_n O 0 dX9_parallel_52 rfl rfl ?_
        refine ab_iload O dX9_parallel_53 rfl ?_
        refine ab_iload_n O 1 dX9_parallel_55 rfl rfl ?_
        refine ab_iload_n O 2 dX9_parallel_56 rfl rfl ?_
        refine ab_callvI O I.2.2.2.2.2.2 (fr := False) (st := [.int (x32_3)]) lk_X9_101 rfl (at_57 _ _ _) dX9_parallel_57 (c_X9_joins (d - 1) (by omega) _ O.2.2.2.2.2.2.1 _ _ _ _ _ _ h) rfl rfl ⟨by rw [I.2.1]; show d - 1 + 1 ≤ d; omega, by rw [I.2.1]; show 8 + (_ + 11) + 36 * (d - 1) ≤ 36 * d; omega⟩ (show 1 ≤ 8 by decide) ⟨by rw [I.2.1]; show 0 + 0 ≤ 0; decide, by rw [I.2.1]; show 0 + 0 ≤ 0; decide⟩ (fun q => q.elim) (fun E u q => q.elim) (fun r13 u hu => ?_)
        obtain ⟨V12, rfl, h⟩ := hu
        refine ab_if_eq O 67 dX9_parallel_60 rfl (fun q14 => ?_) (fun q14 => ?_)
        · have h := h.1 q14
          refine ab_iconst O 0 dX9_parallel_67 rfl ?_
          refine ab_iadd O dX9_parallel_68 ?_
          refine ab_istore_n O 3 dX9_parallel_69 rfl (show 3 < 5 by decide) ?_
          refine ab_iinc O ((x32_4 + (1))) dX9_parallel_70 rfl rfl ?_
          refine ab_goto O 32 dX9_parallel_73 rfl ?_
          exact ab_less (ih (V12) ((x32_3 + 0)) ((x32_4 + (1))) h) (ab_le_s (ab_le_s (ab_le_s (ab_le_s (ab_le_s ab_le_0)))))
        · have h := h.2 q14
          refine ab_iconst O 1 dX9_parallel_63 rfl ?_
          refine ab_goto O 68 dX9_parallel_64 rfl ?_
          refine ab_iadd O dX9_parallel_68 ?_
          refine ab_istore_n O 3 dX9_parallel_69 rfl (show 3 < 5 by decide) ?_
          refine ab_iinc O ((x32_4 + (1))) dX9_parallel_70 rfl rfl ?_
          refine ab_goto O 32 dX9_parallel_73 rfl ?_
          exact ab_less (ih (V12) ((x32_3 + 1)) ((x32_4 + (1))) h) (ab_le_s (ab_le_s (ab_le_s (ab_le_s (ab_le_s ab_le_0)))))
set_option maxHeartbeats 4000000 in
theorem c_X9_parallel (d : Nat) (hd : 2 ≤ d) (l : Launch) (hl : l.stackTraces = false) (g : ab_G) (o : Nat → Int64) (D : Nat → UInt64) (a0 : Int32) (a1 : Int32) {V : Mm} {post : Int32 → Mm → Prop} (h : wp_X9_parallel V a0 a1 post) : Ct l g tk_strs False d 0 0 yX9_parallel cX9_parallel 5 (some .int) [.ref 57, .int a0, .int a1] (SW V o D) (tk_I g (fun r u => ∃ V : Mm, u = SW V o D ∧ post r V)) (fun _ _ => False) := by
  refine ct_in (by decide +kernel) (show 3 ≤ 5 by decide) (by simp [Value.category]) hl (fun X I O _ => ?_)
  show Ab X g 0 0 _ 0 [some (.ref (57)), some (.int (a0)), some (.int (a1)), none, none] [] _
  refine ab_aload_n O 0 dX9_parallel_0 rfl rfl ?_
  refine ab_iconst O 0 dX9_parallel_1 rfl ?_
  refine ab_put O fl_X9_53 cl_X9 dX9_parallel_2 (at_57 _ _ _) rfl .int (by decide +kernel) (fun _ => rfl) (fun _ => rfl) (show 0 < 18 by decide) ?_
  refine ab_eq ?_ rfl rfl rfl (sf_57_0 _ _ _ _).symm
  obtain ⟨V1, eV1⟩ : ∃ z : Mm, z = wr V 57 0 0 := ⟨_, rfl⟩
  rw [← eV1]
  have h := h V1 eV1
  refine ab_aload_n O 0 dX9_parallel_5 rfl rfl ?_
  refine ab_iload_n O 1 dX9_parallel_6 rfl rfl ?_
  refine ab_callvI O I.2.2.2.2.2.2 (fr := False) (st := []) lk_X9_84 rfl (at_57 _ _ _) dX9_parallel_7 (c_X9_isVertex (d - 1) (by omega) _ O.2.2.2.2.2.2.1 _ _ _ _ h) rfl rfl ⟨by rw [I.2.1]; show d - 1 + 1 ≤ d; omega, by rw [I.2.1]; show 8 + (_ + 11) + 36 * (d - 1) ≤ 36 * d; omega⟩ (show 0 ≤ 8 by decide) ⟨by rw [I.2.1]; show 0 + 0 ≤ 0; decide, by rw [I.2.1]; show 0 + 0 ≤ 0; decide⟩ (fun q => q.elim) (fun E u q => q.elim) (fun r3 u hu => ?_)
  obtain ⟨V2, rfl, h⟩ := hu
  refine ab_if_eq O 21 dX9_parallel_10 rfl (fun q4 => ?_) (fun q4 => ?_)
  · have h := h.1 q4
    refine ab_aload_n O 0 dX9_parallel_21 rfl rfl ?_
    refine ab_iconst O 1 dX9_parallel_22 rfl ?_
    refine ab_callvI O I.2.2.2.2.2.2 (fr := False) (st := []) lk_X9_78 rfl (at_57 _ _ _) dX9_parallel_23 (c_X9_fails (d - 1) (by omega) _ O.2.2.2.2.2.2.1 _ _ _ _ h) rfl rfl ⟨by rw [I.2.1]; show d - 1 + 1 ≤ d; omega, by rw [I.2.1]; show 8 + (_ + 11) + 36 * (d - 1) ≤ 36 * d; omega⟩ (show 0 ≤ 8 by decide) ⟨by rw [I.2.1]; show 0 + 0 ≤ 0; decide, by rw [I.2.1]; show 0 + 0 ≤ 0; decide⟩ (fun q => q.elim) (fun E u q => q.elim) (fun r6 u hu => ?_)
    obtain ⟨V5, rfl, h⟩ := hu
    exact ab_ireturn O I dX9_parallel_26 (by decide) (by decide) (by rfl) ⟨_, rfl, h⟩
  · have h := h.2 q4
    refine ab_aload_n O 0 dX9_parallel_13 rfl rfl ?_
    refine ab_iload_n O 2 dX9_parallel_14 rfl rfl ?_
    refine ab_callvI O I.2.2.2.2.2.2 (fr := False) (st := []) lk_X9_84 rfl (at_57 _ _ _) dX9_parallel_15 (c_X9_isVertex (d - 1) (by omega) _ O.2.2.2.2.2.2.1 _ _ _ _ h) rfl rfl ⟨by rw [I.2.1]; show d - 1 + 1 ≤ d; omega, by rw [I.2.1]; show 8 + (_ + 11) + 36 * (d - 1) ≤ 36 * d; omega⟩ (show 0 ≤ 8 by decide) ⟨by rw [I.2.1]; show 0 + 0 ≤ 0; decide, by rw [I.2.1]; show 0 + 0 ≤ 0; decide⟩ (fun q => q.elim) (fun E u q => q.elim) (fun r8 u hu => ?_)
    obtain ⟨V7, rfl, h⟩ := hu
    refine ab_if_ne O 27 dX9_parallel_18 rfl (fun q9 => ?_) (fun q9 => ?_)
    · have h := h.2 q9
      refine ab_iconst O 0 dX9_parallel_27 rfl ?_
      refine ab_istore_n O 3 dX9_parallel_28 rfl (show 3 < 5 by decide) ?_
      refine ab_iconst O 0 dX9_parallel_29 rfl ?_
      refine ab_istore O dX9_parallel_30 (show 4 < 5 by decide) ?_
      obtain ⟨n9, h⟩ := h
      refine ab_less (cl_X9_parallel_L32 hd (a0) (a1) O I (fun V15 x16 x17 h => ?_) n9 (V7) (0) (0) h) (ab_le_s (ab_le_s (ab_le_s (ab_le_s (ab_le_s ab_le_0)))))
      refine ab_iload_n O 3 dX9_parallel_76 rfl rfl ?_
      exact ab_ireturn O I dX9_parallel_77 (by decide) (by decide) (by rfl) ⟨_, rfl, h⟩
    · have h := h.1 q9
      refine ab_aload_n O 0 dX9_parallel_21 rfl rfl ?_
      refine ab_iconst O 1 dX9_parallel_22 rfl ?_
      refine ab_callvI O I.2.2.2.2.2.2 (fr := False) (st := []) lk_X9_78 rfl (at_57 _ _ _) dX9_parallel_23 (c_X9_fails (d - 1) (by omega) _ O.2.2.2.2.2.2.1 _ _ _ _ h) rfl rfl ⟨by rw [I.2.1]; show d - 1 + 1 ≤ d; omega, by rw [I.2.1]; show 8 + (_ + 11) + 36 * (d - 1) ≤ 36 * d; omega⟩ (show 0 ≤ 8 by decide) ⟨by rw [I.2.1]; show 0 + 0 ≤ 0; decide, by rw [I.2.1]; show 0 + 0 ≤ 0; decide⟩ (fun q => q.elim) (fun E u q => q.elim) (fun r19 u hu => ?_)
      obtain ⟨V18, rfl, h⟩ := hu
      exact ab_ireturn O I dX9_parallel_26 (by decide) (by decide) (by rfl) ⟨_, rfl, h⟩

def wp_X9_parent (V : Mm) (a0 a1 : Int32) (post : Int32 → Mm → Prop) : Prop := (wp_X9_isApart V (a0) (a1) (fun (r2 : Int32) (V1 : Mm) => ((r2 = 0 → ((a1 = a0 → (wp_X9_fails V1 (3) (fun (r6 : Int32) (V5 : Mm) => post r6 V5))) ∧ (¬ a1 = a0 → (vp_in a1 20 ∧ post (V1 67 (Int32.toNatClampNeg (a1))) V1)))) ∧ (¬ r2 = 0 → post 0 V1))))
set_option maxHeartbeats 4000000 in
theorem c_X9_parent (d : Nat) (hd : 3 ≤ d) (l : Launch) (hl : l.stackTraces = false) (g : ab_G) (o : Nat → Int64) (D : Nat → UInt64) (a0 : Int32) (a1 : Int32) {V : Mm} {post : Int32 → Mm → Prop} (h : wp_X9_parent V a0 a1 post) : Ct l g tk_strs False d 0 0 yX9_parent cX9_parent 3 (some .int) [.ref 57, .int a0, .int a1] (SW V o D) (tk_I g (fun r u => ∃ V : Mm, u = SW V o D ∧ post r V)) (fun _ _ => False) := by
  refine ct_in (by decide +kernel) (show 3 ≤ 3 by decide) (by simp [Value.category]) hl (fun X I O _ => ?_)
  show Ab X g 0 0 _ 0 [some (.ref (57)), some (.int (a0)), some (.int (a1))] [] _
  refine ab_aload_n O 0 dX9_parent_0 rfl rfl ?_
  refine ab_iload_n O 1 dX9_parent_1 rfl rfl ?_
  refine ab_iload_n O 2 dX9_parent_2 rfl rfl ?_
  refine ab_callvI O I.2.2.2.2.2.2 (fr := False) (st := []) lk_X9_117 rfl (at_57 _ _ _) dX9_parent_3 (c_X9_isApart (d - 1) (by omega) _ O.2.2.2.2.2.2.1 _ _ _ _ _ h) rfl rfl ⟨by rw [I.2.1]; show d - 1 + 1 ≤ d; omega, by rw [I.2.1]; show 8 + (_ + 11) + 36 * (d - 1) ≤ 36 * d; omega⟩ (show 0 ≤ 8 by decide) ⟨by rw [I.2.1]; show 0 + 0 ≤ 0; decide, by rw [I.2.1]; show 0 + 0 ≤ 0; decide⟩ (fun q => q.elim) (fun E u q => q.elim) (fun r2 u hu => ?_)
  obtain ⟨V1, rfl, h⟩ := hu
  refine ab_if_eq O 11 dX9_parent_6 rfl (fun q3 => ?_) (fun q3 => ?_)
  · have h := h.1 q3
    refine ab_iload_n O 2 dX9_parent_11 rfl rfl ?_
    refine ab_iload_n O 1 dX9_parent_12 rfl rfl ?_
    refine ab_icmp_ne O 24 dX9_parent_13 rfl (fun q4 => ?_) (fun q4 => ?_)
    · have h := h.2 q4
      refine ab_aload_n O 0 dX9_parent_24 rfl rfl ?_
      refine ab_get O fl_X9_38 dX9_parent_25 (at_57 _ _ _) rfl ?_
      refine ab_iload_n O 2 dX9_parent_28 rfl rfl ?_
      refine ab_iald O dX9_parent_29 (at_67 _ _ _) h.1 ?_
      have h := h.2
      exact ab_ireturn O I dX9_parent_30 (by decide) (by decide) (by rfl) ⟨_, rfl, h⟩
    · have h := h.1 q4
      refine ab_aload_n O 0 dX9_parent_16 rfl rfl ?_
      refine ab_iconst O 3 dX9_parent_17 rfl ?_
      refine ab_callvI O I.2.2.2.2.2.2 (fr := False) (st := []) lk_X9_78 rfl (at_57 _ _ _) dX9_parent_18 (c_X9_fails (d - 1) (by omega) _ O.2.2.2.2.2.2.1 _ _ _ _ h) rfl rfl ⟨by rw [I.2.1]; show d - 1 + 1 ≤ d; omega, by rw [I.2.1]; show 8 + (_ + 11) + 36 * (d - 1) ≤ 36 * d; omega⟩ (show 0 ≤ 8 by decide) ⟨by rw [I.2.1]; show 0 + 0 ≤ 0; decide, by rw [I.2.1]; show 0 + 0 ≤ 0; decide⟩ (fun q => q.elim) (fun E u q => q.elim) (fun r6 u hu => ?_)
      obtain ⟨V5, rfl, h⟩ := hu
      refine ab_goto O 30 dX9_parent_21 rfl ?_
      exact ab_ireturn O I dX9_parent_30 (by decide) (by decide) (by rfl) ⟨_, rfl, h⟩
  · have h := h.2 q3
    refine ab_iconst O 0 dX9_parent_9 rfl ?_
    exact ab_ireturn O I dX9_parent_10 (by decide) (by decide) (by rfl) ⟨_, rfl, h⟩

def wp_X9_pathSumByHeavyPaths (V : Mm) (a0 a1 : Int32) (post : Int32 → Mm → Prop) : Prop := (wp_X9_pathSum V (a0) (a1) (fun (r2 : Int32) (V1 : Mm) => post r2 V1))
set_option maxHeartbeats 4000000 in
theorem c_X9_pathSumByHeavyPaths (d : Nat) (hd : 4 ≤ d) (l : Launch) (hl : l.stackTraces = false) (g : ab_G) (o : Nat → Int64) (D : Nat → UInt64) (a0 : Int32) (a1 : Int32) {V : Mm} {post : Int32 → Mm → Prop} (h : wp_X9_pathSumByHeavyPaths V a0 a1 post) : Ct l g tk_strs False d 0 0 yX9_pathSumByHeavyPaths cX9_pathSumByHeavyPaths 3 (some .int) [.ref 57, .int a0, .int a1] (SW V o D) (tk_I g (fun r u => ∃ V : Mm, u = SW V o D ∧ post r V)) (fun _ _ => False) := by
  refine ct_in (by decide +kernel) (show 3 ≤ 3 by decide) (by simp [Value.category]) hl (fun X I O _ => ?_)
  show Ab X g 0 0 _ 0 [some (.ref (57)), some (.int (a0)), some (.int (a1))] [] _
  refine ab_aload_n O 0 dX9_pathSumByHeavyPaths_0 rfl rfl ?_
  refine ab_iload_n O 1 dX9_pathSumByHeavyPaths_1 rfl rfl ?_
  refine ab_iload_n O 2 dX9_pathSumByHeavyPaths_2 rfl rfl ?_
  refine ab_callvI O I.2.2.2.2.2.2 (fr := False) (st := []) lk_X9_120 rfl (at_57 _ _ _) dX9_pathSumByHeavyPaths_3 (c_X9_pathSum (d - 1) (by omega) _ O.2.2.2.2.2.2.1 _ _ _ _ _ h) rfl rfl ⟨by rw [I.2.1]; show d - 1 + 1 ≤ d; omega, by rw [I.2.1]; show 8 + (_ + 11) + 36 * (d - 1) ≤ 36 * d; omega⟩ (show 0 ≤ 8 by decide) ⟨by rw [I.2.1]; show 0 + 0 ≤ 0; decide, by rw [I.2.1]; show 0 + 0 ≤ 0; decide⟩ (fun q => q.elim) (fun E u q => q.elim) (fun r2 u hu => ?_)
  obtain ⟨V1, rfl, h⟩ := hu
  exact ab_ireturn O I dX9_pathSumByHeavyPaths_6 (by decide) (by decide) (by rfl) ⟨_, rfl, h⟩

def wp_X9_pathSumByWalk (V : Mm) (a0 a1 : Int32) (post : Int32 → Mm → Prop) : Prop := (wp_X9_pathSum V (a0) (a1) (fun (r2 : Int32) (V1 : Mm) => post r2 V1))
set_option maxHeartbeats 4000000 in
theorem c_X9_pathSumByWalk (d : Nat) (hd : 4 ≤ d) (l : Launch) (hl : l.stackTraces = false) (g : ab_G) (o : Nat → Int64) (D : Nat → UInt64) (a0 : Int32) (a1 : Int32) {V : Mm} {post : Int32 → Mm → Prop} (h : wp_X9_pathSumByWalk V a0 a1 post) : Ct l g tk_strs False d 0 0 yX9_pathSumByWalk cX9_pathSumByWalk 3 (some .int) [.ref 57, .int a0, .int a1] (SW V o D) (tk_I g (fun r u => ∃ V : Mm, u = SW V o D ∧ post r V)) (fun _ _ => False) := by
  refine ct_in (by decide +kernel) (show 3 ≤ 3 by decide) (by simp [Value.category]) hl (fun X I O _ => ?_)
  show Ab X g 0 0 _ 0 [some (.ref (57)), some (.int (a0)), some (.int (a1))] [] _
  refine ab_aload_n O 0 dX9_pathSumByWalk_0 rfl rfl ?_
  refine ab_iload_n O 1 dX9_pathSumByWalk_1 rfl rfl ?_
  refine ab_iload_n O 2 dX9_pathSumByWalk_2 rfl rfl ?_
  refine ab_callvI O I.2.2.2.2.2.2 (fr := False) (st := []) lk_X9_120 rfl (at_57 _ _ _) dX9_pathSumByWalk_3 (c_X9_pathSum (d - 1) (by omega) _ O.2.2.2.2.2.2.1 _ _ _ _ _ h) rfl rfl ⟨by rw [I.2.1]; show d - 1 + 1 ≤ d; omega, by rw [I.2.1]; show 8 + (_ + 11) + 36 * (d - 1) ≤ 36 * d; omega⟩ (show 0 ≤ 8 by decide) ⟨by rw [I.2.1]; show 0 + 0 ≤ 0; decide, by rw [I.2.1]; show 0 + 0 ≤ 0; decide⟩ (fun q => q.elim) (fun E u q => q.elim) (fun r2 u hu => ?_)
  obtain ⟨V1, rfl, h⟩ := hu
  exact ab_ireturn O I dX9_pathSumByWalk_6 (by decide) (by decide) (by rfl) ⟨_, rfl, h⟩

def wp_X9_pathVertex_L37 (y37_3 : Int32) (post : Int32 → Mm → Prop) (kx : Mm → Int32 → Int32 → Prop) : Nat → Mm → Int32 → Int32 → Prop
  | 0, _, _, _ => False
  | n37 + 1, V, x37_4, x37_5 => ((y37_3 ≤ x37_5 → kx (V) (x37_4) (x37_5)) ∧ (¬ y37_3 ≤ x37_5 → (vp_in x37_4 20 ∧ wp_X9_pathVertex_L37 y37_3 post kx n37 (V) ((V 67 (Int32.toNatClampNeg (x37_4)))) ((x37_5 + (1))))))

def wp_X9_pathVertex (V : Mm) (a0 a1 a2 : Int32) (post : Int32 → Mm → Prop) : Prop := (wp_X9_isApart V (a1) (a0) (fun (r2 : Int32) (V1 : Mm) => ((r2 = 0 → (vp_in a0 20 ∧ (wp_X9_isBetween V1 (a2) (0) ((V1 68 (Int32.toNatClampNeg (a0)))) (fun (r5 : Int32) (V4 : Mm) => ((r5 = 0 → (wp_X9_fails V4 (3) (fun (r12 : Int32) (V11 : Mm) => post r12 V11))) ∧ (¬ r5 = 0 → (∃ m37 : Nat, wp_X9_pathVertex_L37 (a2) post (fun (V8 : Mm) (x9 : Int32) (x10 : Int32) => post x9 V8) m37 (V4) (a0) (0)))))))) ∧ (¬ r2 = 0 → post 0 V1))))
set_option maxHeartbeats 4000000 in
theorem cl_X9_pathVertex_L37 {X : ab_M} {g : ab_G} {l : Launch} {d : Nat} (hd : 3 ≤ d) (y37_3 : Int32) {post : Int32 → Mm → Prop} {kx : Mm → Int32 → Int32 → Prop} {o : Nat → Int64} {D : Nat → UInt64} (O : ab_Ok X g cX9_pathVertex RX9) (I : ab_I X l tk_strs 6 (some .int) yX9_pathVertex.name d 0 0) (hk : ∀ (V : Mm) (x37_4 : Int32) (x37_5 : Int32), kx V x37_4 x37_5 → Ab X g 0 0 (tk_Q X g (tk_I g (fun r u => ∃ V : Mm, u = SW V o D ∧ post r V)) (fun _ _ => False) 0 0) 58 [none, none, none, none, some (.int (x37_4)), none] [] (SW V o D)) : ∀ (n : Nat) (V : Mm) (x37_4 : Int32) (x37_5 : Int32), wp_X9_pathVertex_L37 y37_3 post kx n V x37_4 x37_5 → Ab X g 0 0 (tk_Q X g (tk_I g (fun r u => ∃ V : Mm, u = SW V o D ∧ post r V)) (fun _ _ => False) 0 0) 37 [some (.ref (57)), none, none, some (.int (y37_3)), some (.int (x37_4)), some (.int (x37_5))] [] (SW V o D) := by
  intro n
  induction n with
  | zero => intro V x37_4 x37_5 h; exact h.elim
  | succ n ih =>
    intro V x37_4 x37_5 h
    refine ab_iload O dX9_pathVertex_37 rfl ?_
    refine ab_iload_n O 3 dX9_pathVertex_39 rfl rfl ?_
    refine ab_icmp_ge O 58 dX9_pathVertex_40 rfl (fun q7 => ?_) (fun q7 => ?_)
    · have h := h.1 q7
      exact ab_less (hk (V) (x37_4) (x37_5) h) (ab_le_n (ab_le_n (ab_le_n (ab_le_n (ab_le_s (ab_le_n ab_le_0))))))
    · have h := h.2 q7
      refine ab_aload_n O 0 dX9_pathVertex_43 rfl rfl ?_
      refine ab_get O fl_X9_38 dX9_pathVertex_44 (at_57 _ _ _) rfl ?_
      refine ab_iload O dX9_pathVertex_47 rfl ?_
      refine ab_iald O dX9_pathVertex_49 (at_67 _ _ _) h.1 ?_
      have h := h.2
      refine ab_istore O dX9_pathVertex_50 (show 4 < 6 by decide) ?_
      refine ab_iinc O ((x37_5 + (1))) dX9_pathVertex_52 rfl rfl ?_
      refine ab_goto O 37 dX9_pathVertex_55 rfl ?_
      exact ab_less (ih (V) ((V 67 (Int32.toNatClampNeg (x37_4)))) ((x37_5 + (1))) h) (ab_le_s (ab_le_n (ab_le_n (ab_le_s (ab_le_s (ab_le_s ab_le_0))))))
set_option maxHeartbeats 4000000 in
theorem c_X9_pathVertex (d : Nat) (hd : 3 ≤ d) (l : Launch) (hl : l.stackTraces = false) (g : ab_G) (o : Nat → Int64) (D : Nat → UInt64) (a0 : Int32) (a1 : Int32) (a2 : Int32) {V : Mm} {post : Int32 → Mm → Prop} (h : wp_X9_pathVertex V a0 a1 a2 post) : Ct l g tk_strs False d 0 0 yX9_pathVertex cX9_pathVertex 6 (some .int) [.ref 57, .int a0, .int a1, .int a2] (SW V o D) (tk_I g (fun r u => ∃ V : Mm, u = SW V o D ∧ post r V)) (fun _ _ => False) := by
  refine ct_in (by decide +kernel) (show 4 ≤ 6 by decide) (by simp [Value.category]) hl (fun X I O _ => ?_)
  show Ab X g 0 0 _ 0 [some (.ref (57)), some (.int (a0)), some (.int (a1)), some (.int (a2)), none, none] [] _
  refine ab_aload_n O 0 dX9_pathVertex_0 rfl rfl ?_
  refine ab_iload_n O 2 dX9_pathVertex_1 rfl rfl ?_
  refine ab_iload_n O 1 dX9_pathVertex_2 rfl rfl ?_
  refine ab_callvI O I.2.2.2.2.2.2 (fr := False) (st := []) lk_X9_117 rfl (at_57 _ _ _) dX9_pathVertex_3 (c_X9_isApart (d - 1) (by omega) _ O.2.2.2.2.2.2.1 _ _ _ _ _ h) rfl rfl ⟨by rw [I.2.1]; show d - 1 + 1 ≤ d; omega, by rw [I.2.1]; show 8 + (_ + 11) + 36 * (d - 1) ≤ 36 * d; omega⟩ (show 0 ≤ 8 by decide) ⟨by rw [I.2.1]; show 0 + 0 ≤ 0; decide, by rw [I.2.1]; show 0 + 0 ≤ 0; decide⟩ (fun q => q.elim) (fun E u q => q.elim) (fun r2 u hu => ?_)
  obtain ⟨V1, rfl, h⟩ := hu
  refine ab_if_eq O 11 dX9_pathVertex_6 rfl (fun q3 => ?_) (fun q3 => ?_)
  · have h := h.1 q3
    refine ab_iload_n O 3 dX9_pathVertex_11 rfl rfl ?_
    refine ab_iconst O 0 dX9_pathVertex_12 rfl ?_
    refine ab_aload_n O 0 dX9_pathVertex_13 rfl rfl ?_
    refine ab_get O fl_X9_41 dX9_pathVertex_14 (at_57 _ _ _) rfl ?_
    refine ab_iload_n O 1 dX9_pathVertex_17 rfl rfl ?_
    refine ab_iald O dX9_pathVertex_18 (at_68 _ _ _) h.1 ?_
    have h := h.2
    refine ab_callsI O I.2.2.2.2.2.2 (fr := False) (st := []) lk_X9_60 dX9_pathVertex_19 (c_X9_isBetween (d - 1) (by omega) _ O.2.2.2.2.2.2.1 _ _ _ _ _ _ h) rfl rfl ⟨by rw [I.2.1]; show d - 1 + 1 ≤ d; omega, by rw [I.2.1]; show 8 + (_ + 11) + 36 * (d - 1) ≤ 36 * d; omega⟩ (show 0 ≤ 8 by decide) ⟨by rw [I.2.1]; show 0 + 0 ≤ 0; decide, by rw [I.2.1]; show 0 + 0 ≤ 0; decide⟩ (fun q => q.elim) (fun E u q => q.elim) (fun r5 u hu => ?_)
    obtain ⟨V4, rfl, h⟩ := hu
    refine ab_if_ne O 31 dX9_pathVertex_22 rfl (fun q6 => ?_) (fun q6 => ?_)
    · have h := h.2 q6
      refine ab_iload_n O 1 dX9_pathVertex_31 rfl rfl ?_
      refine ab_istore O dX9_pathVertex_32 (show 4 < 6 by decide) ?_
      refine ab_iconst O 0 dX9_pathVertex_34 rfl ?_
      refine ab_istore O dX9_pathVertex_35 (show 5 < 6 by decide) ?_
      obtain ⟨n9, h⟩ := h
      refine ab_less (cl_X9_pathVertex_L37 hd (a2) O I (fun V8 x9 x10 h => ?_) n9 (V4) (a0) (0) h) (ab_le_s (ab_le_n (ab_le_n (ab_le_s (ab_le_s (ab_le_s ab_le_0))))))
      refine ab_iload O dX9_pathVertex_58 rfl ?_
      exact ab_ireturn O I dX9_pathVertex_60 (by decide) (by decide) (by rfl) ⟨_, rfl, h⟩
    · have h := h.1 q6
      refine ab_aload_n O 0 dX9_pathVertex_25 rfl rfl ?_
      refine ab_iconst O 3 dX9_pathVertex_26 rfl ?_
      refine ab_callvI O I.2.2.2.2.2.2 (fr := False) (st := []) lk_X9_78 rfl (at_57 _ _ _) dX9_pathVertex_27 (c_X9_fails (d - 1) (by omega) _ O.2.2.2.2.2.2.1 _ _ _ _ h) rfl rfl ⟨by rw [I.2.1]; show d - 1 + 1 ≤ d; omega, by rw [I.2.1]; show 8 + (_ + 11) + 36 * (d - 1) ≤ 36 * d; omega⟩ (show 0 ≤ 8 by decide) ⟨by rw [I.2.1]; show 0 + 0 ≤ 0; decide, by rw [I.2.1]; show 0 + 0 ≤ 0; decide⟩ (fun q => q.elim) (fun E u q => q.elim) (fun r12 u hu => ?_)
      obtain ⟨V11, rfl, h⟩ := hu
      exact ab_ireturn O I dX9_pathVertex_30 (by decide) (by decide) (by rfl) ⟨_, rfl, h⟩
  · have h := h.2 q3
    refine ab_iconst O 0 dX9_pathVertex_9 rfl ?_
    exact ab_ireturn O I dX9_pathVertex_10 (by decide) (by decide) (by rfl) ⟨_, rfl, h⟩

def wp_X9_removeEdge (V : Mm) (a0 : Int32) (post : Int32 → Mm → Prop) : Prop := (∀ V1 : Mm, V1 = wr V 57 0 0 → (wp_X9_isEdge V1 (a0) (fun (r3 : Int32) (V2 : Mm) => ((r3 = 0 → (wp_X9_fails V2 (1) (fun (r13 : Int32) (V12 : Mm) => post r13 V12))) ∧ (¬ r3 = 0 → (vp_in a0 60 ∧ (((V2 64 (Int32.toNatClampNeg (a0))) = 0 → (wp_X9_fails V2 (2) (fun (r11 : Int32) (V10 : Mm) => post r11 V10))) ∧ (¬ (V2 64 (Int32.toNatClampNeg (a0))) = 0 → (wp_X9_joining V2 (a0) (fun (r7 : Int32) (V6 : Mm) => (vp_in a0 60 ∧ ∀ V8 : Mm, V8 = wr V6 64 (Int32.toNatClampNeg (a0)) 0 → (wp_X9_finds_ V8 (fun (V9 : Mm) => post r7 V9)))))))))))))
set_option maxHeartbeats 4000000 in
theorem c_X9_removeEdge (d : Nat) (hd : 5 ≤ d) (l : Launch) (hl : l.stackTraces = false) (g : ab_G) (o : Nat → Int64) (D : Nat → UInt64) (a0 : Int32) {V : Mm} {post : Int32 → Mm → Prop} (h : wp_X9_removeEdge V a0 post) : Ct l g tk_strs False d 0 0 yX9_removeEdge cX9_removeEdge 3 (some .int) [.ref 57, .int a0] (SW V o D) (tk_I g (fun r u => ∃ V : Mm, u = SW V o D ∧ post r V)) (fun _ _ => False) := by
  refine ct_in (by decide +kernel) (show 2 ≤ 3 by decide) (by simp [Value.category]) hl (fun X I O _ => ?_)
  show Ab X g 0 0 _ 0 [some (.ref (57)), some (.int (a0)), none] [] _
  refine ab_aload_n O 0 dX9_removeEdge_0 rfl rfl ?_
  refine ab_iconst O 0 dX9_removeEdge_1 rfl ?_
  refine ab_put O fl_X9_53 cl_X9 dX9_removeEdge_2 (at_57 _ _ _) rfl .int (by decide +kernel) (fun _ => rfl) (fun _ => rfl) (show 0 < 18 by decide) ?_
  refine ab_eq ?_ rfl rfl rfl (sf_57_0 _ _ _ _).symm
  obtain ⟨V1, eV1⟩ : ∃ z : Mm, z = wr V 57 0 0 := ⟨_, rfl⟩
  rw [← eV1]
  have h := h V1 eV1
  refine ab_aload_n O 0 dX9_removeEdge_5 rfl rfl ?_
  refine ab_iload_n O 1 dX9_removeEdge_6 rfl rfl ?_
  refine ab_callvI O I.2.2.2.2.2.2 (fr := False) (st := []) lk_X9_88 rfl (at_57 _ _ _) dX9_removeEdge_7 (c_X9_isEdge (d - 1) (by omega) _ O.2.2.2.2.2.2.1 _ _ _ _ h) rfl rfl ⟨by rw [I.2.1]; show d - 1 + 1 ≤ d; omega, by rw [I.2.1]; show 8 + (_ + 11) + 36 * (d - 1) ≤ 36 * d; omega⟩ (show 0 ≤ 8 by decide) ⟨by rw [I.2.1]; show 0 + 0 ≤ 0; decide, by rw [I.2.1]; show 0 + 0 ≤ 0; decide⟩ (fun q => q.elim) (fun E u q => q.elim) (fun r3 u hu => ?_)
  obtain ⟨V2, rfl, h⟩ := hu
  refine ab_if_ne O 19 dX9_removeEdge_10 rfl (fun q4 => ?_) (fun q4 => ?_)
  · have h := h.2 q4
    refine ab_aload_n O 0 dX9_removeEdge_19 rfl rfl ?_
    refine ab_get O fl_X9_28 dX9_removeEdge_20 (at_57 _ _ _) rfl ?_
    refine ab_iload_n O 1 dX9_removeEdge_23 rfl rfl ?_
    refine ab_zald O dX9_removeEdge_24 (at_64 _ _ _) h.1 ?_
    have h := h.2
    refine ab_if_ne O 34 dX9_removeEdge_25 rfl (fun q5 => ?_) (fun q5 => ?_)
    · have h := h.2 q5
      refine ab_aload_n O 0 dX9_removeEdge_34 rfl rfl ?_
      refine ab_iload_n O 1 dX9_removeEdge_35 rfl rfl ?_
      refine ab_callvI O I.2.2.2.2.2.2 (fr := False) (st := []) lk_X9_91 rfl (at_57 _ _ _) dX9_removeEdge_36 (c_X9_joining (d - 1) (by omega) _ O.2.2.2.2.2.2.1 _ _ _ _ h) rfl rfl ⟨by rw [I.2.1]; show d - 1 + 1 ≤ d; omega, by rw [I.2.1]; show 8 + (_ + 11) + 36 * (d - 1) ≤ 36 * d; omega⟩ (show 0 ≤ 8 by decide) ⟨by rw [I.2.1]; show 0 + 0 ≤ 0; decide, by rw [I.2.1]; show 0 + 0 ≤ 0; decide⟩ (fun q => q.elim) (fun E u q => q.elim) (fun r7 u hu => ?_)
      obtain ⟨V6, rfl, h⟩ := hu
      refine ab_istore_n O 2 dX9_removeEdge_39 rfl (show 2 < 3 by decide) ?_
      refine ab_aload_n O 0 dX9_removeEdge_40 rfl rfl ?_
      refine ab_get O fl_X9_28 dX9_removeEdge_41 (at_57 _ _ _) rfl ?_
      refine ab_iload_n O 1 dX9_removeEdge_44 rfl rfl ?_
      refine ab_iconst O 0 dX9_removeEdge_45 rfl ?_
      refine ab_zast O dX9_removeEdge_46 (at_64 _ _ _) h.1 ?_
      have h := h.2
      refine ab_eq ?_ rfl rfl rfl (sa_64 _ _ _ _ _).symm
      show Ab _ _ _ _ _ _ _ _ (SW (wr V6 64 (Int32.toNatClampNeg (a0)) 0) _ _)
      obtain ⟨V8, eV8⟩ : ∃ z : Mm, z = wr V6 64 (Int32.toNatClampNeg (a0)) 0 := ⟨_, rfl⟩
      rw [← eV8]
      have h := h V8 eV8
      refine ab_aload_n O 0 dX9_removeEdge_47 rfl rfl ?_
      refine ab_callvV O I.2.2.2.2.2.2 (fr := False) (st := []) lk_X9_82 rfl (at_57 _ _ _) dX9_removeEdge_48 (c_X9_finds_ (d - 1) (by omega) _ O.2.2.2.2.2.2.1 _ _ _ h) rfl rfl ⟨by rw [I.2.1]; show d - 1 + 1 ≤ d; omega, by rw [I.2.1]; show 8 + (_ + 11) + 36 * (d - 1) ≤ 36 * d; omega⟩ (show 0 ≤ 8 by decide) ⟨by rw [I.2.1]; show 0 + 0 ≤ 0; decide, by rw [I.2.1]; show 0 + 0 ≤ 0; decide⟩ (fun q => q.elim) (fun E u q => q.elim) (fun u hu => ?_)
      obtain ⟨V9, rfl, h⟩ := hu
      refine ab_iload_n O 2 dX9_removeEdge_51 rfl rfl ?_
      exact ab_ireturn O I dX9_removeEdge_52 (by decide) (by decide) (by rfl) ⟨_, rfl, h⟩
    · have h := h.1 q5
      refine ab_aload_n O 0 dX9_removeEdge_28 rfl rfl ?_
      refine ab_iconst O 2 dX9_removeEdge_29 rfl ?_
      refine ab_callvI O I.2.2.2.2.2.2 (fr := False) (st := []) lk_X9_78 rfl (at_57 _ _ _) dX9_removeEdge_30 (c_X9_fails (d - 1) (by omega) _ O.2.2.2.2.2.2.1 _ _ _ _ h) rfl rfl ⟨by rw [I.2.1]; show d - 1 + 1 ≤ d; omega, by rw [I.2.1]; show 8 + (_ + 11) + 36 * (d - 1) ≤ 36 * d; omega⟩ (show 0 ≤ 8 by decide) ⟨by rw [I.2.1]; show 0 + 0 ≤ 0; decide, by rw [I.2.1]; show 0 + 0 ≤ 0; decide⟩ (fun q => q.elim) (fun E u q => q.elim) (fun r11 u hu => ?_)
      obtain ⟨V10, rfl, h⟩ := hu
      exact ab_ireturn O I dX9_removeEdge_33 (by decide) (by decide) (by rfl) ⟨_, rfl, h⟩
  · have h := h.1 q4
    refine ab_aload_n O 0 dX9_removeEdge_13 rfl rfl ?_
    refine ab_iconst O 1 dX9_removeEdge_14 rfl ?_
    refine ab_callvI O I.2.2.2.2.2.2 (fr := False) (st := []) lk_X9_78 rfl (at_57 _ _ _) dX9_removeEdge_15 (c_X9_fails (d - 1) (by omega) _ O.2.2.2.2.2.2.1 _ _ _ _ h) rfl rfl ⟨by rw [I.2.1]; show d - 1 + 1 ≤ d; omega, by rw [I.2.1]; show 8 + (_ + 11) + 36 * (d - 1) ≤ 36 * d; omega⟩ (show 0 ≤ 8 by decide) ⟨by rw [I.2.1]; show 0 + 0 ≤ 0; decide, by rw [I.2.1]; show 0 + 0 ≤ 0; decide⟩ (fun q => q.elim) (fun E u q => q.elim) (fun r13 u hu => ?_)
    obtain ⟨V12, rfl, h⟩ := hu
    exact ab_ireturn O I dX9_removeEdge_18 (by decide) (by decide) (by rfl) ⟨_, rfl, h⟩

def wp_X9_replacement (V : Mm) (a0 : Int32) (post : Int32 → Mm → Prop) : Prop := (∀ V1 : Mm, V1 = wr V 57 0 0 → (wp_X9_isEdge V1 (a0) (fun (r3 : Int32) (V2 : Mm) => ((r3 = 0 → (wp_X9_fails V2 (1) (fun (r14 : Int32) (V13 : Mm) => post r14 V13))) ∧ (¬ r3 = 0 → (vp_in a0 60 ∧ (((V2 65 (Int32.toNatClampNeg (a0))) = 0 → (wp_X9_fails V2 (2) (fun (r12 : Int32) (V11 : Mm) => post r12 V11))) ∧ (¬ (V2 65 (Int32.toNatClampNeg (a0))) = 0 → (wp_X9_joining V2 (a0) (fun (r7 : Int32) (V6 : Mm) => ((0 ≤ r7 → post r7 V6) ∧ (¬ 0 ≤ r7 → (wp_X9_fails V6 (3) (fun (r10 : Int32) (V9 : Mm) => post r10 V9))))))))))))))
set_option maxHeartbeats 4000000 in
theorem c_X9_replacement (d : Nat) (hd : 5 ≤ d) (l : Launch) (hl : l.stackTraces = false) (g : ab_G) (o : Nat → Int64) (D : Nat → UInt64) (a0 : Int32) {V : Mm} {post : Int32 → Mm → Prop} (h : wp_X9_replacement V a0 post) : Ct l g tk_strs False d 0 0 yX9_replacement cX9_replacement 3 (some .int) [.ref 57, .int a0] (SW V o D) (tk_I g (fun r u => ∃ V : Mm, u = SW V o D ∧ post r V)) (fun _ _ => False) := by
  refine ct_in (by decide +kernel) (show 2 ≤ 3 by decide) (by simp [Value.category]) hl (fun X I O _ => ?_)
  show Ab X g 0 0 _ 0 [some (.ref (57)), some (.int (a0)), none] [] _
  refine ab_aload_n O 0 dX9_replacement_0 rfl rfl ?_
  refine ab_iconst O 0 dX9_replacement_1 rfl ?_
  refine ab_put O fl_X9_53 cl_X9 dX9_replacement_2 (at_57 _ _ _) rfl .int (by decide +kernel) (fun _ => rfl) (fun _ => rfl) (show 0 < 18 by decide) ?_
  refine ab_eq ?_ rfl rfl rfl (sf_57_0 _ _ _ _).symm
  obtain ⟨V1, eV1⟩ : ∃ z : Mm, z = wr V 57 0 0 := ⟨_, rfl⟩
  rw [← eV1]
  have h := h V1 eV1
  refine ab_aload_n O 0 dX9_replacement_5 rfl rfl ?_
  refine ab_iload_n O 1 dX9_replacement_6 rfl rfl ?_
  refine ab_callvI O I.2.2.2.2.2.2 (fr := False) (st := []) lk_X9_88 rfl (at_57 _ _ _) dX9_replacement_7 (c_X9_isEdge (d - 1) (by omega) _ O.2.2.2.2.2.2.1 _ _ _ _ h) rfl rfl ⟨by rw [I.2.1]; show d - 1 + 1 ≤ d; omega, by rw [I.2.1]; show 8 + (_ + 11) + 36 * (d - 1) ≤ 36 * d; omega⟩ (show 0 ≤ 8 by decide) ⟨by rw [I.2.1]; show 0 + 0 ≤ 0; decide, by rw [I.2.1]; show 0 + 0 ≤ 0; decide⟩ (fun q => q.elim) (fun E u q => q.elim) (fun r3 u hu => ?_)
  obtain ⟨V2, rfl, h⟩ := hu
  refine ab_if_ne O 19 dX9_replacement_10 rfl (fun q4 => ?_) (fun q4 => ?_)
  · have h := h.2 q4
    refine ab_aload_n O 0 dX9_replacement_19 rfl rfl ?_
    refine ab_get O fl_X9_32 dX9_replacement_20 (at_57 _ _ _) rfl ?_
    refine ab_iload_n O 1 dX9_replacement_23 rfl rfl ?_
    refine ab_zald O dX9_replacement_24 (at_65 _ _ _) h.1 ?_
    have h := h.2
    refine ab_if_ne O 34 dX9_replacement_25 rfl (fun q5 => ?_) (fun q5 => ?_)
    · have h := h.2 q5
      refine ab_aload_n O 0 dX9_replacement_34 rfl rfl ?_
      refine ab_iload_n O 1 dX9_replacement_35 rfl rfl ?_
      refine ab_callvI O I.2.2.2.2.2.2 (fr := False) (st := []) lk_X9_91 rfl (at_57 _ _ _) dX9_replacement_36 (c_X9_joining (d - 1) (by omega) _ O.2.2.2.2.2.2.1 _ _ _ _ h) rfl rfl ⟨by rw [I.2.1]; show d - 1 + 1 ≤ d; omega, by rw [I.2.1]; show 8 + (_ + 11) + 36 * (d - 1) ≤ 36 * d; omega⟩ (show 0 ≤ 8 by decide) ⟨by rw [I.2.1]; show 0 + 0 ≤ 0; decide, by rw [I.2.1]; show 0 + 0 ≤ 0; decide⟩ (fun q => q.elim) (fun E u q => q.elim) (fun r7 u hu => ?_)
      obtain ⟨V6, rfl, h⟩ := hu
      refine ab_istore_n O 2 dX9_replacement_39 rfl (show 2 < 3 by decide) ?_
      refine ab_iload_n O 2 dX9_replacement_40 rfl rfl ?_
      refine ab_if_ge O 52 dX9_replacement_41 rfl (fun q8 => ?_) (fun q8 => ?_)
      · have h := h.1 q8
        refine ab_iload_n O 2 dX9_replacement_52 rfl rfl ?_
        exact ab_ireturn O I dX9_replacement_53 (by decide) (by decide) (by rfl) ⟨_, rfl, h⟩
      · have h := h.2 q8
        refine ab_aload_n O 0 dX9_replacement_44 rfl rfl ?_
        refine ab_iconst O 3 dX9_replacement_45 rfl ?_
        refine ab_callvI O I.2.2.2.2.2.2 (fr := False) (st := []) lk_X9_78 rfl (at_57 _ _ _) dX9_replacement_46 (c_X9_fails (d - 1) (by omega) _ O.2.2.2.2.2.2.1 _ _ _ _ h) rfl rfl ⟨by rw [I.2.1]; show d - 1 + 1 ≤ d; omega, by rw [I.2.1]; show 8 + (_ + 11) + 36 * (d - 1) ≤ 36 * d; omega⟩ (show 0 ≤ 8 by decide) ⟨by rw [I.2.1]; show 0 + 0 ≤ 0; decide, by rw [I.2.1]; show 0 + 0 ≤ 0; decide⟩ (fun q => q.elim) (fun E u q => q.elim) (fun r10 u hu => ?_)
        obtain ⟨V9, rfl, h⟩ := hu
        refine ab_goto O 53 dX9_replacement_49 rfl ?_
        exact ab_ireturn O I dX9_replacement_53 (by decide) (by decide) (by rfl) ⟨_, rfl, h⟩
    · have h := h.1 q5
      refine ab_aload_n O 0 dX9_replacement_28 rfl rfl ?_
      refine ab_iconst O 2 dX9_replacement_29 rfl ?_
      refine ab_callvI O I.2.2.2.2.2.2 (fr := False) (st := []) lk_X9_78 rfl (at_57 _ _ _) dX9_replacement_30 (c_X9_fails (d - 1) (by omega) _ O.2.2.2.2.2.2.1 _ _ _ _ h) rfl rfl ⟨by rw [I.2.1]; show d - 1 + 1 ≤ d; omega, by rw [I.2.1]; show 8 + (_ + 11) + 36 * (d - 1) ≤ 36 * d; omega⟩ (show 0 ≤ 8 by decide) ⟨by rw [I.2.1]; show 0 + 0 ≤ 0; decide, by rw [I.2.1]; show 0 + 0 ≤ 0; decide⟩ (fun q => q.elim) (fun E u q => q.elim) (fun r12 u hu => ?_)
      obtain ⟨V11, rfl, h⟩ := hu
      exact ab_ireturn O I dX9_replacement_33 (by decide) (by decide) (by rfl) ⟨_, rfl, h⟩
  · have h := h.1 q4
    refine ab_aload_n O 0 dX9_replacement_13 rfl rfl ?_
    refine ab_iconst O 1 dX9_replacement_14 rfl ?_
    refine ab_callvI O I.2.2.2.2.2.2 (fr := False) (st := []) lk_X9_78 rfl (at_57 _ _ _) dX9_replacement_15 (c_X9_fails (d - 1) (by omega) _ O.2.2.2.2.2.2.1 _ _ _ _ h) rfl rfl ⟨by rw [I.2.1]; show d - 1 + 1 ≤ d; omega, by rw [I.2.1]; show 8 + (_ + 11) + 36 * (d - 1) ≤ 36 * d; omega⟩ (show 0 ≤ 8 by decide) ⟨by rw [I.2.1]; show 0 + 0 ≤ 0; decide, by rw [I.2.1]; show 0 + 0 ≤ 0; decide⟩ (fun q => q.elim) (fun E u q => q.elim) (fun r14 u hu => ?_)
    obtain ⟨V13, rfl, h⟩ := hu
    exact ab_ireturn O I dX9_replacement_18 (by decide) (by decide) (by rfl) ⟨_, rfl, h⟩

def wp_X9_replacementAnew (V : Mm) (a0 : Int32) (post : Int32 → Mm → Prop) : Prop := (wp_X9_replacement V (a0) (fun (r2 : Int32) (V1 : Mm) => post r2 V1))
set_option maxHeartbeats 4000000 in
theorem c_X9_replacementAnew (d : Nat) (hd : 6 ≤ d) (l : Launch) (hl : l.stackTraces = false) (g : ab_G) (o : Nat → Int64) (D : Nat → UInt64) (a0 : Int32) {V : Mm} {post : Int32 → Mm → Prop} (h : wp_X9_replacementAnew V a0 post) : Ct l g tk_strs False d 0 0 yX9_replacementAnew cX9_replacementAnew 2 (some .int) [.ref 57, .int a0] (SW V o D) (tk_I g (fun r u => ∃ V : Mm, u = SW V o D ∧ post r V)) (fun _ _ => False) := by
  refine ct_in (by decide +kernel) (show 2 ≤ 2 by decide) (by simp [Value.category]) hl (fun X I O _ => ?_)
  show Ab X g 0 0 _ 0 [some (.ref (57)), some (.int (a0))] [] _
  refine ab_aload_n O 0 dX9_replacementAnew_0 rfl rfl ?_
  refine ab_iload_n O 1 dX9_replacementAnew_1 rfl rfl ?_
  refine ab_callvI O I.2.2.2.2.2.2 (fr := False) (st := []) lk_X9_114 rfl (at_57 _ _ _) dX9_replacementAnew_2 (c_X9_replacement (d - 1) (by omega) _ O.2.2.2.2.2.2.1 _ _ _ _ h) rfl rfl ⟨by rw [I.2.1]; show d - 1 + 1 ≤ d; omega, by rw [I.2.1]; show 8 + (_ + 11) + 36 * (d - 1) ≤ 36 * d; omega⟩ (show 0 ≤ 8 by decide) ⟨by rw [I.2.1]; show 0 + 0 ≤ 0; decide, by rw [I.2.1]; show 0 + 0 ≤ 0; decide⟩ (fun q => q.elim) (fun E u q => q.elim) (fun r2 u hu => ?_)
  obtain ⟨V1, rfl, h⟩ := hu
  exact ab_ireturn O I dX9_replacementAnew_5 (by decide) (by decide) (by rfl) ⟨_, rfl, h⟩

def wp_X9_setValue (V : Mm) (a0 a1 : Int32) (post : Int32 → Mm → Prop) : Prop := (∀ V1 : Mm, V1 = wr V 57 0 0 → (wp_X9_isVertex V1 (a0) (fun (r3 : Int32) (V2 : Mm) => ((r3 = 0 → (wp_X9_fails V2 (1) (fun (r12 : Int32) (V11 : Mm) => post r12 V11))) ∧ (¬ r3 = 0 → (wp_X9_isBetween V2 (a1) ((-99)) (99) (fun (r6 : Int32) (V5 : Mm) => ((r6 = 0 → (wp_X9_fails V5 (2) (fun (r10 : Int32) (V9 : Mm) => post r10 V9))) ∧ (¬ r6 = 0 → (vp_in a0 20 ∧ (vp_in a0 20 ∧ ∀ V8 : Mm, V8 = wr V5 58 (Int32.toNatClampNeg (a0)) a1 → post (V5 58 (Int32.toNatClampNeg (a0))) V8)))))))))))
set_option maxHeartbeats 4000000 in
theorem c_X9_setValue (d : Nat) (hd : 2 ≤ d) (l : Launch) (hl : l.stackTraces = false) (g : ab_G) (o : Nat → Int64) (D : Nat → UInt64) (a0 : Int32) (a1 : Int32) {V : Mm} {post : Int32 → Mm → Prop} (h : wp_X9_setValue V a0 a1 post) : Ct l g tk_strs False d 0 0 yX9_setValue cX9_setValue 4 (some .int) [.ref 57, .int a0, .int a1] (SW V o D) (tk_I g (fun r u => ∃ V : Mm, u = SW V o D ∧ post r V)) (fun _ _ => False) := by
  refine ct_in (by decide +kernel) (show 3 ≤ 4 by decide) (by simp [Value.category]) hl (fun X I O _ => ?_)
  show Ab X g 0 0 _ 0 [some (.ref (57)), some (.int (a0)), some (.int (a1)), none] [] _
  refine ab_aload_n O 0 dX9_setValue_0 rfl rfl ?_
  refine ab_iconst O 0 dX9_setValue_1 rfl ?_
  refine ab_put O fl_X9_53 cl_X9 dX9_setValue_2 (at_57 _ _ _) rfl .int (by decide +kernel) (fun _ => rfl) (fun _ => rfl) (show 0 < 18 by decide) ?_
  refine ab_eq ?_ rfl rfl rfl (sf_57_0 _ _ _ _).symm
  obtain ⟨V1, eV1⟩ : ∃ z : Mm, z = wr V 57 0 0 := ⟨_, rfl⟩
  rw [← eV1]
  have h := h V1 eV1
  refine ab_aload_n O 0 dX9_setValue_5 rfl rfl ?_
  refine ab_iload_n O 1 dX9_setValue_6 rfl rfl ?_
  refine ab_callvI O I.2.2.2.2.2.2 (fr := False) (st := []) lk_X9_84 rfl (at_57 _ _ _) dX9_setValue_7 (c_X9_isVertex (d - 1) (by omega) _ O.2.2.2.2.2.2.1 _ _ _ _ h) rfl rfl ⟨by rw [I.2.1]; show d - 1 + 1 ≤ d; omega, by rw [I.2.1]; show 8 + (_ + 11) + 36 * (d - 1) ≤ 36 * d; omega⟩ (show 0 ≤ 8 by decide) ⟨by rw [I.2.1]; show 0 + 0 ≤ 0; decide, by rw [I.2.1]; show 0 + 0 ≤ 0; decide⟩ (fun q => q.elim) (fun E u q => q.elim) (fun r3 u hu => ?_)
  obtain ⟨V2, rfl, h⟩ := hu
  refine ab_if_ne O 19 dX9_setValue_10 rfl (fun q4 => ?_) (fun q4 => ?_)
  · have h := h.2 q4
    refine ab_iload_n O 2 dX9_setValue_19 rfl rfl ?_
    refine ab_bipush O (-99) dX9_setValue_20 rfl ?_
    refine ab_bipush O 99 dX9_setValue_22 rfl ?_
    refine ab_callsI O I.2.2.2.2.2.2 (fr := False) (st := []) lk_X9_60 dX9_setValue_24 (c_X9_isBetween (d - 1) (by omega) _ O.2.2.2.2.2.2.1 _ _ _ _ _ _ h) rfl rfl ⟨by rw [I.2.1]; show d - 1 + 1 ≤ d; omega, by rw [I.2.1]; show 8 + (_ + 11) + 36 * (d - 1) ≤ 36 * d; omega⟩ (show 0 ≤ 8 by decide) ⟨by rw [I.2.1]; show 0 + 0 ≤ 0; decide, by rw [I.2.1]; show 0 + 0 ≤ 0; decide⟩ (fun q => q.elim) (fun E u q => q.elim) (fun r6 u hu => ?_)
    obtain ⟨V5, rfl, h⟩ := hu
    refine ab_if_ne O 36 dX9_setValue_27 rfl (fun q7 => ?_) (fun q7 => ?_)
    · have h := h.2 q7
      refine ab_aload_n O 0 dX9_setValue_36 rfl rfl ?_
      refine ab_get O fl_X9_9 dX9_setValue_37 (at_57 _ _ _) rfl ?_
      refine ab_iload_n O 1 dX9_setValue_40 rfl rfl ?_
      refine ab_iald O dX9_setValue_41 (at_58 _ _ _) h.1 ?_
      have h := h.2
      refine ab_istore_n O 3 dX9_setValue_42 rfl (show 3 < 4 by decide) ?_
      refine ab_aload_n O 0 dX9_setValue_43 rfl rfl ?_
      refine ab_get O fl_X9_9 dX9_setValue_44 (at_57 _ _ _) rfl ?_
      refine ab_iload_n O 1 dX9_setValue_47 rfl rfl ?_
      refine ab_iload_n O 2 dX9_setValue_48 rfl rfl ?_
      refine ab_iast O dX9_setValue_49 (at_58 _ _ _) h.1 ?_
      have h := h.2
      refine ab_eq ?_ rfl rfl rfl (sa_58 _ _ _ _ _).symm
      obtain ⟨V8, eV8⟩ : ∃ z : Mm, z = wr V5 58 (Int32.toNatClampNeg (a0)) a1 := ⟨_, rfl⟩
      rw [← eV8]
      have h := h V8 eV8
      refine ab_iload_n O 3 dX9_setValue_50 rfl rfl ?_
      exact ab_ireturn O I dX9_setValue_51 (by decide) (by decide) (by rfl) ⟨_, rfl, h⟩
    · have h := h.1 q7
      refine ab_aload_n O 0 dX9_setValue_30 rfl rfl ?_
      refine ab_iconst O 2 dX9_setValue_31 rfl ?_
      refine ab_callvI O I.2.2.2.2.2.2 (fr := False) (st := []) lk_X9_78 rfl (at_57 _ _ _) dX9_setValue_32 (c_X9_fails (d - 1) (by omega) _ O.2.2.2.2.2.2.1 _ _ _ _ h) rfl rfl ⟨by rw [I.2.1]; show d - 1 + 1 ≤ d; omega, by rw [I.2.1]; show 8 + (_ + 11) + 36 * (d - 1) ≤ 36 * d; omega⟩ (show 0 ≤ 8 by decide) ⟨by rw [I.2.1]; show 0 + 0 ≤ 0; decide, by rw [I.2.1]; show 0 + 0 ≤ 0; decide⟩ (fun q => q.elim) (fun E u q => q.elim) (fun r10 u hu => ?_)
      obtain ⟨V9, rfl, h⟩ := hu
      exact ab_ireturn O I dX9_setValue_35 (by decide) (by decide) (by rfl) ⟨_, rfl, h⟩
  · have h := h.1 q4
    refine ab_aload_n O 0 dX9_setValue_13 rfl rfl ?_
    refine ab_iconst O 1 dX9_setValue_14 rfl ?_
    refine ab_callvI O I.2.2.2.2.2.2 (fr := False) (st := []) lk_X9_78 rfl (at_57 _ _ _) dX9_setValue_15 (c_X9_fails (d - 1) (by omega) _ O.2.2.2.2.2.2.1 _ _ _ _ h) rfl rfl ⟨by rw [I.2.1]; show d - 1 + 1 ≤ d; omega, by rw [I.2.1]; show 8 + (_ + 11) + 36 * (d - 1) ≤ 36 * d; omega⟩ (show 0 ≤ 8 by decide) ⟨by rw [I.2.1]; show 0 + 0 ≤ 0; decide, by rw [I.2.1]; show 0 + 0 ≤ 0; decide⟩ (fun q => q.elim) (fun E u q => q.elim) (fun r12 u hu => ?_)
    obtain ⟨V11, rfl, h⟩ := hu
    exact ab_ireturn O I dX9_setValue_18 (by decide) (by decide) (by rfl) ⟨_, rfl, h⟩

def wp_X9_setWeight (V : Mm) (a0 a1 : Int32) (post : Int32 → Mm → Prop) : Prop := (∀ V1 : Mm, V1 = wr V 57 0 0 → (wp_X9_isEdge V1 (a0) (fun (r3 : Int32) (V2 : Mm) => ((r3 = 0 → (wp_X9_fails V2 (1) (fun (r16 : Int32) (V15 : Mm) => post r16 V15))) ∧ (¬ r3 = 0 → (wp_X9_isBetween V2 (a1) (1) (99) (fun (r6 : Int32) (V5 : Mm) => ((r6 = 0 → (wp_X9_fails V5 (2) (fun (r14 : Int32) (V13 : Mm) => post r14 V13))) ∧ (¬ r6 = 0 → (vp_in a0 60 ∧ (((V5 64 (Int32.toNatClampNeg (a0))) = 0 → (wp_X9_fails V5 (3) (fun (r12 : Int32) (V11 : Mm) => post r12 V11))) ∧ (¬ (V5 64 (Int32.toNatClampNeg (a0))) = 0 → (vp_in a0 60 ∧ (vp_in a0 60 ∧ ∀ V9 : Mm, V9 = wr V5 61 (Int32.toNatClampNeg (a0)) a1 → (wp_X9_finds_ V9 (fun (V10 : Mm) => post (V5 61 (Int32.toNatClampNeg (a0))) V10))))))))))))))))
set_option maxHeartbeats 4000000 in
theorem c_X9_setWeight (d : Nat) (hd : 4 ≤ d) (l : Launch) (hl : l.stackTraces = false) (g : ab_G) (o : Nat → Int64) (D : Nat → UInt64) (a0 : Int32) (a1 : Int32) {V : Mm} {post : Int32 → Mm → Prop} (h : wp_X9_setWeight V a0 a1 post) : Ct l g tk_strs False d 0 0 yX9_setWeight cX9_setWeight 4 (some .int) [.ref 57, .int a0, .int a1] (SW V o D) (tk_I g (fun r u => ∃ V : Mm, u = SW V o D ∧ post r V)) (fun _ _ => False) := by
  refine ct_in (by decide +kernel) (show 3 ≤ 4 by decide) (by simp [Value.category]) hl (fun X I O _ => ?_)
  show Ab X g 0 0 _ 0 [some (.ref (57)), some (.int (a0)), some (.int (a1)), none] [] _
  refine ab_aload_n O 0 dX9_setWeight_0 rfl rfl ?_
  refine ab_iconst O 0 dX9_setWeight_1 rfl ?_
  refine ab_put O fl_X9_53 cl_X9 dX9_setWeight_2 (at_57 _ _ _) rfl .int (by decide +kernel) (fun _ => rfl) (fun _ => rfl) (show 0 < 18 by decide) ?_
  refine ab_eq ?_ rfl rfl rfl (sf_57_0 _ _ _ _).symm
  obtain ⟨V1, eV1⟩ : ∃ z : Mm, z = wr V 57 0 0 := ⟨_, rfl⟩
  rw [← eV1]
  have h := h V1 eV1
  refine ab_aload_n O 0 dX9_setWeight_5 rfl rfl ?_
  refine ab_iload_n O 1 dX9_setWeight_6 rfl rfl ?_
  refine ab_callvI O I.2.2.2.2.2.2 (fr := False) (st := []) lk_X9_88 rfl (at_57 _ _ _) dX9_setWeight_7 (c_X9_isEdge (d - 1) (by omega) _ O.2.2.2.2.2.2.1 _ _ _ _ h) rfl rfl ⟨by rw [I.2.1]; show d - 1 + 1 ≤ d; omega, by rw [I.2.1]; show 8 + (_ + 11) + 36 * (d - 1) ≤ 36 * d; omega⟩ (show 0 ≤ 8 by decide) ⟨by rw [I.2.1]; show 0 + 0 ≤ 0; decide, by rw [I.2.1]; show 0 + 0 ≤ 0; decide⟩ (fun q => q.elim) (fun E u q => q.elim) (fun r3 u hu => ?_)
  obtain ⟨V2, rfl, h⟩ := hu
  refine ab_if_ne O 19 dX9_setWeight_10 rfl (fun q4 => ?_) (fun q4 => ?_)
  · have h := h.2 q4
    refine ab_iload_n O 2 dX9_setWeight_19 rfl rfl ?_
    refine ab_iconst O 1 dX9_setWeight_20 rfl ?_
    refine ab_bipush O 99 dX9_setWeight_21 rfl ?_
    refine ab_callsI O I.2.2.2.2.2.2 (fr := False) (st := []) lk_X9_60 dX9_setWeight_23 (c_X9_isBetween (d - 1) (by omega) _ O.2.2.2.2.2.2.1 _ _ _ _ _ _ h) rfl rfl ⟨by rw [I.2.1]; show d - 1 + 1 ≤ d; omega, by rw [I.2.1]; show 8 + (_ + 11) + 36 * (d - 1) ≤ 36 * d; omega⟩ (show 0 ≤ 8 by decide) ⟨by rw [I.2.1]; show 0 + 0 ≤ 0; decide, by rw [I.2.1]; show 0 + 0 ≤ 0; decide⟩ (fun q => q.elim) (fun E u q => q.elim) (fun r6 u hu => ?_)
    obtain ⟨V5, rfl, h⟩ := hu
    refine ab_if_ne O 35 dX9_setWeight_26 rfl (fun q7 => ?_) (fun q7 => ?_)
    · have h := h.2 q7
      refine ab_aload_n O 0 dX9_setWeight_35 rfl rfl ?_
      refine ab_get O fl_X9_28 dX9_setWeight_36 (at_57 _ _ _) rfl ?_
      refine ab_iload_n O 1 dX9_setWeight_39 rfl rfl ?_
      refine ab_zald O dX9_setWeight_40 (at_64 _ _ _) h.1 ?_
      have h := h.2
      refine ab_if_ne O 50 dX9_setWeight_41 rfl (fun q8 => ?_) (fun q8 => ?_)
      · have h := h.2 q8
        refine ab_aload_n O 0 dX9_setWeight_50 rfl rfl ?_
        refine ab_get O fl_X9_19 dX9_setWeight_51 (at_57 _ _ _) rfl ?_
        refine ab_iload_n O 1 dX9_setWeight_54 rfl rfl ?_
        refine ab_iald O dX9_setWeight_55 (at_61 _ _ _) h.1 ?_
        have h := h.2
        refine ab_istore_n O 3 dX9_setWeight_56 rfl (show 3 < 4 by decide) ?_
        refine ab_aload_n O 0 dX9_setWeight_57 rfl rfl ?_
        refine ab_get O fl_X9_19 dX9_setWeight_58 (at_57 _ _ _) rfl ?_
        refine ab_iload_n O 1 dX9_setWeight_61 rfl rfl ?_
        refine ab_iload_n O 2 dX9_setWeight_62 rfl rfl ?_
        refine ab_iast O dX9_setWeight_63 (at_61 _ _ _) h.1 ?_
        have h := h.2
        refine ab_eq ?_ rfl rfl rfl (sa_61 _ _ _ _ _).symm
        obtain ⟨V9, eV9⟩ : ∃ z : Mm, z = wr V5 61 (Int32.toNatClampNeg (a0)) a1 := ⟨_, rfl⟩
        rw [← eV9]
        have h := h V9 eV9
        refine ab_aload_n O 0 dX9_setWeight_64 rfl rfl ?_
        refine ab_callvV O I.2.2.2.2.2.2 (fr := False) (st := []) lk_X9_82 rfl (at_57 _ _ _) dX9_setWeight_65 (c_X9_finds_ (d - 1) (by omega) _ O.2.2.2.2.2.2.1 _ _ _ h) rfl rfl ⟨by rw [I.2.1]; show d - 1 + 1 ≤ d; omega, by rw [I.2.1]; show 8 + (_ + 11) + 36 * (d - 1) ≤ 36 * d; omega⟩ (show 0 ≤ 8 by decide) ⟨by rw [I.2.1]; show 0 + 0 ≤ 0; decide, by rw [I.2.1]; show 0 + 0 ≤ 0; decide⟩ (fun q => q.elim) (fun E u q => q.elim) (fun u hu => ?_)
        obtain ⟨V10, rfl, h⟩ := hu
        refine ab_iload_n O 3 dX9_setWeight_68 rfl rfl ?_
        exact ab_ireturn O I dX9_setWeight_69 (by decide) (by decide) (by rfl) ⟨_, rfl, h⟩
      · have h := h.1 q8
        refine ab_aload_n O 0 dX9_setWeight_44 rfl rfl ?_
        refine ab_iconst O 3 dX9_setWeight_45 rfl ?_
        refine ab_callvI O I.2.2.2.2.2.2 (fr := False) (st := []) lk_X9_78 rfl (at_57 _ _ _) dX9_setWeight_46 (c_X9_fails (d - 1) (by omega) _ O.2.2.2.2.2.2.1 _ _ _ _ h) rfl rfl ⟨by rw [I.2.1]; show d - 1 + 1 ≤ d; omega, by rw [I.2.1]; show 8 + (_ + 11) + 36 * (d - 1) ≤ 36 * d; omega⟩ (show 0 ≤ 8 by decide) ⟨by rw [I.2.1]; show 0 + 0 ≤ 0; decide, by rw [I.2.1]; show 0 + 0 ≤ 0; decide⟩ (fun q => q.elim) (fun E u q => q.elim) (fun r12 u hu => ?_)
        obtain ⟨V11, rfl, h⟩ := hu
        exact ab_ireturn O I dX9_setWeight_49 (by decide) (by decide) (by rfl) ⟨_, rfl, h⟩
    · have h := h.1 q7
      refine ab_aload_n O 0 dX9_setWeight_29 rfl rfl ?_
      refine ab_iconst O 2 dX9_setWeight_30 rfl ?_
      refine ab_callvI O I.2.2.2.2.2.2 (fr := False) (st := []) lk_X9_78 rfl (at_57 _ _ _) dX9_setWeight_31 (c_X9_fails (d - 1) (by omega) _ O.2.2.2.2.2.2.1 _ _ _ _ h) rfl rfl ⟨by rw [I.2.1]; show d - 1 + 1 ≤ d; omega, by rw [I.2.1]; show 8 + (_ + 11) + 36 * (d - 1) ≤ 36 * d; omega⟩ (show 0 ≤ 8 by decide) ⟨by rw [I.2.1]; show 0 + 0 ≤ 0; decide, by rw [I.2.1]; show 0 + 0 ≤ 0; decide⟩ (fun q => q.elim) (fun E u q => q.elim) (fun r14 u hu => ?_)
      obtain ⟨V13, rfl, h⟩ := hu
      exact ab_ireturn O I dX9_setWeight_34 (by decide) (by decide) (by rfl) ⟨_, rfl, h⟩
  · have h := h.1 q4
    refine ab_aload_n O 0 dX9_setWeight_13 rfl rfl ?_
    refine ab_iconst O 1 dX9_setWeight_14 rfl ?_
    refine ab_callvI O I.2.2.2.2.2.2 (fr := False) (st := []) lk_X9_78 rfl (at_57 _ _ _) dX9_setWeight_15 (c_X9_fails (d - 1) (by omega) _ O.2.2.2.2.2.2.1 _ _ _ _ h) rfl rfl ⟨by rw [I.2.1]; show d - 1 + 1 ≤ d; omega, by rw [I.2.1]; show 8 + (_ + 11) + 36 * (d - 1) ≤ 36 * d; omega⟩ (show 0 ≤ 8 by decide) ⟨by rw [I.2.1]; show 0 + 0 ≤ 0; decide, by rw [I.2.1]; show 0 + 0 ≤ 0; decide⟩ (fun q => q.elim) (fun E u q => q.elim) (fun r16 u hu => ?_)
    obtain ⟨V15, rfl, h⟩ := hu
    exact ab_ireturn O I dX9_setWeight_18 (by decide) (by decide) (by rfl) ⟨_, rfl, h⟩

def wp_X9_state (V : Mm) (a0 : Int32) (post : Int32 → Mm → Prop) : Prop := (∀ V1 : Mm, V1 = wr V 57 0 0 → (wp_X9_isEdge V1 (a0) (fun (r3 : Int32) (V2 : Mm) => ((r3 = 0 → (wp_X9_fails V2 (1) (fun (r8 : Int32) (V7 : Mm) => (narrow .char (.int (((r8).toUInt32 % 65536).toInt32)) = .int (((r8).toUInt32 % 65536).toInt32) ∧ post (((r8).toUInt32 % 65536).toInt32) V7)))) ∧ (¬ r3 = 0 → (vp_in a0 60 ∧ (((V2 65 (Int32.toNatClampNeg (a0))) = 0 → (vp_in a0 60 ∧ (((V2 64 (Int32.toNatClampNeg (a0))) = 0 → post 114 V2) ∧ (¬ (V2 64 (Int32.toNatClampNeg (a0))) = 0 → post 111 V2)))) ∧ (¬ (V2 65 (Int32.toNatClampNeg (a0))) = 0 → post 102 V2))))))))
set_option maxHeartbeats 4000000 in
theorem c_X9_state (d : Nat) (hd : 2 ≤ d) (l : Launch) (hl : l.stackTraces = false) (g : ab_G) (o : Nat → Int64) (D : Nat → UInt64) (a0 : Int32) {V : Mm} {post : Int32 → Mm → Prop} (h : wp_X9_state V a0 post) : Ct l g tk_strs False d 0 0 yX9_state cX9_state 2 (some .char) [.ref 57, .int a0] (SW V o D) (tk_I g (fun r u => ∃ V : Mm, u = SW V o D ∧ post r V)) (fun _ _ => False) := by
  refine ct_in (by decide +kernel) (show 2 ≤ 2 by decide) (by simp [Value.category]) hl (fun X I O _ => ?_)
  show Ab X g 0 0 _ 0 [some (.ref (57)), some (.int (a0))] [] _
  refine ab_aload_n O 0 dX9_state_0 rfl rfl ?_
  refine ab_iconst O 0 dX9_state_1 rfl ?_
  refine ab_put O fl_X9_53 cl_X9 dX9_state_2 (at_57 _ _ _) rfl .int (by decide +kernel) (fun _ => rfl) (fun _ => rfl) (show 0 < 18 by decide) ?_
  refine ab_eq ?_ rfl rfl rfl (sf_57_0 _ _ _ _).symm
  obtain ⟨V1, eV1⟩ : ∃ z : Mm, z = wr V 57 0 0 := ⟨_, rfl⟩
  rw [← eV1]
  have h := h V1 eV1
  refine ab_aload_n O 0 dX9_state_5 rfl rfl ?_
  refine ab_iload_n O 1 dX9_state_6 rfl rfl ?_
  refine ab_callvI O I.2.2.2.2.2.2 (fr := False) (st := []) lk_X9_88 rfl (at_57 _ _ _) dX9_state_7 (c_X9_isEdge (d - 1) (by omega) _ O.2.2.2.2.2.2.1 _ _ _ _ h) rfl rfl ⟨by rw [I.2.1]; show d - 1 + 1 ≤ d; omega, by rw [I.2.1]; show 8 + (_ + 11) + 36 * (d - 1) ≤ 36 * d; omega⟩ (show 0 ≤ 8 by decide) ⟨by rw [I.2.1]; show 0 + 0 ≤ 0; decide, by rw [I.2.1]; show 0 + 0 ≤ 0; decide⟩ (fun q => q.elim) (fun E u q => q.elim) (fun r3 u hu => ?_)
  obtain ⟨V2, rfl, h⟩ := hu
  refine ab_if_ne O 20 dX9_state_10 rfl (fun q4 => ?_) (fun q4 => ?_)
  · have h := h.2 q4
    refine ab_aload_n O 0 dX9_state_20 rfl rfl ?_
    refine ab_get O fl_X9_32 dX9_state_21 (at_57 _ _ _) rfl ?_
    refine ab_iload_n O 1 dX9_state_24 rfl rfl ?_
    refine ab_zald O dX9_state_25 (at_65 _ _ _) h.1 ?_
    have h := h.2
    refine ab_if_eq O 34 dX9_state_26 rfl (fun q5 => ?_) (fun q5 => ?_)
    · have h := h.1 q5
      refine ab_aload_n O 0 dX9_state_34 rfl rfl ?_
      refine ab_get O fl_X9_28 dX9_state_35 (at_57 _ _ _) rfl ?_
      refine ab_iload_n O 1 dX9_state_38 rfl rfl ?_
      refine ab_zald O dX9_state_39 (at_64 _ _ _) h.1 ?_
      have h := h.2
      refine ab_if_eq O 48 dX9_state_40 rfl (fun q6 => ?_) (fun q6 => ?_)
      · have h := h.1 q6
        refine ab_bipush O 114 dX9_state_48 rfl ?_
        exact ab_ireturn O I dX9_state_50 (by decide) (by decide) (by rfl) ⟨_, rfl, h⟩
      · have h := h.2 q6
        refine ab_bipush O 111 dX9_state_43 rfl ?_
        refine ab_goto O 50 dX9_state_45 rfl ?_
        exact ab_ireturn O I dX9_state_50 (by decide) (by decide) (by rfl) ⟨_, rfl, h⟩
    · have h := h.2 q5
      refine ab_bipush O 102 dX9_state_29 rfl ?_
      refine ab_goto O 50 dX9_state_31 rfl ?_
      exact ab_ireturn O I dX9_state_50 (by decide) (by decide) (by rfl) ⟨_, rfl, h⟩
  · have h := h.1 q4
    refine ab_aload_n O 0 dX9_state_13 rfl rfl ?_
    refine ab_iconst O 1 dX9_state_14 rfl ?_
    refine ab_callvI O I.2.2.2.2.2.2 (fr := False) (st := []) lk_X9_78 rfl (at_57 _ _ _) dX9_state_15 (c_X9_fails (d - 1) (by omega) _ O.2.2.2.2.2.2.1 _ _ _ _ h) rfl rfl ⟨by rw [I.2.1]; show d - 1 + 1 ≤ d; omega, by rw [I.2.1]; show 8 + (_ + 11) + 36 * (d - 1) ≤ 36 * d; omega⟩ (show 0 ≤ 8 by decide) ⟨by rw [I.2.1]; show 0 + 0 ≤ 0; decide, by rw [I.2.1]; show 0 + 0 ≤ 0; decide⟩ (fun q => q.elim) (fun E u q => q.elim) (fun r8 u hu => ?_)
    obtain ⟨V7, rfl, h⟩ := hu
    refine ab_i2c O dX9_state_18 ?_
    exact ab_ireturn O I dX9_state_19 (by decide) (by decide) h.1 ⟨_, rfl, h.2⟩

def wp_X9_subtreeSize (V : Mm) (a0 a1 : Int32) (post : Int32 → Mm → Prop) : Prop := (wp_X9_isApart V (a0) (a1) (fun (r2 : Int32) (V1 : Mm) => ((r2 = 0 → (vp_in a1 20 ∧ post (V1 69 (Int32.toNatClampNeg (a1))) V1)) ∧ (¬ r2 = 0 → post 0 V1))))
set_option maxHeartbeats 4000000 in
theorem c_X9_subtreeSize (d : Nat) (hd : 3 ≤ d) (l : Launch) (hl : l.stackTraces = false) (g : ab_G) (o : Nat → Int64) (D : Nat → UInt64) (a0 : Int32) (a1 : Int32) {V : Mm} {post : Int32 → Mm → Prop} (h : wp_X9_subtreeSize V a0 a1 post) : Ct l g tk_strs False d 0 0 yX9_subtreeSize cX9_subtreeSize 3 (some .int) [.ref 57, .int a0, .int a1] (SW V o D) (tk_I g (fun r u => ∃ V : Mm, u = SW V o D ∧ post r V)) (fun _ _ => False) := by
  refine ct_in (by decide +kernel) (show 3 ≤ 3 by decide) (by simp [Value.category]) hl (fun X I O _ => ?_)
  show Ab X g 0 0 _ 0 [some (.ref (57)), some (.int (a0)), some (.int (a1))] [] _
  refine ab_aload_n O 0 dX9_subtreeSize_0 rfl rfl ?_
  refine ab_iload_n O 1 dX9_subtreeSize_1 rfl rfl ?_
  refine ab_iload_n O 2 dX9_subtreeSize_2 rfl rfl ?_
  refine ab_callvI O I.2.2.2.2.2.2 (fr := False) (st := []) lk_X9_117 rfl (at_57 _ _ _) dX9_subtreeSize_3 (c_X9_isApart (d - 1) (by omega) _ O.2.2.2.2.2.2.1 _ _ _ _ _ h) rfl rfl ⟨by rw [I.2.1]; show d - 1 + 1 ≤ d; omega, by rw [I.2.1]; show 8 + (_ + 11) + 36 * (d - 1) ≤ 36 * d; omega⟩ (show 0 ≤ 8 by decide) ⟨by rw [I.2.1]; show 0 + 0 ≤ 0; decide, by rw [I.2.1]; show 0 + 0 ≤ 0; decide⟩ (fun q => q.elim) (fun E u q => q.elim) (fun r2 u hu => ?_)
  obtain ⟨V1, rfl, h⟩ := hu
  refine ab_if_eq O 13 dX9_subtreeSize_6 rfl (fun q3 => ?_) (fun q3 => ?_)
  · have h := h.1 q3
    refine ab_aload_n O 0 dX9_subtreeSize_13 rfl rfl ?_
    refine ab_get O fl_X9_44 dX9_subtreeSize_14 (at_57 _ _ _) rfl ?_
    refine ab_iload_n O 2 dX9_subtreeSize_17 rfl rfl ?_
    refine ab_iald O dX9_subtreeSize_18 (at_69 _ _ _) h.1 ?_
    have h := h.2
    exact ab_ireturn O I dX9_subtreeSize_19 (by decide) (by decide) (by rfl) ⟨_, rfl, h⟩
  · have h := h.2 q3
    refine ab_iconst O 0 dX9_subtreeSize_9 rfl ?_
    refine ab_goto O 19 dX9_subtreeSize_10 rfl ?_
    exact ab_ireturn O I dX9_subtreeSize_19 (by decide) (by decide) (by rfl) ⟨_, rfl, h⟩

def wp_X9_subtreeSum_L34 (y34_2 y34_3 y34_4 : Int32) (post : Int32 → Mm → Prop) (kx : Mm → Int32 → Prop) : Nat → Mm → Int32 → Prop
  | 0, _, _ => False
  | n34 + 1, V, x34_5 => ((x34_5 = (-1) → kx (V) (x34_5)) ∧ (¬ x34_5 = (-1) → ((x34_5 = y34_2 → kx (V) (x34_5)) ∧ (¬ x34_5 = y34_2 → (vp_in x34_5 20 ∧ wp_X9_subtreeSum_L34 y34_2 y34_3 y34_4 post kx n34 (V) ((V 67 (Int32.toNatClampNeg (x34_5)))))))))

def wp_X9_subtreeSum_L16 (y16_2 : Int32) (post : Int32 → Mm → Prop) (kx : Mm → Int32 → Int32 → Prop) : Nat → Mm → Int32 → Int32 → Prop
  | 0, _, _, _ => False
  | n16 + 1, V, x16_3, x16_4 => (((V 57 17) ≤ x16_4 → kx (V) (x16_3) (x16_4)) ∧ (¬ (V 57 17) ≤ x16_4 → (vp_in x16_4 20 ∧ (∃ m34 : Nat, wp_X9_subtreeSum_L34 (y16_2) (x16_3) (x16_4) post (fun (V7 : Mm) (x8 : Int32) => ((x8 = y16_2 → (vp_in x16_4 20 ∧ (vp_in (V7 71 (Int32.toNatClampNeg (x16_4))) 20 ∧ wp_X9_subtreeSum_L16 y16_2 post kx n16 (V7) ((x16_3 + (V7 58 (Int32.toNatClampNeg ((V7 71 (Int32.toNatClampNeg (x16_4)))))))) ((x16_4 + (1)))))) ∧ (¬ x8 = y16_2 → wp_X9_subtreeSum_L16 y16_2 post kx n16 (V7) ((x16_3 + 0)) ((x16_4 + (1)))))) m34 (V) ((V 71 (Int32.toNatClampNeg (x16_4))))))))

def wp_X9_subtreeSum (V : Mm) (a0 a1 : Int32) (post : Int32 → Mm → Prop) : Prop := (wp_X9_isApart V (a0) (a1) (fun (r2 : Int32) (V1 : Mm) => ((r2 = 0 → (∃ m16 : Nat, wp_X9_subtreeSum_L16 (a1) post (fun (V10 : Mm) (x11 : Int32) (x12 : Int32) => post x11 V10) m16 (V1) (0) (0))) ∧ (¬ r2 = 0 → post 0 V1))))
set_option maxHeartbeats 4000000 in
theorem cl_X9_subtreeSum_L34 {X : ab_M} {g : ab_G} {l : Launch} {d : Nat} (hd : 3 ≤ d) (y34_2 y34_3 y34_4 : Int32) {post : Int32 → Mm → Prop} {kx : Mm → Int32 → Prop} {o : Nat → Int64} {D : Nat → UInt64} (O : ab_Ok X g cX9_subtreeSum RX9) (I : ab_I X l tk_strs 6 (some .int) yX9_subtreeSum.name d 0 0) (hk : ∀ (V : Mm) (x34_5 : Int32), kx V x34_5 → Ab X g 0 0 (tk_Q X g (tk_I g (fun r u => ∃ V : Mm, u = SW V o D ∧ post r V)) (fun _ _ => False) 0 0) 58 [some (.ref (57)), none, some (.int (y34_2)), some (.int (y34_3)), some (.int (y34_4)), some (.int (x34_5))] [] (SW V o D)) : ∀ (n : Nat) (V : Mm) (x34_5 : Int32), wp_X9_subtreeSum_L34 y34_2 y34_3 y34_4 post kx n V x34_5 → Ab X g 0 0 (tk_Q X g (tk_I g (fun r u => ∃ V : Mm, u = SW V o D ∧ post r V)) (fun _ _ => False) 0 0) 34 [some (.ref (57)), none, some (.int (y34_2)), some (.int (y34_3)), some (.int (y34_4)), some (.int (x34_5))] [] (SW V o D) := by
  intro n
  induction n with
  | zero => intro V x34_5 h; exact h.elim
  | succ n ih =>
    intro V x34_5 h
    refine ab_iload O dX9_subtreeSum_34 rfl ?_
    refine ab_iconst O (-1) dX9_subtreeSum_36 rfl ?_
    refine ab_icmp_eq O 58 dX9_subtreeSum_37 rfl (fun q5 => ?_) (fun q5 => ?_)
    · have h := h.1 q5
      exact ab_less (hk (V) (x34_5) h) (ab_le_s (ab_le_n (ab_le_s (ab_le_s (ab_le_s (ab_le_s ab_le_0))))))
    · have h := h.2 q5
      refine ab_iload O dX9_subtreeSum_40 rfl ?_
      refine ab_iload_n O 2 dX9_subtreeSum_42 rfl rfl ?_
      refine ab_icmp_eq O 58 dX9_subtreeSum_43 rfl (fun q6 => ?_) (fun q6 => ?_)
      · have h := h.1 q6
        exact ab_less (hk (V) (x34_5) h) (ab_le_s (ab_le_n (ab_le_s (ab_le_s (ab_le_s (ab_le_s ab_le_0))))))
      · have h := h.2 q6
        refine ab_aload_n O 0 dX9_subtreeSum_46 rfl rfl ?_
        refine ab_get O fl_X9_38 dX9_subtreeSum_47 (at_57 _ _ _) rfl ?_
        refine ab_iload O dX9_subtreeSum_50 rfl ?_
        refine ab_iald O dX9_subtreeSum_52 (at_67 _ _ _) h.1 ?_
        have h := h.2
        refine ab_istore O dX9_subtreeSum_53 (show 5 < 6 by decide) ?_
        refine ab_goto O 34 dX9_subtreeSum_55 rfl ?_
        exact ab_less (ih (V) ((V 67 (Int32.toNatClampNeg (x34_5)))) h) (ab_le_s (ab_le_n (ab_le_s (ab_le_s (ab_le_s (ab_le_s ab_le_0))))))
set_option maxHeartbeats 4000000 in
theorem cl_X9_subtreeSum_L16 {X : ab_M} {g : ab_G} {l : Launch} {d : Nat} (hd : 3 ≤ d) (y16_2 : Int32) {post : Int32 → Mm → Prop} {kx : Mm → Int32 → Int32 → Prop} {o : Nat → Int64} {D : Nat → UInt64} (O : ab_Ok X g cX9_subtreeSum RX9) (I : ab_I X l tk_strs 6 (some .int) yX9_subtreeSum.name d 0 0) (hk : ∀ (V : Mm) (x16_3 : Int32) (x16_4 : Int32), kx V x16_3 x16_4 → Ab X g 0 0 (tk_Q X g (tk_I g (fun r u => ∃ V : Mm, u = SW V o D ∧ post r V)) (fun _ _ => False) 0 0) 89 [none, none, none, some (.int (x16_3)), none, none] [] (SW V o D)) : ∀ (n : Nat) (V : Mm) (x16_3 : Int32) (x16_4 : Int32), wp_X9_subtreeSum_L16 y16_2 post kx n V x16_3 x16_4 → Ab X g 0 0 (tk_Q X g (tk_I g (fun r u => ∃ V : Mm, u = SW V o D ∧ post r V)) (fun _ _ => False) 0 0) 16 [some (.ref (57)), none, some (.int (y16_2)), some (.int (x16_3)), some (.int (x16_4)), none] [] (SW V o D) := by
  intro n
  induction n with
  | zero => intro V x16_3 x16_4 h; exact h.elim
  | succ n ih =>
    intro V x16_3 x16_4 h
    refine ab_iload O dX9_subtreeSum_16 rfl ?_
    refine ab_aload_n O 0 dX9_subtreeSum_18 rfl rfl ?_
    refine ab_get O fl_X9_94 dX9_subtreeSum_19 (at_57 _ _ _) rfl ?_
    refine ab_icmp_ge O 89 dX9_subtreeSum_22 rfl (fun q4 => ?_) (fun q4 => ?_)
    · have h := h.1 q4
      exact ab_less (hk (V) (x16_3) (x16_4) h) (ab_le_n (ab_le_n (ab_le_n (ab_le_s (ab_le_n (ab_le_n ab_le_0))))))
    · have h := h.2 q4
      refine ab_aload_n O 0 dX9_subtreeSum_25 rfl rfl ?_
      refine ab_get O fl_X9_50 dX9_subtreeSum_26 (at_57 _ _ _) rfl ?_
      refine ab_iload O dX9_subtreeSum_29 rfl ?_
      refine ab_iald O dX9_subtreeSum_31 (at_71 _ _ _) h.1 ?_
      have h := h.2
      refine ab_istore O dX9_subtreeSum_32 (show 5 < 6 by decide) ?_
      obtain ⟨n9, h⟩ := h
      refine ab_less (cl_X9_subtreeSum_L34 hd (y16_2) (x16_3) (x16_4) O I (fun V7 x8 h => ?_) n9 (V) ((V 71 (Int32.toNatClampNeg (x16_4)))) h) (ab_le_s (ab_le_n (ab_le_s (ab_le_s (ab_le_s (ab_le_s ab_le_0))))))
      refine ab_iload_n O 3 dX9_subtreeSum_58 rfl rfl ?_
      refine ab_iload O dX9_subtreeSum_59 rfl ?_
      refine ab_iload_n O 2 dX9_subtreeSum_61 rfl rfl ?_
      refine ab_icmp_ne O 80 dX9_subtreeSum_62 rfl (fun q9 => ?_) (fun q9 => ?_)
      · have h := h.2 q9
        refine ab_iconst O 0 dX9_subtreeSum_80 rfl ?_
        refine ab_iadd O dX9_subtreeSum_81 ?_
        refine ab_istore_n O 3 dX9_subtreeSum_82 rfl (show 3 < 6 by decide) ?_
        refine ab_iinc O ((x16_4 + (1))) dX9_subtreeSum_83 rfl rfl ?_
        refine ab_goto O 16 dX9_subtreeSum_86 rfl ?_
        exact ab_less (ih (V7) ((x16_3 + 0)) ((x16_4 + (1))) h) (ab_le_s (ab_le_n (ab_le_s (ab_le_s (ab_le_s (ab_le_n ab_le_0))))))
      · have h := h.1 q9
        refine ab_aload_n O 0 dX9_subtreeSum_65 rfl rfl ?_
        refine ab_get O fl_X9_9 dX9_subtreeSum_66 (at_57 _ _ _) rfl ?_
        refine ab_aload_n O 0 dX9_subtreeSum_69 rfl rfl ?_
        refine ab_get O fl_X9_50 dX9_subtreeSum_70 (at_57 _ _ _) rfl ?_
        refine ab_iload O dX9_subtreeSum_73 rfl ?_
        refine ab_iald O dX9_subtreeSum_75 (at_71 _ _ _) h.1 ?_
        have h := h.2
        refine ab_iald O dX9_subtreeSum_76 (at_58 _ _ _) h.1 ?_
        have h := h.2
        refine ab_goto O 81 dX9_subtreeSum_77 rfl ?_
        refine ab_iadd O dX9_subtreeSum_81 ?_
        refine ab_istore_n O 3 dX9_subtreeSum_82 rfl (show 3 < 6 by decide) ?_
        refine ab_iinc O ((x16_4 + (1))) dX9_subtreeSum_83 rfl rfl ?_
        refine ab_goto O 16 dX9_subtreeSum_86 rfl ?_
        exact ab_less (ih (V7) ((x16_3 + (V7 58 (Int32.toNatClampNeg ((V7 71 (Int32.toNatClampNeg (x16_4)))))))) ((x16_4 + (1))) h) (ab_le_s (ab_le_n (ab_le_s (ab_le_s (ab_le_s (ab_le_n ab_le_0))))))
set_option maxHeartbeats 4000000 in
theorem c_X9_subtreeSum (d : Nat) (hd : 3 ≤ d) (l : Launch) (hl : l.stackTraces = false) (g : ab_G) (o : Nat → Int64) (D : Nat → UInt64) (a0 : Int32) (a1 : Int32) {V : Mm} {post : Int32 → Mm → Prop} (h : wp_X9_subtreeSum V a0 a1 post) : Ct l g tk_strs False d 0 0 yX9_subtreeSum cX9_subtreeSum 6 (some .int) [.ref 57, .int a0, .int a1] (SW V o D) (tk_I g (fun r u => ∃ V : Mm, u = SW V o D ∧ post r V)) (fun _ _ => False) := by
  refine ct_in (by decide +kernel) (show 3 ≤ 6 by decide) (by simp [Value.category]) hl (fun X I O _ => ?_)
  show Ab X g 0 0 _ 0 [some (.ref (57)), some (.int (a0)), some (.int (a1)), none, none, none] [] _
  refine ab_aload_n O 0 dX9_subtreeSum_0 rfl rfl ?_
  refine ab_iload_n O 1 dX9_subtreeSum_1 rfl rfl ?_
  refine ab_iload_n O 2 dX9_subtreeSum_2 rfl rfl ?_
  refine ab_callvI O I.2.2.2.2.2.2 (fr := False) (st := []) lk_X9_117 rfl (at_57 _ _ _) dX9_subtreeSum_3 (c_X9_isApart (d - 1) (by omega) _ O.2.2.2.2.2.2.1 _ _ _ _ _ h) rfl rfl ⟨by rw [I.2.1]; show d - 1 + 1 ≤ d; omega, by rw [I.2.1]; show 8 + (_ + 11) + 36 * (d - 1) ≤ 36 * d; omega⟩ (show 0 ≤ 8 by decide) ⟨by rw [I.2.1]; show 0 + 0 ≤ 0; decide, by rw [I.2.1]; show 0 + 0 ≤ 0; decide⟩ (fun q => q.elim) (fun E u q => q.elim) (fun r2 u hu => ?_)
  obtain ⟨V1, rfl, h⟩ := hu
  refine ab_if_eq O 11 dX9_subtreeSum_6 rfl (fun q3 => ?_) (fun q3 => ?_)
  · have h := h.1 q3
    refine ab_iconst O 0 dX9_subtreeSum_11 rfl ?_
    refine ab_istore_n O 3 dX9_subtreeSum_12 rfl (show 3 < 6 by decide) ?_
    refine ab_iconst O 0 dX9_subtreeSum_13 rfl ?_
    refine ab_istore O dX9_subtreeSum_14 (show 4 < 6 by decide) ?_
    obtain ⟨n9, h⟩ := h
    refine ab_less (cl_X9_subtreeSum_L16 hd (a1) O I (fun V10 x11 x12 h => ?_) n9 (V1) (0) (0) h) (ab_le_s (ab_le_n (ab_le_s (ab_le_s (ab_le_s (ab_le_n ab_le_0))))))
    refine ab_iload_n O 3 dX9_subtreeSum_89 rfl rfl ?_
    exact ab_ireturn O I dX9_subtreeSum_90 (by decide) (by decide) (by rfl) ⟨_, rfl, h⟩
  · have h := h.2 q3
    refine ab_iconst O 0 dX9_subtreeSum_9 rfl ?_
    exact ab_ireturn O I dX9_subtreeSum_10 (by decide) (by decide) (by rfl) ⟨_, rfl, h⟩

def wp_X9_thrown (V : Mm) (post : Int32 → Mm → Prop) : Prop := post (V 57 0) V
set_option maxHeartbeats 4000000 in
theorem c_X9_thrown (d : Nat) (hd : 0 ≤ d) (l : Launch) (hl : l.stackTraces = false) (g : ab_G) (o : Nat → Int64) (D : Nat → UInt64) {V : Mm} {post : Int32 → Mm → Prop} (h : wp_X9_thrown V post) : Ct l g tk_strs False d 0 0 yX9_thrown cX9_thrown 1 (some .int) [.ref 57] (SW V o D) (tk_I g (fun r u => ∃ V : Mm, u = SW V o D ∧ post r V)) (fun _ _ => False) := by
  refine ct_in (by decide +kernel) (show 1 ≤ 1 by decide) (by simp [Value.category]) hl (fun X I O _ => ?_)
  show Ab X g 0 0 _ 0 [some (.ref (57))] [] _
  refine ab_aload_n O 0 dX9_thrown_0 rfl rfl ?_
  refine ab_get O fl_X9_53 dX9_thrown_1 (at_57 _ _ _) rfl ?_
  exact ab_ireturn O I dX9_thrown_4 (by decide) (by decide) (by rfl) ⟨_, rfl, h⟩

def wp_X9_trees_L12 (post : Int32 → Mm → Prop) (kx : Mm → Int32 → Int32 → Prop) : Nat → Mm → Int32 → Int32 → Prop
  | 0, _, _, _ => False
  | n12 + 1, V, x12_1, x12_2 => (((V 57 10) ≤ x12_2 → kx (V) (x12_1) (x12_2)) ∧ (¬ (V 57 10) ≤ x12_2 → (vp_in x12_2 60 ∧ (((V 65 (Int32.toNatClampNeg (x12_2))) = 0 → wp_X9_trees_L12 post kx n12 (V) ((x12_1 - 0)) ((x12_2 + (1)))) ∧ (¬ (V 65 (Int32.toNatClampNeg (x12_2))) = 0 → wp_X9_trees_L12 post kx n12 (V) ((x12_1 - 1)) ((x12_2 + (1))))))))

def wp_X9_trees (V : Mm) (post : Int32 → Mm → Prop) : Prop := (∀ V1 : Mm, V1 = wr V 57 0 0 → (∃ m12 : Nat, wp_X9_trees_L12 post (fun (V4 : Mm) (x5 : Int32) (x6 : Int32) => post x5 V4) m12 (V1) ((V1 57 9)) (0)))
set_option maxHeartbeats 4000000 in
theorem cl_X9_trees_L12 {X : ab_M} {g : ab_G} {l : Launch} {d : Nat} (hd : 0 ≤ d) {post : Int32 → Mm → Prop} {kx : Mm → Int32 → Int32 → Prop} {o : Nat → Int64} {D : Nat → UInt64} (O : ab_Ok X g cX9_trees RX9) (I : ab_I X l tk_strs 3 (some .int) yX9_trees.name d 0 0) (hk : ∀ (V : Mm) (x12_1 : Int32) (x12_2 : Int32), kx V x12_1 x12_2 → Ab X g 0 0 (tk_Q X g (tk_I g (fun r u => ∃ V : Mm, u = SW V o D ∧ post r V)) (fun _ _ => False) 0 0) 43 [none, some (.int (x12_1)), none] [] (SW V o D)) : ∀ (n : Nat) (V : Mm) (x12_1 : Int32) (x12_2 : Int32), wp_X9_trees_L12 post kx n V x12_1 x12_2 → Ab X g 0 0 (tk_Q X g (tk_I g (fun r u => ∃ V : Mm, u = SW V o D ∧ post r V)) (fun _ _ => False) 0 0) 12 [some (.ref (57)), some (.int (x12_1)), some (.int (x12_2))] [] (SW V o D) := by
  intro n
  induction n with
  | zero => intro V x12_1 x12_2 h; exact h.elim
  | succ n ih =>
    intro V x12_1 x12_2 h
    refine ab_iload_n O 2 dX9_trees_12 rfl rfl ?_
    refine ab_aload_n O 0 dX9_trees_13 rfl rfl ?_
    refine ab_get O fl_X9_64 dX9_trees_14 (at_57 _ _ _) rfl ?_
    refine ab_icmp_ge O 43 dX9_trees_17 rfl (fun q2 => ?_) (fun q2 => ?_)
    · have h := h.1 q2
      exact ab_less (hk (V) (x12_1) (x12_2) h) (ab_le_n (ab_le_s (ab_le_n ab_le_0)))
    · have h := h.2 q2
      refine ab_iload_n O 1 dX9_trees_20 rfl rfl ?_
      refine ab_aload_n O 0 dX9_trees_21 rfl rfl ?_
      refine ab_get O fl_X9_32 dX9_trees_22 (at_57 _ _ _) rfl ?_
      refine ab_iload_n O 2 dX9_trees_25 rfl rfl ?_
      refine ab_zald O dX9_trees_26 (at_65 _ _ _) h.1 ?_
      have h := h.2
      refine ab_if_eq O 34 dX9_trees_27 rfl (fun q3 => ?_) (fun q3 => ?_)
      · have h := h.1 q3
        refine ab_iconst O 0 dX9_trees_34 rfl ?_
        refine ab_isub O dX9_trees_35 ?_
        refine ab_istore_n O 1 dX9_trees_36 rfl (show 1 < 3 by decide) ?_
        refine ab_iinc O ((x12_2 + (1))) dX9_trees_37 rfl rfl ?_
        refine ab_goto O 12 dX9_trees_40 rfl ?_
        exact ab_less (ih (V) ((x12_1 - 0)) ((x12_2 + (1))) h) (ab_le_s (ab_le_s (ab_le_s ab_le_0)))
      · have h := h.2 q3
        refine ab_iconst O 1 dX9_trees_30 rfl ?_
        refine ab_goto O 35 dX9_trees_31 rfl ?_
        refine ab_isub O dX9_trees_35 ?_
        refine ab_istore_n O 1 dX9_trees_36 rfl (show 1 < 3 by decide) ?_
        refine ab_iinc O ((x12_2 + (1))) dX9_trees_37 rfl rfl ?_
        refine ab_goto O 12 dX9_trees_40 rfl ?_
        exact ab_less (ih (V) ((x12_1 - 1)) ((x12_2 + (1))) h) (ab_le_s (ab_le_s (ab_le_s ab_le_0)))
set_option maxHeartbeats 4000000 in
theorem c_X9_trees (d : Nat) (hd : 0 ≤ d) (l : Launch) (hl : l.stackTraces = false) (g : ab_G) (o : Nat → Int64) (D : Nat → UInt64) {V : Mm} {post : Int32 → Mm → Prop} (h : wp_X9_trees V post) : Ct l g tk_strs False d 0 0 yX9_trees cX9_trees 3 (some .int) [.ref 57] (SW V o D) (tk_I g (fun r u => ∃ V : Mm, u = SW V o D ∧ post r V)) (fun _ _ => False) := by
  refine ct_in (by decide +kernel) (show 1 ≤ 3 by decide) (by simp [Value.category]) hl (fun X I O _ => ?_)
  show Ab X g 0 0 _ 0 [some (.ref (57)), none, none] [] _
  refine ab_aload_n O 0 dX9_trees_0 rfl rfl ?_
  refine ab_iconst O 0 dX9_trees_1 rfl ?_
  refine ab_put O fl_X9_53 cl_X9 dX9_trees_2 (at_57 _ _ _) rfl .int (by decide +kernel) (fun _ => rfl) (fun _ => rfl) (show 0 < 18 by decide) ?_
  refine ab_eq ?_ rfl rfl rfl (sf_57_0 _ _ _ _).symm
  obtain ⟨V1, eV1⟩ : ∃ z : Mm, z = wr V 57 0 0 := ⟨_, rfl⟩
  rw [← eV1]
  have h := h V1 eV1
  refine ab_aload_n O 0 dX9_trees_5 rfl rfl ?_
  refine ab_get O fl_X9_57 dX9_trees_6 (at_57 _ _ _) rfl ?_
  refine ab_istore_n O 1 dX9_trees_9 rfl (show 1 < 3 by decide) ?_
  refine ab_iconst O 0 dX9_trees_10 rfl ?_
  refine ab_istore_n O 2 dX9_trees_11 rfl (show 2 < 3 by decide) ?_
  obtain ⟨n9, h⟩ := h
  refine ab_less (cl_X9_trees_L12 hd O I (fun V4 x5 x6 h => ?_) n9 (V1) ((V1 57 9)) (0) h) (ab_le_s (ab_le_s (ab_le_s ab_le_0)))
  refine ab_iload_n O 1 dX9_trees_43 rfl rfl ?_
  exact ab_ireturn O I dX9_trees_44 (by decide) (by decide) (by rfl) ⟨_, rfl, h⟩

def wp_X9_value (V : Mm) (a0 : Int32) (post : Int32 → Mm → Prop) : Prop := (∀ V1 : Mm, V1 = wr V 57 0 0 → (wp_X9_isVertex V1 (a0) (fun (r3 : Int32) (V2 : Mm) => ((r3 = 0 → (wp_X9_fails V2 (1) (fun (r6 : Int32) (V5 : Mm) => post r6 V5))) ∧ (¬ r3 = 0 → (vp_in a0 20 ∧ post (V2 58 (Int32.toNatClampNeg (a0))) V2))))))
set_option maxHeartbeats 4000000 in
theorem c_X9_value (d : Nat) (hd : 2 ≤ d) (l : Launch) (hl : l.stackTraces = false) (g : ab_G) (o : Nat → Int64) (D : Nat → UInt64) (a0 : Int32) {V : Mm} {post : Int32 → Mm → Prop} (h : wp_X9_value V a0 post) : Ct l g tk_strs False d 0 0 yX9_value cX9_value 2 (some .int) [.ref 57, .int a0] (SW V o D) (tk_I g (fun r u => ∃ V : Mm, u = SW V o D ∧ post r V)) (fun _ _ => False) := by
  refine ct_in (by decide +kernel) (show 2 ≤ 2 by decide) (by simp [Value.category]) hl (fun X I O _ => ?_)
  show Ab X g 0 0 _ 0 [some (.ref (57)), some (.int (a0))] [] _
  refine ab_aload_n O 0 dX9_value_0 rfl rfl ?_
  refine ab_iconst O 0 dX9_value_1 rfl ?_
  refine ab_put O fl_X9_53 cl_X9 dX9_value_2 (at_57 _ _ _) rfl .int (by decide +kernel) (fun _ => rfl) (fun _ => rfl) (show 0 < 18 by decide) ?_
  refine ab_eq ?_ rfl rfl rfl (sf_57_0 _ _ _ _).symm
  obtain ⟨V1, eV1⟩ : ∃ z : Mm, z = wr V 57 0 0 := ⟨_, rfl⟩
  rw [← eV1]
  have h := h V1 eV1
  refine ab_aload_n O 0 dX9_value_5 rfl rfl ?_
  refine ab_iload_n O 1 dX9_value_6 rfl rfl ?_
  refine ab_callvI O I.2.2.2.2.2.2 (fr := False) (st := []) lk_X9_84 rfl (at_57 _ _ _) dX9_value_7 (c_X9_isVertex (d - 1) (by omega) _ O.2.2.2.2.2.2.1 _ _ _ _ h) rfl rfl ⟨by rw [I.2.1]; show d - 1 + 1 ≤ d; omega, by rw [I.2.1]; show 8 + (_ + 11) + 36 * (d - 1) ≤ 36 * d; omega⟩ (show 0 ≤ 8 by decide) ⟨by rw [I.2.1]; show 0 + 0 ≤ 0; decide, by rw [I.2.1]; show 0 + 0 ≤ 0; decide⟩ (fun q => q.elim) (fun E u q => q.elim) (fun r3 u hu => ?_)
  obtain ⟨V2, rfl, h⟩ := hu
  refine ab_if_eq O 22 dX9_value_10 rfl (fun q4 => ?_) (fun q4 => ?_)
  · have h := h.1 q4
    refine ab_aload_n O 0 dX9_value_22 rfl rfl ?_
    refine ab_iconst O 1 dX9_value_23 rfl ?_
    refine ab_callvI O I.2.2.2.2.2.2 (fr := False) (st := []) lk_X9_78 rfl (at_57 _ _ _) dX9_value_24 (c_X9_fails (d - 1) (by omega) _ O.2.2.2.2.2.2.1 _ _ _ _ h) rfl rfl ⟨by rw [I.2.1]; show d - 1 + 1 ≤ d; omega, by rw [I.2.1]; show 8 + (_ + 11) + 36 * (d - 1) ≤ 36 * d; omega⟩ (show 0 ≤ 8 by decide) ⟨by rw [I.2.1]; show 0 + 0 ≤ 0; decide, by rw [I.2.1]; show 0 + 0 ≤ 0; decide⟩ (fun q => q.elim) (fun E u q => q.elim) (fun r6 u hu => ?_)
    obtain ⟨V5, rfl, h⟩ := hu
    exact ab_ireturn O I dX9_value_27 (by decide) (by decide) (by rfl) ⟨_, rfl, h⟩
  · have h := h.2 q4
    refine ab_aload_n O 0 dX9_value_13 rfl rfl ?_
    refine ab_get O fl_X9_9 dX9_value_14 (at_57 _ _ _) rfl ?_
    refine ab_iload_n O 1 dX9_value_17 rfl rfl ?_
    refine ab_iald O dX9_value_18 (at_58 _ _ _) h.1 ?_
    have h := h.2
    refine ab_goto O 27 dX9_value_19 rfl ?_
    exact ab_ireturn O I dX9_value_27 (by decide) (by decide) (by rfl) ⟨_, rfl, h⟩

def wp_X9_vertices (V : Mm) (post : Int32 → Mm → Prop) : Prop := (∀ V1 : Mm, V1 = wr V 57 0 0 → post (V1 57 9) V1)
set_option maxHeartbeats 4000000 in
theorem c_X9_vertices (d : Nat) (hd : 0 ≤ d) (l : Launch) (hl : l.stackTraces = false) (g : ab_G) (o : Nat → Int64) (D : Nat → UInt64) {V : Mm} {post : Int32 → Mm → Prop} (h : wp_X9_vertices V post) : Ct l g tk_strs False d 0 0 yX9_vertices cX9_vertices 1 (some .int) [.ref 57] (SW V o D) (tk_I g (fun r u => ∃ V : Mm, u = SW V o D ∧ post r V)) (fun _ _ => False) := by
  refine ct_in (by decide +kernel) (show 1 ≤ 1 by decide) (by simp [Value.category]) hl (fun X I O _ => ?_)
  show Ab X g 0 0 _ 0 [some (.ref (57))] [] _
  refine ab_aload_n O 0 dX9_vertices_0 rfl rfl ?_
  refine ab_iconst O 0 dX9_vertices_1 rfl ?_
  refine ab_put O fl_X9_53 cl_X9 dX9_vertices_2 (at_57 _ _ _) rfl .int (by decide +kernel) (fun _ => rfl) (fun _ => rfl) (show 0 < 18 by decide) ?_
  refine ab_eq ?_ rfl rfl rfl (sf_57_0 _ _ _ _).symm
  obtain ⟨V1, eV1⟩ : ∃ z : Mm, z = wr V 57 0 0 := ⟨_, rfl⟩
  rw [← eV1]
  have h := h V1 eV1
  refine ab_aload_n O 0 dX9_vertices_5 rfl rfl ?_
  refine ab_get O fl_X9_57 dX9_vertices_6 (at_57 _ _ _) rfl ?_
  exact ab_ireturn O I dX9_vertices_9 (by decide) (by decide) (by rfl) ⟨_, rfl, h⟩

def wp_X9_weight (V : Mm) (a0 : Int32) (post : Int32 → Mm → Prop) : Prop := (∀ V1 : Mm, V1 = wr V 57 0 0 → (wp_X9_isEdge V1 (a0) (fun (r3 : Int32) (V2 : Mm) => ((r3 = 0 → (wp_X9_fails V2 (1) (fun (r6 : Int32) (V5 : Mm) => post r6 V5))) ∧ (¬ r3 = 0 → (vp_in a0 60 ∧ post (V2 61 (Int32.toNatClampNeg (a0))) V2))))))
set_option maxHeartbeats 4000000 in
theorem c_X9_weight (d : Nat) (hd : 2 ≤ d) (l : Launch) (hl : l.stackTraces = false) (g : ab_G) (o : Nat → Int64) (D : Nat → UInt64) (a0 : Int32) {V : Mm} {post : Int32 → Mm → Prop} (h : wp_X9_weight V a0 post) : Ct l g tk_strs False d 0 0 yX9_weight cX9_weight 2 (some .int) [.ref 57, .int a0] (SW V o D) (tk_I g (fun r u => ∃ V : Mm, u = SW V o D ∧ post r V)) (fun _ _ => False) := by
  refine ct_in (by decide +kernel) (show 2 ≤ 2 by decide) (by simp [Value.category]) hl (fun X I O _ => ?_)
  show Ab X g 0 0 _ 0 [some (.ref (57)), some (.int (a0))] [] _
  refine ab_aload_n O 0 dX9_weight_0 rfl rfl ?_
  refine ab_iconst O 0 dX9_weight_1 rfl ?_
  refine ab_put O fl_X9_53 cl_X9 dX9_weight_2 (at_57 _ _ _) rfl .int (by decide +kernel) (fun _ => rfl) (fun _ => rfl) (show 0 < 18 by decide) ?_
  refine ab_eq ?_ rfl rfl rfl (sf_57_0 _ _ _ _).symm
  obtain ⟨V1, eV1⟩ : ∃ z : Mm, z = wr V 57 0 0 := ⟨_, rfl⟩
  rw [← eV1]
  have h := h V1 eV1
  refine ab_aload_n O 0 dX9_weight_5 rfl rfl ?_
  refine ab_iload_n O 1 dX9_weight_6 rfl rfl ?_
  refine ab_callvI O I.2.2.2.2.2.2 (fr := False) (st := []) lk_X9_88 rfl (at_57 _ _ _) dX9_weight_7 (c_X9_isEdge (d - 1) (by omega) _ O.2.2.2.2.2.2.1 _ _ _ _ h) rfl rfl ⟨by rw [I.2.1]; show d - 1 + 1 ≤ d; omega, by rw [I.2.1]; show 8 + (_ + 11) + 36 * (d - 1) ≤ 36 * d; omega⟩ (show 0 ≤ 8 by decide) ⟨by rw [I.2.1]; show 0 + 0 ≤ 0; decide, by rw [I.2.1]; show 0 + 0 ≤ 0; decide⟩ (fun q => q.elim) (fun E u q => q.elim) (fun r3 u hu => ?_)
  obtain ⟨V2, rfl, h⟩ := hu
  refine ab_if_eq O 22 dX9_weight_10 rfl (fun q4 => ?_) (fun q4 => ?_)
  · have h := h.1 q4
    refine ab_aload_n O 0 dX9_weight_22 rfl rfl ?_
    refine ab_iconst O 1 dX9_weight_23 rfl ?_
    refine ab_callvI O I.2.2.2.2.2.2 (fr := False) (st := []) lk_X9_78 rfl (at_57 _ _ _) dX9_weight_24 (c_X9_fails (d - 1) (by omega) _ O.2.2.2.2.2.2.1 _ _ _ _ h) rfl rfl ⟨by rw [I.2.1]; show d - 1 + 1 ≤ d; omega, by rw [I.2.1]; show 8 + (_ + 11) + 36 * (d - 1) ≤ 36 * d; omega⟩ (show 0 ≤ 8 by decide) ⟨by rw [I.2.1]; show 0 + 0 ≤ 0; decide, by rw [I.2.1]; show 0 + 0 ≤ 0; decide⟩ (fun q => q.elim) (fun E u q => q.elim) (fun r6 u hu => ?_)
    obtain ⟨V5, rfl, h⟩ := hu
    exact ab_ireturn O I dX9_weight_27 (by decide) (by decide) (by rfl) ⟨_, rfl, h⟩
  · have h := h.2 q4
    refine ab_aload_n O 0 dX9_weight_13 rfl rfl ?_
    refine ab_get O fl_X9_19 dX9_weight_14 (at_57 _ _ _) rfl ?_
    refine ab_iload_n O 1 dX9_weight_17 rfl rfl ?_
    refine ab_iald O dX9_weight_18 (at_61 _ _ _) h.1 ?_
    have h := h.2
    refine ab_goto O 27 dX9_weight_19 rfl ?_
    exact ab_ireturn O I dX9_weight_27 (by decide) (by decide) (by rfl) ⟨_, rfl, h⟩
