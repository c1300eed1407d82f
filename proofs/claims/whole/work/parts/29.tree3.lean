section TREE3
variable {n k : Nat} {a b w : Nat → Nat} {pr F S : Nat → Prop} {V V0 : Mm} {post : Int32 → Mm → Prop} {pos : Mm → Prop} {u v e d r p m i : Nat} {ms : Int32}
variable {cnt : Nat} {ord par dep pe lp : Nat → Nat} {R : Nat → Prop}
theorem nI_le40 {v : Nat} (h : v < 2 ^ 31) : 40 ≤ nI v ↔ 40 ≤ v := nI_leI (a := 40) (by decide) h
theorem TV_lt (T : TV V n a b w S r cnt ord par dep pe lp R) (hv : R v) : v < n := BF_Rlt (TV_bf T) hv
theorem TV_d (T : TV V n a b w S r cnt ord par dep pe lp R) (hv : R v) : dep v < n := BF_dlt (TV_bf T) hv
theorem TV_lst (hA : acy a b S) (T : TV V n a b w S r cnt ord par dep pe lp R) : ∀ v, R v → v ≠ r → lst a b (ky w) S r v (lp v) := by
  refine rt_ind (TV_rt T) (fun q => absurd rfl q) (fun v hv hne ih _ => ?_)
  obtain ⟨-, -, -, -, q⟩ := TP_p (TV_tp T) v hv hne
  rcases q with ⟨q1, q2⟩ | ⟨q1, ⟨q2, q3⟩ | ⟨q2, q3⟩⟩
  · rw [q2]; exact lst_first hA (TV_rt T) hv hne q1
  · rw [q3]; exact lst_new hA (TV_rt T) hv hne (ih q1) q2
  · rw [q3]; exact lst_old (TV_rt T) hv hne (ih q1) q2
theorem TV_sum (T : TV V n a b w S r cnt ord par dep pe lp R) : ∀ v, R v → V 33 v = ps (V 2) par (dep v) v := by
  refine rt_ind (TV_rt T) ?_ (fun v hv hne ih => ?_)
  · rw [(TV_rt T).2.1]; exact (TP_r (TV_tp T)).2.1
  · obtain ⟨-, q2, -⟩ := (TV_rt T).2.2.1 v hv hne
    rw [(TP_p (TV_tp T) v hv hne).2.1, ih, q2]; rfl
theorem e_depthOf (H : GV V n k a b w pr) (hv : v < n) : wp_X7_depthOf V (nI v) post = post (V 31 v) V := by
  have := GV_n20 H
  unfold wp_X7_depthOf
  simp (disch := omega) only [e_hasVertex H hv, nI_add, nI_1, nI_neg, neg_nI, nI_lt0, nI_eq0, nI_lt20, nI_le20, nI_lt60, nI_le60, nI_inI, nI_clamp, nI_eq, nI_leI, nI_ltI, neg_ltz, neg_eqz, one_eqz, bI_eq0, bI_eq1, bI_nar1, true_and, and_true, not_true_eq_false, not_false_eq_true, false_implies, true_implies, implies_true, forall_eq, false_and, and_false, or_false, false_or, or_true, true_or, iff_self, Classical.not_not, forall_const, ite_true, ite_false, reduceIte, eq_self]
theorem e_above (H : GV V n k a b w pr) (hv : v < n) : wp_X7_above V (nI v) post = post (V 32 v) V := by
  have := GV_n20 H
  unfold wp_X7_above
  simp (disch := omega) only [e_hasVertex H hv, nI_add, nI_1, nI_neg, neg_nI, nI_lt0, nI_eq0, nI_lt20, nI_le20, nI_lt60, nI_le60, nI_inI, nI_clamp, nI_eq, nI_leI, nI_ltI, neg_ltz, neg_eqz, one_eqz, bI_eq0, bI_eq1, bI_nar1, true_and, and_true, not_true_eq_false, not_false_eq_true, false_implies, true_implies, implies_true, forall_eq, false_and, and_false, or_false, false_or, or_true, true_or, iff_self, Classical.not_not, forall_const, ite_true, ite_false, reduceIte, eq_self]
theorem e_aboveO (H : GV V n k a b w pr) (hv : n ≤ v) (h : v < 2 ^ 31) : wp_X7_above V (nI v) post = post (-1) V := by
  unfold wp_X7_above
  simp (disch := omega) only [e_hasVertexO H hv, nI_add, nI_1, nI_neg, neg_nI, nI_lt0, nI_eq0, nI_lt20, nI_le20, nI_lt60, nI_le60, nI_inI, nI_clamp, nI_eq, nI_leI, nI_ltI, neg_ltz, neg_eqz, one_eqz, bI_eq0, bI_eq1, bI_nar1, true_and, and_true, not_true_eq_false, not_false_eq_true, false_implies, true_implies, implies_true, forall_eq, false_and, and_false, or_false, false_or, or_true, true_or, iff_self, Classical.not_not, forall_const, ite_true, ite_false, reduceIte, eq_self]
theorem e_aboveN : wp_X7_above V (-1) post = post (-1) V := by
  unfold wp_X7_above
  simp (disch := omega) only [e_hasVertexN, nI_add, nI_1, nI_neg, neg_nI, nI_lt0, nI_eq0, nI_lt20, nI_le20, nI_lt60, nI_le60, nI_inI, nI_clamp, nI_eq, nI_leI, nI_ltI, neg_ltz, neg_eqz, one_eqz, bI_eq0, bI_eq1, bI_nar1, true_and, and_true, not_true_eq_false, not_false_eq_true, false_implies, true_implies, implies_true, forall_eq, false_and, and_false, or_false, false_or, or_true, true_or, iff_self, Classical.not_not, forall_const, ite_true, ite_false, reduceIte, eq_self]
theorem e_holds7 (H : GV V n k a b w pr) (T : TV V n a b w S r cnt ord par dep pe lp R) (hv : v < n) : wp_X7_holds V (nI v) post = post (bI (R v)) V := by
  have := GV_n20 H
  unfold wp_X7_holds
  rw [e_depthOf H hv]
  by_cases h : R v
  · have := TV_d T h
    rw [TP_y (TV_tp T) v h, mb_f (fun z => (nI_neg (by omega)).mp z), bI_t h]
  · rw [(TP_z (TV_tp T) v (by omega) h).1, mb_t rfl, bI_f h]
theorem e_sumFromRoot (H : GV V n k a b w pr) (T : TV V n a b w S r cnt ord par dep pe lp R) (hv : R v) : wp_X7_sumFromRoot V (nI v) post = post (ps (V 2) par (dep v) v) V := by
  have := GV_n20 H
  have := TV_lt T hv
  unfold wp_X7_sumFromRoot
  simp (disch := omega) only [e_holds7 H T, bI_t hv, nI_add, nI_1, nI_neg, neg_nI, nI_lt0, nI_eq0, nI_lt20, nI_le20, nI_lt60, nI_le60, nI_inI, nI_clamp, nI_eq, nI_leI, nI_ltI, neg_ltz, neg_eqz, one_eqz, bI_eq0, bI_eq1, bI_nar1, true_and, and_true, not_true_eq_false, not_false_eq_true, false_implies, true_implies, implies_true, forall_eq, false_and, and_false, or_false, false_or, or_true, true_or, iff_self, Classical.not_not, forall_const, ite_true, ite_false, reduceIte, eq_self, TV_sum T v hv]
theorem e_lastFromRoot (H : GV V n k a b w pr) (T : TV V n a b w S r cnt ord par dep pe lp R) (hv : R v) : wp_X7_lastFromRoot V (nI v) post = post (V 34 v) V := by
  have := GV_n20 H
  have := TV_lt T hv
  unfold wp_X7_lastFromRoot
  simp (disch := omega) only [e_holds7 H T, bI_t hv, nI_add, nI_1, nI_neg, neg_nI, nI_lt0, nI_eq0, nI_lt20, nI_le20, nI_lt60, nI_le60, nI_inI, nI_clamp, nI_eq, nI_leI, nI_ltI, neg_ltz, neg_eqz, one_eqz, bI_eq0, bI_eq1, bI_nar1, true_and, and_true, not_true_eq_false, not_false_eq_true, false_implies, true_implies, implies_true, forall_eq, false_and, and_false, or_false, false_or, or_true, true_or, iff_self, Classical.not_not, forall_const, ite_true, ite_false, reduceIte, eq_self]
theorem e_depthR (H : GV V n k a b w pr) (T : TV V n a b w S r cnt ord par dep pe lp R) (hv : R v) : wp_X7_depthOf V (nI v) post = post (nI (dep v)) V := by
  rw [e_depthOf H (TV_lt T hv), TP_y (TV_tp T) v hv]
theorem e_aboveR (H : GV V n k a b w pr) (T : TV V n a b w S r cnt ord par dep pe lp R) (hv : R v) (hne : v ≠ r) : wp_X7_above V (nI v) post = post (nI (par v)) V := by
  rw [e_above H (TV_lt T hv), (TP_p (TV_tp T) v hv hne).1]
theorem e_aboveRr (H : GV V n k a b w pr) (T : TV V n a b w S r cnt ord par dep pe lp R) : wp_X7_above V (nI r) post = post (-1) V := by
  rw [e_above H (TV_lt T (TV_rt T).1), (TP_r (TV_tp T)).1]
theorem e_vertexAt (H : GV V n k a b w pr) (T : TV V n a b w S r cnt ord par dep pe lp R) (hi : i < cnt) : wp_X7_vertexAt V (nI i) post = post (nI (ord i)) V := by
  have := GV_n20 H
  have := BF_le (TV_bf T)
  unfold wp_X7_vertexAt
  simp (disch := omega) only [TP_c (TV_tp T), TP_o (TV_tp T), nI_add, nI_1, nI_neg, neg_nI, nI_lt0, nI_eq0, nI_lt20, nI_le20, nI_lt60, nI_le60, nI_inI, nI_clamp, nI_eq, nI_leI, nI_ltI, neg_ltz, neg_eqz, one_eqz, bI_eq0, bI_eq1, bI_nar1, true_and, and_true, not_true_eq_false, not_false_eq_true, false_implies, true_implies, implies_true, forall_eq, false_and, and_false, or_false, false_or, or_true, true_or, iff_self, Classical.not_not, forall_const, ite_true, ite_false, reduceIte, eq_self, show ¬ cnt ≤ i by omega, show ¬ 20 ≤ i by omega]
theorem e_deepest (H : GV V n k a b w pr) (T : TV V n a b w S r cnt ord par dep pe lp R) : wp_X7_deepest V post = post (nI (ord (cnt - 1))) V := by
  have := (BF_o0 (TV_bf T)).1
  unfold wp_X7_deepest
  rw [TP_c (TV_tp T), nI_sub1 this, e_vertexAt H T (by omega)]
theorem s_climb (H : GV V n k a b w pr) (T : TV V n a b w S r cnt ord par dep pe lp R) (hv : R v) (hd : d ≤ dep v) (h : post (nI (up par d v)) V) : wp_X7_climb V (nI v) (nI d) post := by
  have h20 := GV_n20 H
  have hdv := TV_d T hv
  have key : ∀ f i, i + f = d → wp_X7_climb_L5 (nI d) post (fun (V5 : Mm) (x6 : Int32) (x7 : Int32) => post x6 V5) (f + 1) V (nI (up par i v)) (nI i) := by
    intro f
    induction f with
    | zero =>
      intro i hi
      have : i = d := by omega
      subst this
      simp (disch := omega) only [wp_X7_climb_L5, nI_add, nI_1, nI_neg, neg_nI, nI_lt0, nI_eq0, nI_lt20, nI_le20, nI_lt60, nI_le60, nI_inI, nI_clamp, nI_eq, nI_leI, nI_ltI, neg_ltz, neg_eqz, one_eqz, bI_eq0, bI_eq1, bI_nar1, Nat.le_refl, true_and, and_true, not_true_eq_false, not_false_eq_true, false_implies, true_implies, implies_true, forall_eq, false_and, and_false, or_false, false_or, or_true, true_or, iff_self, Classical.not_not, forall_const, ite_true, ite_false, reduceIte, eq_self]
      exact h
    | succ f ih =>
      intro i hi
      obtain ⟨g1, g2, g3⟩ := up_lt (TV_rt T) hv (show i < dep v by omega)
      rw [wp_X7_climb_L5]
      simp (disch := omega) only [e_aboveR H T g1 g2, nI_add, nI_1, nI_neg, neg_nI, nI_lt0, nI_eq0, nI_lt20, nI_le20, nI_lt60, nI_le60, nI_inI, nI_clamp, nI_eq, nI_leI, nI_ltI, neg_ltz, neg_eqz, one_eqz, bI_eq0, bI_eq1, bI_nar1, show ¬ d ≤ i by omega, show ¬ 20 ≤ i by omega, true_and, and_true, not_true_eq_false, not_false_eq_true, false_implies, true_implies, implies_true, forall_eq, false_and, and_false, or_false, false_or, or_true, true_or, iff_self, Classical.not_not, forall_const, ite_true, ite_false, reduceIte, eq_self]
      have ih := ih (i + 1) (by omega)
      rw [up_succ] at ih
      exact ih
  exact ⟨d + 1, key d 0 (by omega)⟩
theorem s_sumByClimbing (H : GV V n k a b w pr) (T : TV V n a b w S r cnt ord par dep pe lp R) (hv : R v) (h : post (ps (V 2) par (dep v) v) V) : wp_X7_sumByClimbing V (nI v) post := by
  have h20 := GV_n20 H
  have hdv := TV_d T hv
  have last : ∀ f i, i = dep v + 1 → wp_X7_sumByClimbing_L7 post (fun (V7 : Mm) (x8 : Int32) (x9 : Int32) (x10 : Int32) => post x8 V7) (f + 1) V (ps (V 2) par (dep v) v) (-1) (nI i) := by
    intro f i hi
    rw [wp_X7_sumByClimbing_L7]
    exact ⟨fun _ => h, fun _ => ⟨fun _ => h, fun z => absurd rfl z⟩⟩
  have key : ∀ f i x, i + f = dep v → x + ps (V 2) par f (up par i v) = ps (V 2) par (dep v) v → wp_X7_sumByClimbing_L7 post (fun (V7 : Mm) (x8 : Int32) (x9 : Int32) (x10 : Int32) => post x8 V7) (f + 2) V x (nI (up par i v)) (nI i) := by
    intro f
    induction f with
    | zero =>
      intro i x hi hx
      have : i = dep v := by omega
      subst this
      rw [rt_top (TV_rt T) hv] at hx ⊢
      have hr := (TV_rt T).1
      have hrn := TV_lt T hr
      rw [wp_X7_sumByClimbing_L7]
      simp (disch := omega) only [e_valueOf H hrn, e_aboveRr H T, nI_add, nI_1, nI_neg, neg_nI, nI_lt0, nI_eq0, nI_lt20, nI_le20, nI_lt60, nI_le60, nI_inI, nI_clamp, nI_eq, nI_leI, nI_ltI, neg_ltz, neg_eqz, one_eqz, bI_eq0, bI_eq1, bI_nar1, show ¬ 20 ≤ dep v by omega, true_and, and_true, not_true_eq_false, not_false_eq_true, false_implies, true_implies, implies_true, forall_eq, false_and, and_false, or_false, false_or, or_true, true_or, iff_self, Classical.not_not, forall_const, ite_true, ite_false, reduceIte, eq_self]
      have hx : x + V 2 r = ps (V 2) par (dep v) v := hx
      rw [hx]
      exact last 0 _ rfl
    | succ f ih =>
      intro i x hi hx
      obtain ⟨g1, g2, g3⟩ := up_lt (TV_rt T) hv (show i < dep v by omega)
      have g4 := TV_lt T g1
      rw [wp_X7_sumByClimbing_L7]
      simp (disch := omega) only [e_valueOf H g4, e_aboveR H T g1 g2, nI_add, nI_1, nI_neg, neg_nI, nI_lt0, nI_eq0, nI_lt20, nI_le20, nI_lt60, nI_le60, nI_inI, nI_clamp, nI_eq, nI_leI, nI_ltI, neg_ltz, neg_eqz, one_eqz, bI_eq0, bI_eq1, bI_nar1, show ¬ 20 ≤ i by omega, true_and, and_true, not_true_eq_false, not_false_eq_true, false_implies, true_implies, implies_true, forall_eq, false_and, and_false, or_false, false_or, or_true, true_or, iff_self, Classical.not_not, forall_const, ite_true, ite_false, reduceIte, eq_self]
      have ih := ih (i + 1) (x + V 2 (up par i v)) (by omega) (by rw [up_succ, Int32.add_assoc]; exact hx)
      rw [up_succ] at ih
      exact ih
  exact ⟨dep v + 2, key (dep v) 0 0 (by omega) (by rw [Int32.zero_add]; rfl)⟩
noncomputable def ad (p : Nat → Prop) (g : Nat → Int32) (x : Int32) : Nat → Int32 := fun y => @ite _ (p y) (Classical.propDecidable (p y)) (g y + x) (g y)
theorem ad_y {p : Nat → Prop} {g : Nat → Int32} {x : Int32} {y : Nat} (h : p y) : ad p g x y = g y + x := if_pos h
theorem ad_n {p : Nat → Prop} {g : Nat → Int32} {x : Int32} {y : Nat} (h : ¬ p y) : ad p g x y = g y := if_neg h
theorem ad_0 {p : Nat → Prop} {g : Nat → Int32} {x : Int32} (h : ∀ y, ¬ p y) : ad p g x = g := funext fun y => ad_n (h y)
theorem ad_up {p q : Nat → Prop} {g : Nat → Int32} {x : Int32} {y : Nat} (hy : ¬ p y) (hq : ∀ z, q z ↔ p z ∨ z = y) : upd (ad p g x) y (ad p g x y + x) = ad q g x := funext fun z => by
  rw [upd_at]
  by_cases h : z = y
  · rw [if_pos h, ad_n hy, h, ad_y ((hq y).mpr (Or.inr rfl))]
  · rw [if_neg h]
    by_cases h2 : p z
    · rw [ad_y h2, ad_y ((hq z).mpr (Or.inl h2))]
    · rw [ad_n h2, ad_n (fun z2 => ((hq z).mp z2).elim h2 h)]
theorem up_inj (h : rt a b S r R par dep pe) (hv : R v) {j : Nat} (hi : i ≤ dep v) (hj : j ≤ dep v) (q : up par i v = up par j v) : i = j := by
  obtain ⟨-, h1⟩ := rt_up h i v hv hi
  obtain ⟨-, h2⟩ := rt_up h j v hv hj
  rw [q] at h1; omega
theorem s_addOnWay (H : GV V n k a b w pr) (T : TV V n a b w S r cnt ord par dep pe lp R) (hv : R v) {x : Int32} (h : ∀ V' : Mm, (∀ c, c ≠ 2 → V' c = V c) → V' 2 = ad (fun y => anc par dep y v) (V 2) x → pos V') : wp_X7_addOnWayToRoot V (nI v) x pos := by
  have h20 := GV_n20 H
  have hdv := TV_d T hv
  have last : ∀ f i (V' : Mm), i = dep v + 1 → (∀ c, c ≠ 2 → V' c = V c) → V' 2 = ad (fun y => ∃ j, j < i ∧ up par j v = y) (V 2) x → wp_X7_addOnWayToRoot_L5 x pos (fun (V8 : Mm) (x9 : Int32) (x10 : Int32) => pos V8) (f + 1) V' (-1) (nI i) := by
    intro f i V' hi hf hx
    subst hi
    rw [wp_X7_addOnWayToRoot_L5]
    have hh : pos V' := h V' hf (by rw [hx]; exact congrArg (fun p => ad p (V 2) x) (funext fun y => propext ⟨fun ⟨j, q1, q2⟩ => ⟨j, by omega, q2⟩, fun ⟨j, q1, q2⟩ => ⟨j, by omega, q2⟩⟩))
    exact ⟨fun _ => hh, fun _ => ⟨fun _ => hh, fun z => absurd rfl z⟩⟩
  have key : ∀ f i (V' : Mm), i + f = dep v → (∀ c, c ≠ 2 → V' c = V c) → V' 2 = ad (fun y => ∃ j, j < i ∧ up par j v = y) (V 2) x → wp_X7_addOnWayToRoot_L5 x pos (fun (V8 : Mm) (x9 : Int32) (x10 : Int32) => pos V8) (f + 2) V' (nI (up par i v)) (nI i) := by
    intro f
    induction f with
    | zero =>
      intro i V' hi hf hx
      have hii : i = dep v := by omega
      have hr := (TV_rt T).1
      have hrn := TV_lt T hr
      have hup : up par i v = r := by rw [hii]; exact rt_top (TV_rt T) hv
      have H' : GV V' n k a b w pr := GV_fr H (hf 1 (by omega)) (hf 3 (by omega)) (hf 4 (by omega)) (hf 5 (by omega)) (hf 6 (by omega))
      have H2 : ∀ y, GV (wr V' 2 r y) n k a b w pr := fun y => GV_wr H' (by omega)
      rw [hup, wp_X7_addOnWayToRoot_L5]
      simp (disch := omega) only [e_valueOf H' hrn, e_putValue H' hrn, e_above (H2 _) hrn, wr_ne, nI_add, nI_1, nI_neg, neg_nI, nI_lt0, nI_eq0, nI_lt20, nI_le20, nI_lt60, nI_le60, nI_inI, nI_clamp, nI_eq, nI_leI, nI_ltI, neg_ltz, neg_eqz, one_eqz, bI_eq0, bI_eq1, bI_nar1, show ¬ 20 ≤ i by omega, true_and, and_true, not_true_eq_false, not_false_eq_true, false_implies, true_implies, implies_true, forall_eq, false_and, and_false, or_false, false_or, or_true, true_or, iff_self, Classical.not_not, forall_const, ite_true, ite_false, reduceIte, eq_self]
      rw [hf 32 (by omega), (TP_r (TV_tp T)).1]
      refine last 0 (i + 1) _ (by omega) (fun c hc => by rw [wr_ne _ _ _ hc, hf c hc]) ?_
      rw [wr_eq, hx]
      refine ad_up ?_ (fun z => ⟨fun ⟨j, q1, q2⟩ => ?_, fun q => ?_⟩)
      · rintro ⟨j, q1, q2⟩
        have := up_inj (TV_rt T) hv (show j ≤ dep v by omega) (show i ≤ dep v by omega) (by rw [q2, hup])
        omega
      · rcases Nat.lt_or_ge j i with q | q
        · exact Or.inl ⟨j, q, q2⟩
        · right; rw [← q2, show j = i by omega, hup]
      · rcases q with ⟨j, q1, q2⟩ | q
        · exact ⟨j, by omega, q2⟩
        · exact ⟨i, by omega, by rw [hup, q]⟩
    | succ f ih =>
      intro i V' hi hf hx
      obtain ⟨g1, g2, g3⟩ := up_lt (TV_rt T) hv (show i < dep v by omega)
      have g4 := TV_lt T g1
      have H' : GV V' n k a b w pr := GV_fr H (hf 1 (by omega)) (hf 3 (by omega)) (hf 4 (by omega)) (hf 5 (by omega)) (hf 6 (by omega))
      have H2 : ∀ y, GV (wr V' 2 (up par i v) y) n k a b w pr := fun y => GV_wr H' (by omega)
      rw [wp_X7_addOnWayToRoot_L5]
      simp (disch := omega) only [e_valueOf H' g4, e_putValue H' g4, e_above (H2 _) g4, wr_ne, nI_add, nI_1, nI_neg, neg_nI, nI_lt0, nI_eq0, nI_lt20, nI_le20, nI_lt60, nI_le60, nI_inI, nI_clamp, nI_eq, nI_leI, nI_ltI, neg_ltz, neg_eqz, one_eqz, bI_eq0, bI_eq1, bI_nar1, show ¬ 20 ≤ i by omega, true_and, and_true, not_true_eq_false, not_false_eq_true, false_implies, true_implies, implies_true, forall_eq, false_and, and_false, or_false, false_or, or_true, true_or, iff_self, Classical.not_not, forall_const, ite_true, ite_false, reduceIte, eq_self]
      rw [hf 32 (by omega), (TP_p (TV_tp T) _ g1 g2).1, ← up_succ par i v]
      refine ih (i + 1) _ (by omega) (fun c hc => by rw [wr_ne _ _ _ hc, hf c hc]) ?_
      rw [wr_eq, hx]
      refine ad_up ?_ (fun z => ⟨fun ⟨j, q1, q2⟩ => ?_, fun q => ?_⟩)
      · rintro ⟨j, q1, q2⟩
        have := up_inj (TV_rt T) hv (show j ≤ dep v by omega) (show i ≤ dep v by omega) q2
        omega
      · rcases Nat.lt_or_ge j i with q | q
        · exact Or.inl ⟨j, q, q2⟩
        · right; rw [← q2, show j = i by omega]
      · rcases q with ⟨j, q1, q2⟩ | q
        · exact ⟨j, by omega, q2⟩
        · exact ⟨i, by omega, q.symm⟩
  exact ⟨dep v + 2, key (dep v) 0 V (by omega) (fun _ _ => rfl) (ad_0 (fun y q => q.elim fun j q => absurd q.1 (Nat.not_lt_zero _))).symm⟩
theorem e_pe (H : GV V n k a b w pr) (I : FV V k a b w F) (hS : ∀ g, S g → F g) (T : rt a b S r R par dep pe) (hn : ∀ v, R v → v < n) (hv : R v) (hne : v ≠ r) : V (9 + v) (par v) = nI (pe v) := by
  have h20 := GV_n20 H
  obtain ⟨h1, -, h3, h4⟩ := T.2.2.1 v hv hne
  have h5 := hn v hv
  have h6 := hn _ h1
  rcases FV_row I v (par v) (by omega) (by omega) with ⟨g, q1, q2, q3⟩ | ⟨q1, q2⟩
  · rw [q3, jn_uni (FV_ac I) q1 (hS _ h3) q2 h4]
  · exact absurd h4 (q1 _ (hS _ h3))
theorem s_lastByClimbing (H : GV V n k a b w pr) (I : FV V k a b w F) (hS : ∀ g, S g → F g) (T : TV V n a b w S r cnt ord par dep pe lp R) (hv : R v) (hne : v ≠ r) (h : ∀ f, lst a b (ky w) S r v f → post (nI f) V) : wp_X7_lastByClimbing V (nI v) post := by
  have h20 := GV_n20 H
  have h60 := GV_k60 H
  have hdv := TV_d T hv
  have hA : acy a b S := acy_mono (FV_ac I) hS
  have last : ∀ f g, pl a b (ky w) S par pe v (dep v) g → wp_X7_lastByClimbing_L7 post (fun (V19 : Mm) (x20 : Int32) (x21 : Int32) (x22 : Int32) => post x20 V19) (f + 1) V (nI g) (nI (up par (dep v) v)) (nI (dep v)) := by
    intro f g hg
    rw [rt_top (TV_rt T) hv, wp_X7_lastByClimbing_L7]
    simp (disch := omega) only [e_aboveRr H T, nI_add, nI_1, nI_neg, neg_nI, nI_lt0, nI_eq0, nI_lt20, nI_le20, nI_lt60, nI_le60, nI_inI, nI_clamp, nI_eq, nI_leI, nI_ltI, neg_ltz, neg_eqz, one_eqz, bI_eq0, bI_eq1, bI_nar1, show ¬ 20 ≤ dep v by omega, true_and, and_true, not_true_eq_false, not_false_eq_true, false_implies, true_implies, implies_true, forall_eq, false_and, and_false, or_false, false_or, or_true, true_or, iff_self, Classical.not_not, forall_const, ite_true, ite_false, reduceIte, eq_self]
    exact h g (pl_fin hA (TV_rt T) hv rfl hg)
  have key : ∀ f i g, i + f = dep v → pl a b (ky w) S par pe v i g → wp_X7_lastByClimbing_L7 post (fun (V19 : Mm) (x20 : Int32) (x21 : Int32) (x22 : Int32) => post x20 V19) (f + 1) V (nI g) (nI (up par i v)) (nI i) := by
    intro f
    induction f with
    | zero =>
      intro i g hi hg
      have : i = dep v := by omega
      subst this
      exact last 0 g hg
    | succ f ih =>
      intro i g hi hg
      obtain ⟨g1, g2, g3⟩ := up_lt (TV_rt T) hv (show i < dep v by omega)
      obtain ⟨g5, -, g6, -⟩ := (TV_rt T).2.2.1 _ g1 g2
      have hgk := FV_fk I _ (hS _ hg.1)
      have hek := FV_fk I _ (hS _ g6)
      have g8 := TV_lt T g5
      rw [wp_X7_lastByClimbing_L7]
      simp (disch := omega) only [e_aboveR H T g1 g2, e_edgeJoining H (TV_lt T g1) (TV_lt T g5), e_pe H I hS (TV_rt T) (fun v => TV_lt T) g1 g2, e_comesBefore H hgk hek, nI_add, nI_1, nI_neg, neg_nI, nI_lt0, nI_eq0, nI_lt20, nI_le20, nI_lt60, nI_le60, nI_inI, nI_clamp, nI_eq, nI_leI, nI_ltI, neg_ltz, neg_eqz, one_eqz, bI_eq0, bI_eq1, bI_nar1, show ¬ 20 ≤ i by omega, true_and, and_true, not_true_eq_false, not_false_eq_true, false_implies, true_implies, implies_true, forall_eq, false_and, and_false, or_false, false_or, or_true, true_or, iff_self, Classical.not_not, forall_const, ite_true, ite_false, reduceIte, eq_self]
      rw [← up_succ par i v]
      refine ⟨fun z => ih (i + 1) g (by omega) (pl_old (TV_rt T) hv (by omega) hg z), fun z => ih (i + 1) _ (by omega) (pl_new (TV_rt T) hv (by omega) hg z)⟩
  obtain ⟨g5, g7, g6, -⟩ := (TV_rt T).2.2.1 _ hv hne
  have g8 := TV_lt T g5
  refine ⟨dep v + 1, ?_⟩
  rw [wp_X7_lastByClimbing_L7]
  simp (disch := omega) only [e_aboveR H T hv hne, e_edgeJoining H (TV_lt T hv) (TV_lt T g5), e_pe H I hS (TV_rt T) (fun v => TV_lt T) hv hne, nI_add, nI_1, nI_neg, neg_nI, nI_lt0, nI_eq0, nI_lt20, nI_le20, nI_lt60, nI_le60, nI_inI, nI_clamp, nI_eq, nI_leI, nI_ltI, neg_ltz, neg_eqz, one_eqz, bI_eq0, bI_eq1, bI_nar1, show ¬ ((20 : Int32) ≤ 0) by decide, true_and, and_true, not_true_eq_false, not_false_eq_true, false_implies, true_implies, implies_true, forall_eq, false_and, and_false, or_false, false_or, or_true, true_or, iff_self, Classical.not_not, forall_const, ite_true, ite_false, reduceIte, eq_self]
  rw [show (0 : Int32) + 1 = nI 1 from rfl, show dep v = dep v - 1 + 1 by omega]
  exact key (dep v - 1) 1 _ (by omega) (pl_first (TV_rt T) hv (by omega))
theorem s_meetByClimbing (H : GV V n k a b w pr) (T : TV V n a b w S r cnt ord par dep pe lp R) (hu : R u) (hv : R v) (h : ∀ m, lca par dep m u v → post (nI m) V) : wp_X7_meetByClimbing V (nI u) (nI v) post := by
  have h20 := GV_n20 H
  have key : ∀ f s u v, s + f = 40 → R u → R v → dep u + dep v + s ≤ 38 → (∀ m, lca par dep m u v → post (nI m) V) → wp_X7_meetByClimbing_L8 post (fun (V12 : Mm) (x13 : Int32) (x14 : Int32) (x15 : Int32) => post x13 V12) (f + 1) V (nI u) (nI v) (nI s) := by
    intro f
    induction f with
    | zero => intro s u v hs _ _ hd; omega
    | succ f ih =>
      intro s u v hs hu hv hd hm
      have h1 := TV_lt T hu
      have h2 := TV_lt T hv
      rw [wp_X7_meetByClimbing_L8]
      simp (disch := omega) only [nI_le40, e_depthR H T hu, e_depthR H T hv, nI_add, nI_1, nI_neg, neg_nI, nI_lt0, nI_eq0, nI_lt20, nI_le20, nI_lt60, nI_le60, nI_inI, nI_clamp, nI_eq, nI_leI, nI_ltI, neg_ltz, neg_eqz, one_eqz, bI_eq0, bI_eq1, bI_nar1, show ¬ 40 ≤ s by omega, true_and, and_true, not_true_eq_false, not_false_eq_true, false_implies, true_implies, implies_true, forall_eq, false_and, and_false, or_false, false_or, or_true, true_or, iff_self, Classical.not_not, forall_const, ite_true, ite_false, reduceIte, eq_self]
      refine ⟨fun q => hm u (by rw [q]; exact lca_self), fun q => ⟨fun q2 => ?_, fun q2 => ?_⟩⟩
      · obtain ⟨g1, g2⟩ := lca_step (TV_rt T) hv hu (Ne.symm q) (by omega) (m := 0)
        obtain ⟨g3, g4, -⟩ := (TV_rt T).2.2.1 v hv g1
        rw [e_aboveR H T hv g1]
        exact ih (s + 1) u (par v) (by omega) hu g3 (by omega) (fun m z => hm m (lca_sw ((lca_step (TV_rt T) hv hu (Ne.symm q) (by omega)).2 (lca_sw z))))
      · obtain ⟨g1, g2⟩ := lca_step (TV_rt T) hu hv q (by omega) (m := 0)
        obtain ⟨g3, g4, -⟩ := (TV_rt T).2.2.1 u hu g1
        rw [e_aboveR H T hu g1]
        exact ih (s + 1) (par u) v (by omega) g3 hv (by omega) (fun m z => hm m ((lca_step (TV_rt T) hu hv q (by omega)).2 z))
  have h1 := TV_d T hu
  have h2 := TV_d T hv
  exact ⟨41, key 40 0 u v (by omega) hu hv (by omega) h⟩
end TREE3
