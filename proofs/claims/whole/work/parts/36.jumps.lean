section JUMPS
variable {n k : Nat} {a b w : Nat → Nat} {pr F S : Nat → Prop} {V V0 : Mm} {post : Int32 → Mm → Prop} {pos : Mm → Prop} {u v e d r p m i c l : Nat} {x y : Int32}
variable {cnt : Nat} {ord par dep pe lp : Nat → Nat} {R : Nat → Prop}
theorem nI_le5 {v : Nat} (h : v < 2 ^ 31) : 5 ≤ nI v ↔ 5 ≤ v := nI_leI (a := 5) (by decide) h
theorem nI_lt5 {v : Nat} (h : v < 2 ^ 31) : nI v < 5 ↔ v < 5 := nI_ltI (b := 5) h (by decide)
theorem bit_is : ∀ d : Fin 32, ∀ l : Fin 5, (((nI d.1 >>> (nI l.1 &&& 31)) &&& 1) = 1 ↔ d.1 / 2 ^ l.1 % 2 = 1) := by decide +kernel
theorem mx_is : ∀ x : Fin 20, ∀ y : Fin 20, (if 0 < (nI x.1 - nI y.1) then (nI x.1 - nI y.1) else 0) = nI (x.1 - y.1) := by decide +kernel
noncomputable def jt (R : Nat → Prop) (par dep : Nat → Nat) (l v : Nat) : Int32 := @ite _ (R v ∧ 2 ^ l ≤ dep v) (Classical.propDecidable _) (nI (up par (2 ^ l) v)) (-1)
theorem jt_y (h : R v) (h2 : 2 ^ l ≤ dep v) : jt R par dep l v = nI (up par (2 ^ l) v) := if_pos ⟨h, h2⟩
theorem jt_n (h : ¬ (R v ∧ 2 ^ l ≤ dep v)) : jt R par dep l v = -1 := if_neg h
theorem e_jump (H : GV V n k a b w pr) (hv : v < n) (hl : l < 5) : wp_X6_jump V (nI v) (nI l) post = post (V (52 + l) v) V := by
  have := GV_n20 H
  unfold wp_X6_jump
  simp (disch := omega) only [e_hasVertex H hv, nI_lt5, nI_add, nI_1, nI_neg, neg_nI, nI_lt0, nI_eq0, nI_lt20, nI_le20, nI_lt60, nI_le60, nI_inI, nI_clamp, nI_eq, nI_leI, nI_ltI, neg_ltz, neg_eqz, one_eqz, bI_eq0, bI_eq1, bI_nar1, true_and, and_true, not_true_eq_false, not_false_eq_true, false_implies, true_implies, implies_true, forall_eq, false_and, and_false, or_false, false_or, or_true, true_or, iff_self, Classical.not_not, forall_const, ite_true, ite_false, reduceIte, eq_self, hl]
theorem e_jumpO (H : GV V n k a b w pr) (hv : n ≤ v) (h : v < 2 ^ 31) : wp_X6_jump V (nI v) x post = post (-1) V := by
  unfold wp_X6_jump
  rw [e_hasVertexO H hv h, mb_t rfl]
theorem e_jumpN : wp_X6_jump V (-1) x post = post (-1) V := by
  unfold wp_X6_jump
  rw [e_hasVertexN, mb_t rfl]
theorem lca_lift (h : rt a b S r R par dep pe) : ∀ i u, R u → R v → dep v + i ≤ dep u → lca par dep m (up par i u) v → lca par dep m u v
  | 0, u, _, _, _, q => q
  | i + 1, u, hu, hv, hd, q => by
    have hne : u ≠ v := fun z => by rw [z] at hd; omega
    obtain ⟨hr, hs⟩ := lca_step (m := m) h hu hv hne (by omega)
    obtain ⟨g1, g2, -⟩ := h.2.2.1 u hu hr
    exact hs (lca_lift h i (par u) g1 hv (by omega) q)
theorem lca_par (h : rt a b S r R par dep pe) (hu : R u) (hv : R v) (hne : u ≠ v) (hd : dep u = dep v) : u ≠ r ∧ v ≠ r ∧ (lca par dep m (par u) (par v) → lca par dep m u v) := by
  obtain ⟨hr, hs⟩ := lca_step (m := m) h hu hv hne (by omega)
  have hr2 : v ≠ r := fun z => by rw [z, h.2.1] at hd; exact hr (rt_dep0 h hu hd)
  refine ⟨hr, hr2, fun q => hs ?_⟩
  obtain ⟨g1, g2, -⟩ := h.2.2.1 u hu hr
  have hne2 : v ≠ par u := fun z => by rw [← z] at g2; omega
  exact lca_sw ((lca_step (m := m) h hv g1 hne2 (by omega)).2 (lca_sw q))
theorem lca_up (h : rt a b S r R par dep pe) : ∀ i u v, R u → R v → dep u = dep v → i ≤ dep u → up par i u ≠ up par i v → lca par dep m (up par i u) (up par i v) → lca par dep m u v
  | 0, u, v, _, _, _, _, _, q => q
  | i + 1, u, v, hu, hv, hd, hi, hn, q => by
    have hne : u ≠ v := fun z => hn (by rw [z])
    obtain ⟨h1, h2, h3⟩ := lca_par (m := m) h hu hv hne hd
    obtain ⟨g1, g2, -⟩ := h.2.2.1 u hu h1
    obtain ⟨g3, g4, -⟩ := h.2.2.1 v hv h2
    exact h3 (lca_up h i (par u) (par v) g1 g3 (by omega) (by omega) hn q)
def JB (V : Mm) (R : Nat → Prop) (par dep : Nat → Nat) (j : Nat) : Prop := ∀ l, l < j → ∀ v, v < 20 → V (52 + l) v = jt R par dep l v
theorem s_build6 (H0 : GV V0 n k a b w pr) (T0 : TV V0 n a b w S r cnt ord par dep pe lp R) (h : ∀ V' : Mm, (∀ c, c < 52 ∨ 56 < c → V' c = V0 c) → JB V' R par dep 5 → pos V') : wp_X6_build V0 pos := by
  have h20 := GV_n20 H0
  have inner : ∀ l, 0 < l → l < 5 → ∀ kx : Mm → Int32 → Prop, (∀ V', (∀ c, c < 52 ∨ 56 < c → V' c = V0 c) → JB V' R par dep (l + 1) → kx V' (nI 20)) → ∀ f i (V : Mm), i + f = 20 → (∀ c, c < 52 ∨ 56 < c → V c = V0 c) → JB V R par dep l → (∀ v, v < i → V (52 + l) v = jt R par dep l v) → wp_X6_build_L39 (nI l) pos kx (f + 1) V (nI i) := by
    intro l hl0 hl5 kx hk f
    induction f with
    | zero =>
      intro i V hi hf hJ hv
      have : i = 20 := by omega
      subst this
      rw [wp_X6_build_L39, mb_t (show (20 : Int32) ≤ nI 20 by decide)]
      exact hk V hf (fun l' hl' v hv2 => by
        rcases lt_or_eq1 hl' with q | q
        · exact hJ l' q v hv2
        · rw [q]; exact hv v hv2)
    | succ f ih =>
      intro i V hi hf hJ hv
      have H : GV V n k a b w pr := GV_fr H0 (hf 1 (by omega)) (hf 3 (by omega)) (hf 4 (by omega)) (hf 5 (by omega)) (hf 6 (by omega))
      rw [wp_X6_build_L39, mb_f (fun z => absurd ((nI_le20 (by omega)).mp z) (by omega)), nI_sub1 hl0]
      refine ⟨nI_in (by omega) (by omega), ?_⟩
      have go : ∀ x : Int32, x = jt R par dep l i → (vp_in (nI i) 20 ∧ ∀ V15 : Mm, V15 = wr V (52 + Int32.toNatClampNeg (nI l)) (Int32.toNatClampNeg (nI i)) x → wp_X6_build_L39 (nI l) pos kx (f + 1) V15 (nI i + 1)) := by
        intro x hx
        rw [nI_clamp (by omega), nI_clamp (by omega), forall_eq, nI_1]
        refine ⟨nI_in (by omega) (by omega), ih (i + 1) _ (by omega) (fun c hc => by rw [wr_ne _ _ _ (by omega), hf c hc]) (fun l' hl' v hv2 => by rw [wr_ne _ _ _ (by omega)]; exact hJ l' hl' v hv2) (fun v hv2 => ?_)⟩
        rw [wr_eq, upd_at]
        rcases lt_or_eq1 hv2 with q | q
        · rw [if_neg (by omega)]; exact hv v q
        · rw [if_pos q, q, hx]
      have hpow : 2 ^ l = 2 ^ (l - 1) + 2 ^ (l - 1) := by
        have : 2 ^ (l - 1 + 1) = 2 ^ (l - 1) * 2 := Nat.pow_succ 2 (l - 1)
        rw [show l - 1 + 1 = l by omega] at this
        omega
      by_cases hin : i < n
      · rw [e_jump H hin (show l - 1 < 5 by omega), hJ (l - 1) (by omega) i (by omega)]
        by_cases hR : R i ∧ 2 ^ (l - 1) ≤ dep i
        · obtain ⟨g1, g2⟩ := rt_up (TV_rt T0) _ i hR.1 hR.2
          have g3 := TV_lt T0 g1
          rw [jt_y hR.1 hR.2, e_jump H g3 (show l - 1 < 5 by omega), hJ (l - 1) (by omega) _ (by omega)]
          refine go _ ?_
          by_cases hR2 : 2 ^ l ≤ dep i
          · rw [jt_y hR.1 hR2, jt_y g1 (by omega), ← up_add, ← hpow]
          · rw [jt_n (fun z => hR2 z.2), jt_n (fun z => by have := z.2; omega)]
        · rw [jt_n hR, e_jumpN]
          refine go _ ?_
          rw [jt_n (fun z => hR ⟨z.1, by have := z.2; omega⟩)]
      · rw [e_jumpO H (by omega) (by omega), e_jumpN]
        refine go _ ?_
        rw [jt_n (fun z => hin (TV_lt T0 z.1))]
  have outer : ∀ f l (V : Mm), l + f = 5 → 0 < l → (∀ c, c < 52 ∨ 56 < c → V c = V0 c) → JB V R par dep l → wp_X6_build_L32 pos (fun (V18 : Mm) (x19 : Int32) => pos V18) (f + 1) V (nI l) := by
    intro f
    induction f with
    | zero =>
      intro l V hl hl0 hf hJ
      have : l = 5 := by omega
      subst this
      rw [wp_X6_build_L32, mb_t (show (5 : Int32) ≤ nI 5 by decide)]
      exact h V hf hJ
    | succ f ih =>
      intro l V hl hl0 hf hJ
      rw [wp_X6_build_L32, mb_f (fun z => absurd ((nI_le5 (by omega)).mp z) (by omega))]
      refine ⟨21, inner l hl0 (by omega) _ (fun V' hf' hJ' => ?_) 20 0 V (by omega) hf hJ (fun v hv => absurd hv (Nat.not_lt_zero _))⟩
      rw [nI_1]
      exact ih (l + 1) V' (by omega) (by omega) hf' hJ'
  have first : ∀ f i (V : Mm), i + f = 20 → (∀ c, c < 52 ∨ 56 < c → V c = V0 c) → (∀ v, v < i → V 52 v = jt R par dep 0 v) → wp_X6_build_L2 pos (fun (V6 : Mm) (x7 : Int32) => (∃ m32 : Nat, wp_X6_build_L32 pos (fun (V18 : Mm) (x19 : Int32) => pos V18) m32 (V6) (1))) (f + 1) V (nI i) := by
    intro f
    induction f with
    | zero =>
      intro i V hi hf hv
      have : i = 20 := by omega
      subst this
      rw [wp_X6_build_L2, mb_t (show (20 : Int32) ≤ nI 20 by decide)]
      exact ⟨5, outer 4 1 V (by omega) (by omega) hf (fun l hl v hv2 => by rw [show l = 0 by omega]; exact hv v hv2)⟩
    | succ f ih =>
      intro i V hi hf hv
      have H : GV V n k a b w pr := GV_fr H0 (hf 1 (by omega)) (hf 3 (by omega)) (hf 4 (by omega)) (hf 5 (by omega)) (hf 6 (by omega))
      have T : TV V n a b w S r cnt ord par dep pe lp R := TV_fr T0 (fun c hc => hf c (by omega))
      rw [wp_X6_build_L2, mb_f (fun z => absurd ((nI_le20 (by omega)).mp z) (by omega))]
      refine ⟨by unfold vp_in; decide, ?_⟩
      have go : ∀ x : Int32, x = jt R par dep 0 i → (vp_in (nI i) 20 ∧ ∀ V15 : Mm, V15 = wr V (52 + Int32.toNatClampNeg 0) (Int32.toNatClampNeg (nI i)) x → wp_X6_build_L2 pos (fun (V6 : Mm) (x7 : Int32) => (∃ m32 : Nat, wp_X6_build_L32 pos (fun (V18 : Mm) (x19 : Int32) => pos V18) m32 (V6) (1))) (f + 1) V15 (nI i + 1)) := by
        intro x hx
        rw [nI_clamp (by omega), show 52 + Int32.toNatClampNeg 0 = 52 by decide, forall_eq, nI_1]
        refine ⟨nI_in (by omega) (by omega), ih (i + 1) _ (by omega) (fun c hc => by rw [wr_ne _ _ _ (by omega), hf c hc]) (fun v hv2 => ?_)⟩
        rw [wr_eq, upd_at]
        rcases lt_or_eq1 hv2 with q | q
        · rw [if_neg (by omega)]; exact hv v q
        · rw [if_pos q, q, hx]
      by_cases hin : i < n
      · by_cases hR : R i
        · by_cases hr : i = r
          · have e0 := e_aboveRr H T (post := fun (r4 : Int32) (V3 : Mm) => (vp_in (nI i) 20 ∧ ∀ V5 : Mm, V5 = wr V3 (52 + Int32.toNatClampNeg 0) (Int32.toNatClampNeg (nI i)) r4 → wp_X6_build_L2 pos (fun (V6 : Mm) (x7 : Int32) => (∃ m32 : Nat, wp_X6_build_L32 pos (fun (V18 : Mm) (x19 : Int32) => pos V18) m32 (V6) (1))) (f + 1) (V5) ((nI i + (1)))))
            rw [← hr] at e0
            rw [e0]
            exact go _ (by rw [jt_n (fun z => by have := z.2; rw [hr, (TV_rt T).2.1] at this; omega)])
          · obtain ⟨g1, g2, -⟩ := (TV_rt T).2.2.1 i hR hr
            rw [e_aboveR H T hR hr]
            exact go _ (by rw [jt_y hR (by show 1 ≤ dep i; omega)]; rfl)
        · rw [e_above H hin, (TP_z (TV_tp T) i (by omega) hR).2]
          exact go _ (by rw [jt_n (fun z => hR z.1)])
      · rw [e_aboveO H (by omega) (by omega)]
        exact go _ (by rw [jt_n (fun z => hin (TV_lt T z.1))])
  unfold wp_X6_build
  exact ⟨21, first 20 0 V0 (by omega) (fun _ _ => rfl) (fun v hv => absurd hv (Nat.not_lt_zero _))⟩
theorem s_climb6 (H : GV V n k a b w pr) (T : TV V n a b w S r cnt ord par dep pe lp R) (hJ : JB V R par dep 5) (hv : R v) (hd : d ≤ dep v) (h : post (nI (up par d v)) V) : wp_X6_climb V (nI v) (nI d) post := by
  have h20 := GV_n20 H
  have hdv := TV_d T hv
  have key : ∀ f l, l + f = 5 → wp_X6_climb_L5 (nI d) post (fun (V5 : Mm) (x6 : Int32) (x7 : Int32) => post x6 V5) (f + 1) V (nI (up par (d % 2 ^ l) v)) (nI l) := by
    intro f
    induction f with
    | zero =>
      intro l hl
      have : l = 5 := by omega
      subst this
      rw [wp_X6_climb_L5, mb_t (show (5 : Int32) ≤ nI 5 by decide), show d % 2 ^ 5 = d from Nat.mod_eq_of_lt (by omega)]
      exact h
    | succ f ih =>
      intro l hl
      have ih := ih (l + 1) (by omega)
      rw [wp_X6_climb_L5, mb_f (fun z => absurd ((nI_le5 (by omega)).mp z) (by omega)), nI_1]
      have hb := bit_is ⟨d, by omega⟩ ⟨l, by omega⟩
      have hm : d % 2 ^ (l + 1) = d % 2 ^ l + 2 ^ l * (d / 2 ^ l % 2) := Nat.mod_pow_succ
      by_cases q : d / 2 ^ l % 2 = 1
      · rw [mb_t (hb.mpr q)]
        rw [q, Nat.mul_one] at hm
        have hle : d % 2 ^ (l + 1) ≤ d := Nat.mod_le _ _
        obtain ⟨g1, g2⟩ := rt_up (TV_rt T) (d % 2 ^ l) v hv (by omega)
        have g3 := TV_lt T g1
        rw [e_jump H g3 (by omega), hJ l (by omega) _ (by omega), jt_y g1 (by omega), ← up_add, Nat.add_comm (2 ^ l), ← hm]
        exact ih
      · rw [mb_f (fun z => q (hb.mp z))]
        rw [show d / 2 ^ l % 2 = 0 by omega, Nat.mul_zero, Nat.add_zero] at hm
        rw [hm] at ih
        exact ih
  exact ⟨6, by have := key 5 0 (by omega); rwa [show d % 2 ^ 0 = 0 from Nat.mod_one d] at this⟩
theorem s_meet (H : GV V n k a b w pr) (T : TV V n a b w S r cnt ord par dep pe lp R) (hJ : JB V R par dep 5) (hu : R u) (hv : R v) (h : ∀ m, lca par dep m u v → post (nI m) V) : wp_X6_meet V (nI u) (nI v) post := by
  have h20 := GV_n20 H
  have hdu := TV_d T hu
  have hdv := TV_d T hv
  unfold wp_X6_meet
  simp only [e_depthR H T hu, e_depthR H T hv]
  rw [mx_is ⟨dep u, by omega⟩ ⟨dep v, by omega⟩]
  refine s_climb6 H T hJ hu (Nat.sub_le _ _) ?_
  simp only [e_depthR H T hu, e_depthR H T hv]
  rw [mx_is ⟨dep v, by omega⟩ ⟨dep u, by omega⟩]
  refine s_climb6 H T hJ hv (Nat.sub_le _ _) ?_
  obtain ⟨g1, g2⟩ := rt_up (TV_rt T) (dep u - dep v) u hu (Nat.sub_le _ _)
  obtain ⟨g3, g4⟩ := rt_up (TV_rt T) (dep v - dep u) v hv (Nat.sub_le _ _)
  have hl : ∀ m, lca par dep m (up par (dep u - dep v) u) (up par (dep v - dep u) v) → lca par dep m u v := fun m q => by
    rcases Nat.lt_or_ge (dep u) (dep v) with z | z
    · rw [show dep u - dep v = 0 by omega] at q
      exact lca_sw (lca_lift (TV_rt T) (dep v - dep u) v hv hu (by omega) (lca_sw q))
    · rw [show dep v - dep u = 0 by omega] at q
      exact lca_lift (TV_rt T) (dep u - dep v) u hu hv (by omega) q
  have hde : dep (up par (dep u - dep v) u) = dep (up par (dep v - dep u) v) := by omega
  generalize up par (dep u - dep v) u = s at *
  generalize up par (dep v - dep u) v = t at *
  have l1 := TV_lt T g1
  have l2 := TV_lt T g3
  refine ⟨fun q => ?_, fun q => ?_⟩
  · have : s = t := (nI_eq (by omega) (by omega)).mp q
    exact h s (hl s (by rw [← this]; exact lca_self))
  · have hst : s ≠ t := fun z => q (by rw [z])
    have key : ∀ i s t, i ≤ 5 → R s → R t → s ≠ t → dep s = dep t → (2 ^ i ≤ dep s → up par (2 ^ i) s = up par (2 ^ i) t) → (∀ m, lca par dep m s t → lca par dep m u v) → wp_X6_meet_L66 post (fun (V24 : Mm) (x25 : Int32) (x26 : Int32) (x27 : Int32) => (wp_X6_jump V24 (x25) (0) (fun (r29 : Int32) (V28 : Mm) => post r29 V28))) (i + 1) V (nI s) (nI t) (nI i - 1) := by
      intro i
      induction i with
      | zero =>
        intro s t _ hs ht hne hd hup hl
        rw [wp_X6_meet_L66, mb_t (show nI 0 - 1 < 0 by decide)]
        obtain ⟨r1, r2, r3⟩ := lca_par (m := par s) (TV_rt T) hs ht hne hd
        obtain ⟨d1, d2, -⟩ := (TV_rt T).2.2.1 s hs r1
        have h1 : 2 ^ 0 ≤ dep s := by show 1 ≤ dep s; omega
        rw [show (0 : Int32) = nI 0 from rfl, e_jump H (TV_lt T hs) (by decide), hJ 0 (by decide) s (by have := TV_lt T hs; omega), jt_y hs h1]
        have h2 : par s = par t := hup h1
        exact h (par s) (hl _ (r3 (by rw [← h2]; exact lca_self)))
      | succ i ih =>
        intro s t hi hs ht hne hd hup hl
        have ls := TV_lt T hs
        have lt := TV_lt T ht
        have hpow : 2 ^ (i + 1) = 2 ^ i + 2 ^ i := by rw [Nat.pow_succ]; omega
        rw [nI_pred, wp_X6_meet_L66, mb_f (nI_pos (by omega)), e_jump H ls (by omega), e_jump H lt (by omega), hJ i (by omega) s (by omega), hJ i (by omega) t (by omega)]
        have e1 : (-1 : Int32) = -(1 : Int32) := rfl
        by_cases hD : 2 ^ i ≤ dep s
        · rw [jt_y hs hD, jt_y ht (by omega)]
          obtain ⟨a1, a2⟩ := rt_up (TV_rt T) _ s hs hD
          obtain ⟨a3, a4⟩ := rt_up (TV_rt T) (2 ^ i) t ht (by omega)
          have l3 := TV_lt T a1
          have l4 := TV_lt T a3
          by_cases hq : up par (2 ^ i) s = up par (2 ^ i) t
          · rw [mb_t (by rw [hq]), e1, ← Int32.sub_eq_add_neg]
            exact ih s t (by omega) hs ht hne hd (fun _ => hq) hl
          · rw [mb_f (fun z => hq ((nI_eq (by omega) (by omega)).mp z)), e_jump H ls (by omega), e_jump H lt (by omega), hJ i (by omega) s (by omega), hJ i (by omega) t (by omega), jt_y hs hD, jt_y ht (by omega), e1, ← Int32.sub_eq_add_neg]
            exact ih _ _ (by omega) a1 a3 hq (by omega) (fun z => by rw [← up_add, ← up_add, ← hpow]; exact hup (by omega)) (fun m z => hl m (lca_up (TV_rt T) _ s t hs ht hd hD hq z))
        · rw [jt_n (fun z => hD z.2), jt_n (fun z => hD (by have := z.2; omega)), mb_t rfl, e1, ← Int32.sub_eq_add_neg]
          exact ih s t (by omega) hs ht hne hd (fun z => absurd z hD) hl
    exact ⟨6, key 5 s t (Nat.le_refl _) g1 g3 hst hde (fun z => by have := TV_d T g1; omega) hl⟩
end JUMPS
