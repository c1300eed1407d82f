section WALK
def WV (V : Mm) (n : Nat) (a b : Nat → Nat) (pr : Nat → Prop) (r qn : Nat) (qu : Nat → Nat) (R : Nat → Prop) : Prop := (V 40 3 = nI qn) ∧ (∀ i, i < qn → V 42 i = nI (qu i)) ∧ (∀ i, i < qn → qu i < n) ∧ (∀ v, R v ↔ ∃ i, i < qn ∧ qu i = v) ∧ (∀ i j, i < j → j < qn → qu i ≠ qu j) ∧ (∀ v, v < 20 → V 41 v = bI (R v)) ∧ (∀ v, R v → cn a b pr r v)
theorem WV_c {V : Mm} {n : Nat} {a b : Nat → Nat} {pr : Nat → Prop} {r qn : Nat} {qu : Nat → Nat} {R : Nat → Prop} (h : WV V n a b pr r qn qu R) : V 40 3 = nI qn := h.1
theorem WV_q {V : Mm} {n : Nat} {a b : Nat → Nat} {pr : Nat → Prop} {r qn : Nat} {qu : Nat → Nat} {R : Nat → Prop} (h : WV V n a b pr r qn qu R) : ∀ i, i < qn → V 42 i = nI (qu i) := h.2.1
theorem WV_lt {V : Mm} {n : Nat} {a b : Nat → Nat} {pr : Nat → Prop} {r qn : Nat} {qu : Nat → Nat} {R : Nat → Prop} (h : WV V n a b pr r qn qu R) : ∀ i, i < qn → qu i < n := h.2.2.1
theorem WV_im {V : Mm} {n : Nat} {a b : Nat → Nat} {pr : Nat → Prop} {r qn : Nat} {qu : Nat → Nat} {R : Nat → Prop} (h : WV V n a b pr r qn qu R) : ∀ v, R v ↔ ∃ i, i < qn ∧ qu i = v := h.2.2.2.1
theorem WV_inj {V : Mm} {n : Nat} {a b : Nat → Nat} {pr : Nat → Prop} {r qn : Nat} {qu : Nat → Nat} {R : Nat → Prop} (h : WV V n a b pr r qn qu R) : ∀ i j, i < j → j < qn → qu i ≠ qu j := h.2.2.2.2.1
theorem WV_s {V : Mm} {n : Nat} {a b : Nat → Nat} {pr : Nat → Prop} {r qn : Nat} {qu : Nat → Nat} {R : Nat → Prop} (h : WV V n a b pr r qn qu R) : ∀ v, v < 20 → V 41 v = bI (R v) := h.2.2.2.2.2.1
theorem WV_cn {V : Mm} {n : Nat} {a b : Nat → Nat} {pr : Nat → Prop} {r qn : Nat} {qu : Nat → Nat} {R : Nat → Prop} (h : WV V n a b pr r qn qu R) : ∀ v, R v → cn a b pr r v := h.2.2.2.2.2.2
variable {n k : Nat} {a b w : Nat → Nat} {pr F : Nat → Prop} {V V0 : Mm} {post : Int32 → Mm → Prop} {pos : Mm → Prop} {u v e p i r t qn : Nat} {qu : Nat → Nat} {R : Nat → Prop}
theorem WV_fr {V V' : Mm} (h : WV V n a b pr r qn qu R) (h1 : V' 40 = V 40) (h2 : V' 41 = V 41) (h3 : V' 42 = V 42) : WV V' n a b pr r qn qu R := by
  unfold WV; rw [h1, h2, h3]; exact h
theorem s_visit (H : GV V n k a b w pr) (W : WV V n a b pr r qn qu R) (hv : v < n) (hc : cn a b pr r v) (h : ∀ (V' : Mm) qn' qu' R', (∀ c, c < 40 ∨ 42 < c → V' c = V c) → WV V' n a b pr r qn' qu' R' → qn ≤ qn' → (∀ i, i < qn → qu' i = qu i) → (∀ x, R x → R' x) → R' v → pos V') : wp_X4_visit V (nI v) pos := by
  have h20 := GV_n20 H
  unfold wp_X4_visit
  simp (disch := omega) only [e_hasVertex H hv, nI_inI, nI_clamp, one_eqz, WV_s W, bI_eq0, WV_c W, true_and, and_true, not_true_eq_false, not_false_eq_true, false_implies, true_implies, implies_true, forall_eq, false_and, and_false, or_false, false_or, or_true, true_or, iff_self, Classical.not_not, forall_const, ite_true, ite_false, reduceIte, eq_self]
  by_cases hR : R v
  · rw [mb_n hR]; exact h V qn qu R (fun _ _ => rfl) W (Nat.le_refl _) (fun _ _ => rfl) (fun _ z => z) hR
  · have hct : ct (fun v => ∃ i, i < qn ∧ qu i = v) n = qn := pig (WV_lt W) (WV_inj W)
    have h1 : ct (fun x => (∃ i, i < qn ∧ qu i = x) ∨ x = v) n = qn + 1 := by rw [ct_ins hv (fun z => hR ((WV_im W v).mpr z)) (fun _ _ => Iff.rfl), hct]
    have h2 := ct_le (p := fun x => (∃ i, i < qn ∧ qu i = x) ∨ x = v) n
    have hq : qn < 20 := by omega
    simp (disch := omega) only [hR, nI_add, nI_1, nI_neg, neg_nI, nI_lt0, nI_eq0, nI_lt20, nI_le20, nI_lt60, nI_le60, nI_inI, nI_clamp, nI_eq, nI_leI, nI_ltI, neg_ltz, neg_eqz, one_eqz, bI_eq0, bI_eq1, bI_nar1, show ¬ 20 ≤ qn by omega, wr_ne, wr_eq, WV_c W, ne_eq, Nat.reduceEqDiff, true_and, and_true, not_true_eq_false, not_false_eq_true, false_implies, true_implies, implies_true, forall_eq, false_and, and_false, or_false, false_or, or_true, true_or, iff_self, Classical.not_not, forall_const, ite_true, ite_false, reduceIte, eq_self]
    refine h _ (qn + 1) (fun i => if i = qn then v else qu i) (fun x => R x ∨ x = v) (fun c hc => ?_) ⟨?_, fun i hi => ?_, fun i hi => ?_, fun x => ?_, fun i j hij hj => ?_, fun x hx => ?_, fun x hx => ?_⟩ (by omega) (fun i hi => if_neg (by omega)) (fun x z => Or.inl z) (Or.inr rfl)
    · rw [wr_ne _ _ _ (by omega), wr_ne _ _ _ (by omega), wr_ne _ _ _ (by omega)]
    · rw [wr_eq, upd_eq]
    · rw [wr_ne _ _ _ (by decide), wr_eq, upd_at]
      show _ = nI (if i = qn then v else qu i)
      by_cases z : i = qn
      · rw [if_pos z, if_pos z]
      · rw [if_neg z, if_neg z, wr_ne _ _ _ (by decide), WV_q W i (by omega)]
    · show (if i = qn then v else qu i) < n
      by_cases z : i = qn
      · rw [if_pos z]; exact hv
      · rw [if_neg z]; exact WV_lt W i (by omega)
    · show (R x ∨ x = v) ↔ _
      rw [WV_im W]
      constructor
      · rintro (⟨i, q1, q2⟩ | q)
        · exact ⟨i, by omega, by show (if i = qn then v else qu i) = x; rw [if_neg (by omega)]; exact q2⟩
        · exact ⟨qn, by omega, by show (if qn = qn then v else qu qn) = x; rw [if_pos rfl, q]⟩
      · rintro ⟨i, q1, q2⟩
        have q2 : (if i = qn then v else qu i) = x := q2
        by_cases z : i = qn
        · rw [if_pos z] at q2; exact Or.inr q2.symm
        · rw [if_neg z] at q2; exact Or.inl ⟨i, by omega, q2⟩
    · show (if i = qn then v else qu i) ≠ (if j = qn then v else qu j)
      rw [if_neg (show ¬ i = qn by omega)]
      by_cases z : j = qn
      · rw [if_pos z]; exact fun q => hR ((WV_im W v).mpr ⟨i, by omega, q⟩)
      · rw [if_neg z]; exact WV_inj W i j hij (by omega)
    · rw [wr_ne _ _ _ (by decide), wr_ne _ _ _ (by decide), wr_eq, upd_at]
      by_cases z : x = v
      · rw [if_pos z, bI_t (Or.inr z)]
      · rw [if_neg z, WV_s W x hx]; exact bI_congr ⟨Or.inl, fun y => y.elim id (fun y => absurd y z)⟩
    · exact hx.elim (WV_cn W x) (fun z => by rw [z]; exact hc)
theorem e_visitN : wp_X4_visit V (-1) pos = pos V := by
  unfold wp_X4_visit
  rw [e_hasVertexN, mb_t rfl]
theorem s_visitAround (H0 : GV V0 n k a b w pr) (W0 : WV V0 n a b pr r qn qu R) (hp : p < qn) (h : ∀ (V' : Mm) qn' qu' R', (∀ c, c < 40 ∨ 42 < c → V' c = V0 c) → WV V' n a b pr r qn' qu' R' → qn ≤ qn' → (∀ i, i < qn → qu' i = qu i) → (∀ x, R x → R' x) → (∀ e, pr e → ∀ x, jn a b e (qu p) x → R' x) → pos V') : wp_X4_visitAround V0 (nI (qu p)) pos := by
  have h20 := GV_n20 H0
  have h60 := GV_k60 H0
  have hu := WV_lt W0 p hp
  have hRu : R (qu p) := (WV_im W0 _).mpr ⟨p, hp, rfl⟩
  have key : ∀ f i (V : Mm) qn' qu' R', i + f = k → (∀ c, c < 40 ∨ 42 < c → V c = V0 c) → WV V n a b pr r qn' qu' R' → qn ≤ qn' → (∀ i, i < qn → qu' i = qu i) → (∀ x, R x → R' x) → (∀ e, e < i → pr e → ∀ x, jn a b e (qu p) x → R' x) → wp_X4_visitAround_L2 (nI (qu p)) pos (fun (V10 : Mm) (x11 : Int32) => pos V10) (f + 1) V (nI i) := by
    intro f
    induction f with
    | zero =>
      intro i V qn' qu' R' hi hf W h1 h2 h3 h4
      have : i = k := by omega
      subst this
      have H : GV V n i a b w pr := GV_fr H0 (hf 1 (by omega)) (hf 3 (by omega)) (hf 4 (by omega)) (hf 5 (by omega)) (hf 6 (by omega))
      simp (disch := omega) only [wp_X4_visitAround_L2, wp_X3_edgeCount, GV_k H, nI_add, nI_1, nI_neg, neg_nI, nI_lt0, nI_eq0, nI_lt20, nI_le20, nI_lt60, nI_le60, nI_inI, nI_clamp, nI_eq, nI_leI, nI_ltI, neg_ltz, neg_eqz, one_eqz, bI_eq0, bI_eq1, bI_nar1, Nat.le_refl, true_and, and_true, not_true_eq_false, not_false_eq_true, false_implies, true_implies, implies_true, forall_eq, false_and, and_false, or_false, false_or, or_true, true_or, iff_self, Classical.not_not, forall_const, ite_true, ite_false, reduceIte, eq_self]
      exact h V qn' qu' R' hf W h1 h2 h3 (fun e he => h4 e (GV_pk H0 e he) he)
    | succ f ih =>
      intro i V qn' qu' R' hi hf W h1 h2 h3 h4
      have hik : i < k := by omega
      have H : GV V n k a b w pr := GV_fr H0 (hf 1 (by omega)) (hf 3 (by omega)) (hf 4 (by omega)) (hf 5 (by omega)) (hf 6 (by omega))
      have hai := GV_an H i hik
      have hbi := GV_bn H i hik
      have hab := GV_ab H i hik
      rw [wp_X4_visitAround_L2]
      simp (disch := omega) only [wp_X3_edgeCount, GV_k H, nI_leI, nI_1, show ¬ k ≤ i by omega, e_isPresent H hik, e_acrossFrom H hik, true_and, and_true, not_true_eq_false, not_false_eq_true, false_implies, true_implies, implies_true, forall_eq, false_and, and_false, or_false, false_or, or_true, true_or, iff_self, Classical.not_not, forall_const, ite_true, ite_false, reduceIte, eq_self]
      by_cases hpr : pr i
      · rw [bI_t hpr, mb_f (by decide)]
        have hcu := WV_cn W _ (h3 _ hRu)
        have go : ∀ x, x < n → jn a b i (qu p) x → (∀ y, jn a b i (qu p) y → y = x) → wp_X4_visit V (nI x) (fun (V9 : Mm) => wp_X4_visitAround_L2 (nI (qu p)) pos (fun (V10 : Mm) (x11 : Int32) => pos V10) (f + 1) V9 (nI (i + 1))) := by
          intro x hx hj hun
          refine s_visit H W hx (cn_trans hcu (jn_cn hj hpr)) (fun V2 qn2 qu2 R2 hf2 W2 g1 g2 g3 g4 => ?_)
          refine ih (i + 1) V2 qn2 qu2 R2 (by omega) (fun c hc => by rw [hf2 c hc, hf c hc]) W2 (by omega) (fun j hj => by rw [g2 j (by omega), h2 j hj]) (fun y hy => g3 y (h3 y hy)) (fun e he hpe y hy => ?_)
          rcases lt_or_eq1 he with z | z
          · exact g3 y (h4 e z hpe y hy)
          · rw [z] at hy; rw [hun y hy]; exact g4
        by_cases h5 : a i = qu p
        · rw [if_pos h5]
          exact go _ hbi (Or.inl ⟨h5, rfl⟩) (fun y hy => by rcases hy with ⟨z1, z2⟩ | ⟨z1, z2⟩ <;> omega)
        · rw [if_neg h5]
          by_cases h6 : b i = qu p
          · rw [if_pos h6]
            exact go _ hai (Or.inr ⟨rfl, h6⟩) (fun y hy => by rcases hy with ⟨z1, z2⟩ | ⟨z1, z2⟩ <;> omega)
          · rw [if_neg h6, e_visitN]
            refine ih (i + 1) V qn' qu' R' (by omega) hf W h1 h2 h3 (fun e he hpe y hy => ?_)
            rcases lt_or_eq1 he with z | z
            · exact h4 e z hpe y hy
            · rw [z] at hy; rcases hy with ⟨z1, z2⟩ | ⟨z1, z2⟩ <;> omega
      · rw [bI_f hpr, mb_t rfl]
        refine ih (i + 1) V qn' qu' R' (by omega) hf W h1 h2 h3 (fun e he hpe y hy => ?_)
        rcases lt_or_eq1 he with z | z
        · exact h4 e z hpe y hy
        · rw [z] at hpe; exact absurd hpe hpr
  exact ⟨k + 1, key k 0 V0 qn qu R (by omega) (fun _ _ => rfl) W0 (Nat.le_refl _) (fun _ _ => rfl) (fun _ z => z) (fun e he => absurd he (Nat.not_lt_zero _))⟩
theorem s_leadsTo (H0 : GV V0 n k a b w pr) (hr : r < n) (ht : t < n) (h : ∀ V' : Mm, (∀ c, c < 40 ∨ 42 < c → V' c = V0 c) → post (bI (cn a b pr r t)) V') : wp_X4_leadsTo V0 (nI r) (nI t) post := by
  have h20 := GV_n20 H0
  have fin : ∀ (V : Mm) qn qu R, (∀ c, c < 40 ∨ 42 < c → V c = V0 c) → WV V n a b pr r qn qu R → R r → (∀ i, i < qn → ∀ e, pr e → ∀ x, jn a b e (qu i) x → R x) → (wp_X3_hasVertex V (nI t) (fun (r13 : Int32) (V12 : Mm) => ((r13 = 0 → post 0 V12) ∧ (¬ r13 = 0 → (vp_in (nI t) 20 ∧ (((V12 41 (Int32.toNatClampNeg (nI t))) = 0 → post 0 V12) ∧ (¬ (V12 41 (Int32.toNatClampNeg (nI t))) = 0 → post 1 V12))))))) := by
    intro V qn qu R hf W hRr hcl
    have H : GV V n k a b w pr := GV_fr H0 (hf 1 (by omega)) (hf 3 (by omega)) (hf 4 (by omega)) (hf 5 (by omega)) (hf 6 (by omega))
    have hR : R t ↔ cn a b pr r t := ⟨WV_cn W t, fun q => q R hRr (fun e he => ⟨fun z => ?_, fun z => ?_⟩)⟩
    · simp (disch := omega) only [e_hasVertex H ht, nI_inI, nI_clamp, one_eqz, WV_s W, bI_eq0, true_and, and_true, not_true_eq_false, not_false_eq_true, false_implies, true_implies, implies_true, forall_eq, false_and, and_false, or_false, false_or, or_true, true_or, iff_self, Classical.not_not, forall_const, ite_true, ite_false, reduceIte, eq_self]
      have hh := h V hf
      by_cases q : R t
      · rw [bI_t (hR.mp q)] at hh; rw [mb_n q]; exact hh
      · rw [bI_f (fun z => q (hR.mpr z))] at hh; rw [mb_o q]; exact hh
    · obtain ⟨i, h1, h2⟩ := (WV_im W _).mp z
      exact hcl i h1 e he _ (Or.inl ⟨h2.symm, rfl⟩)
    · obtain ⟨i, h1, h2⟩ := (WV_im W _).mp z
      exact hcl i h1 e he _ (Or.inr ⟨rfl, h2.symm⟩)
  have outer : ∀ f p (V : Mm) qn qu R, p + f = 20 → (∀ c, c < 40 ∨ 42 < c → V c = V0 c) → WV V n a b pr r qn qu R → R r → (∀ i, i < p → i < qn → ∀ e, pr e → ∀ x, jn a b e (qu i) x → R x) → wp_X4_leadsTo_L33 (nI t) post (fun (V10 : Mm) (x11 : Int32) => (wp_X3_hasVertex V10 (nI t) (fun (r13 : Int32) (V12 : Mm) => ((r13 = 0 → post 0 V12) ∧ (¬ r13 = 0 → (vp_in (nI t) 20 ∧ (((V12 41 (Int32.toNatClampNeg (nI t))) = 0 → post 0 V12) ∧ (¬ (V12 41 (Int32.toNatClampNeg (nI t))) = 0 → post 1 V12)))))))) (f + 1) V (nI p) := by
    intro f
    induction f with
    | zero =>
      intro p V qn qu R hp hf W hRr hcl
      have : p = 20 := by omega
      subst this
      have hq : qn ≤ n := by rw [← pig (WV_lt W) (WV_inj W)]; exact ct_le n
      rw [wp_X4_leadsTo_L33, mb_t (show (20 : Int32) ≤ nI 20 by decide)]
      exact fin V qn qu R hf W hRr (fun i hi => hcl i (by omega) hi)
    | succ f ih =>
      intro p V qn qu R hp hf W hRr hcl
      have H : GV V n k a b w pr := GV_fr H0 (hf 1 (by omega)) (hf 3 (by omega)) (hf 4 (by omega)) (hf 5 (by omega)) (hf 6 (by omega))
      have hq : qn ≤ n := by rw [← pig (WV_lt W) (WV_inj W)]; exact ct_le n
      rw [wp_X4_leadsTo_L33, mb_f (fun z => absurd ((nI_le20 (by omega)).mp z) (by omega)), WV_c W]
      by_cases hpq : qn ≤ p
      · rw [mb_t ((nI_leI (by omega) (by omega)).mpr hpq)]
        exact fin V qn qu R hf W hRr (fun i hi => hcl i (by omega) hi)
      · rw [mb_f (fun z => hpq ((nI_leI (by omega) (by omega)).mp z)), nI_clamp (by omega), WV_q W p (by omega)]
        refine ⟨nI_in (by omega) (by omega), s_visitAround H W (by omega) (fun V2 qn2 qu2 R2 hf2 W2 g1 g2 g3 g4 => ?_)⟩
        rw [nI_1]
        refine ih (p + 1) V2 qn2 qu2 R2 (by omega) (fun c hc => by rw [hf2 c hc, hf c hc]) W2 (g3 _ hRr) (fun i hi hi2 e he x hx => ?_)
        rcases lt_or_eq1 hi with z | z
        · rw [g2 i (by omega)] at hx; exact g3 x (hcl i z (by omega) e he x hx)
        · rw [z, g2 p (by omega)] at hx; exact g4 e he x hx
  have clear : ∀ (Va : Mm), ∀ f i (V' : Mm), i + f = 20 → (∀ c, c ≠ 41 → V' c = Va c) → (∀ e, e < i → V' 41 e = 0) → (∀ V' : Mm, (∀ c, c ≠ 41 → V' c = Va c) → (∀ e, e < 20 → V' 41 e = 0) → wp_X4_visit V' (nI r) (fun (V6 : Mm) => (∃ m33 : Nat, wp_X4_leadsTo_L33 (nI t) post (fun (V10 : Mm) (x11 : Int32) => (wp_X3_hasVertex V10 (nI t) (fun (r13 : Int32) (V12 : Mm) => ((r13 = 0 → post 0 V12) ∧ (¬ r13 = 0 → (vp_in (nI t) 20 ∧ (((V12 41 (Int32.toNatClampNeg (nI t))) = 0 → post 0 V12) ∧ (¬ (V12 41 (Int32.toNatClampNeg (nI t))) = 0 → post 1 V12)))))))) m33 (V6) (0)))) → wp_X4_leadsTo_L7 (nI r) (nI t) post (fun (V4 : Mm) (x5 : Int32) => (wp_X4_visit V4 (nI r) (fun (V6 : Mm) => (∃ m33 : Nat, wp_X4_leadsTo_L33 (nI t) post (fun (V10 : Mm) (x11 : Int32) => (wp_X3_hasVertex V10 (nI t) (fun (r13 : Int32) (V12 : Mm) => ((r13 = 0 → post 0 V12) ∧ (¬ r13 = 0 → (vp_in (nI t) 20 ∧ (((V12 41 (Int32.toNatClampNeg (nI t))) = 0 → post 0 V12) ∧ (¬ (V12 41 (Int32.toNatClampNeg (nI t))) = 0 → post 1 V12)))))))) m33 (V6) (0))))) (f + 1) V' (nI i) := by
    intro Va f
    induction f with
    | zero =>
      intro i V' hi hf hz hk
      have : i = 20 := by omega
      subst this
      rw [wp_X4_leadsTo_L7, mb_t (show (20 : Int32) ≤ nI 20 by decide)]
      exact hk V' hf hz
    | succ f ih =>
      intro i V' hi hf hz hk
      rw [wp_X4_leadsTo_L7, mb_f (fun z => absurd ((nI_le20 (by omega)).mp z) (by omega)), nI_clamp (by omega), forall_eq, nI_1]
      refine ⟨nI_in (by omega) (by omega), ih (i + 1) _ (by omega) (fun c hc => by rw [wr_ne _ _ _ hc, hf c hc]) (fun e he => ?_) hk⟩
      rw [wr_eq, upd_at]
      rcases lt_or_eq1 he with z | z
      · rw [if_neg (by omega), hz e z]
      · rw [if_pos z]
  unfold wp_X4_leadsTo
  rw [forall_eq]
  refine ⟨21, clear _ 20 0 _ (by omega) (fun _ _ => rfl) (fun e he => absurd he (Nat.not_lt_zero _)) (fun V1 hf1 hz1 => ?_)⟩
  have hf1' : ∀ c, c < 40 ∨ 42 < c → V1 c = V0 c := fun c hc => by rw [hf1 c (by omega), wr_ne _ _ _ (by omega)]
  have H1 : GV V1 n k a b w pr := GV_fr H0 (hf1' 1 (by omega)) (hf1' 3 (by omega)) (hf1' 4 (by omega)) (hf1' 5 (by omega)) (hf1' 6 (by omega))
  have W1 : WV V1 n a b pr r 0 id (fun _ => False) := ⟨by rw [hf1 40 (by decide), wr_eq, upd_eq]; rfl, fun i hi => absurd hi (Nat.not_lt_zero _), fun i hi => absurd hi (Nat.not_lt_zero _), fun v => ⟨False.elim, fun q => q.elim fun i q => absurd q.1 (Nat.not_lt_zero _)⟩, fun i j _ hj => absurd hj (Nat.not_lt_zero _), fun v hv => by rw [hz1 v hv, bI_f id], fun v hv => hv.elim⟩
  refine s_visit H1 W1 hr (cn_refl _ _) (fun V2 qn2 qu2 R2 hf2 W2 g1 g2 g3 g4 => ?_)
  exact ⟨21, outer 20 0 V2 qn2 qu2 R2 (by omega) (fun c hc => by rw [hf2 c hc, hf1' c hc]) W2 g4 (fun i hi => absurd hi (Nat.not_lt_zero _))⟩
end WALK
