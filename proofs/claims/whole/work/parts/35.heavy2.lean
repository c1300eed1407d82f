section HEAVY2
variable {n k : Nat} {a b w : Nat → Nat} {pr F S : Nat → Prop} {V V0 : Mm} {post : Int32 → Mm → Prop} {pos : Mm → Prop} {u v e d r p m i c : Nat} {x y : Int32}
variable {cnt : Nat} {ord par dep pe lp : Nat → Nat} {R : Nat → Prop}
theorem e_sizeBelow (H : GV V n k a b w pr) (hv : v < n) : wp_X5_sizeBelow V (nI v) post = post (V 44 v) V := by
  have := GV_n20 H
  unfold wp_X5_sizeBelow
  simp (disch := omega) only [e_hasVertex H hv, nI_add, nI_1, nI_neg, neg_nI, nI_lt0, nI_eq0, nI_lt20, nI_le20, nI_lt60, nI_le60, nI_inI, nI_clamp, nI_eq, nI_leI, nI_ltI, neg_ltz, neg_eqz, one_eqz, bI_eq0, bI_eq1, bI_nar1, true_and, and_true, not_true_eq_false, not_false_eq_true, false_implies, true_implies, implies_true, forall_eq, false_and, and_false, or_false, false_or, or_true, true_or, iff_self, Classical.not_not, forall_const, ite_true, ite_false, reduceIte, eq_self]
theorem e_sumBelow (H : GV V n k a b w pr) (hv : v < n) : wp_X5_sumBelow V (nI v) post = post (V 45 v) V := by
  have := GV_n20 H
  unfold wp_X5_sumBelow
  simp (disch := omega) only [e_hasVertex H hv, nI_add, nI_1, nI_neg, neg_nI, nI_lt0, nI_eq0, nI_lt20, nI_le20, nI_lt60, nI_le60, nI_inI, nI_clamp, nI_eq, nI_leI, nI_ltI, neg_ltz, neg_eqz, one_eqz, bI_eq0, bI_eq1, bI_nar1, true_and, and_true, not_true_eq_false, not_false_eq_true, false_implies, true_implies, implies_true, forall_eq, false_and, and_false, or_false, false_or, or_true, true_or, iff_self, Classical.not_not, forall_const, ite_true, ite_false, reduceIte, eq_self]
theorem e_heavyBelow (H : GV V n k a b w pr) (hv : v < n) : wp_X5_heavyBelow V (nI v) post = post (V 46 v) V := by
  have := GV_n20 H
  unfold wp_X5_heavyBelow
  simp (disch := omega) only [e_hasVertex H hv, nI_add, nI_1, nI_neg, neg_nI, nI_lt0, nI_eq0, nI_lt20, nI_le20, nI_lt60, nI_le60, nI_inI, nI_clamp, nI_eq, nI_leI, nI_ltI, neg_ltz, neg_eqz, one_eqz, bI_eq0, bI_eq1, bI_nar1, true_and, and_true, not_true_eq_false, not_false_eq_true, false_implies, true_implies, implies_true, forall_eq, false_and, and_false, or_false, false_or, or_true, true_or, iff_self, Classical.not_not, forall_const, ite_true, ite_false, reduceIte, eq_self]
theorem e_headOf (H : GV V n k a b w pr) (hv : v < n) : wp_X5_headOf V (nI v) post = post (V 47 v) V := by
  have := GV_n20 H
  unfold wp_X5_headOf
  simp (disch := omega) only [e_hasVertex H hv, nI_add, nI_1, nI_neg, neg_nI, nI_lt0, nI_eq0, nI_lt20, nI_le20, nI_lt60, nI_le60, nI_inI, nI_clamp, nI_eq, nI_leI, nI_ltI, neg_ltz, neg_eqz, one_eqz, bI_eq0, bI_eq1, bI_nar1, true_and, and_true, not_true_eq_false, not_false_eq_true, false_implies, true_implies, implies_true, forall_eq, false_and, and_false, or_false, false_or, or_true, true_or, iff_self, Classical.not_not, forall_const, ite_true, ite_false, reduceIte, eq_self]
theorem e_sumToHead (H : GV V n k a b w pr) (hv : v < n) : wp_X5_sumToHead V (nI v) post = post (V 48 v) V := by
  have := GV_n20 H
  unfold wp_X5_sumToHead
  simp (disch := omega) only [e_hasVertex H hv, nI_add, nI_1, nI_neg, neg_nI, nI_lt0, nI_eq0, nI_lt20, nI_le20, nI_lt60, nI_le60, nI_inI, nI_clamp, nI_eq, nI_leI, nI_ltI, neg_ltz, neg_eqz, one_eqz, bI_eq0, bI_eq1, bI_nar1, true_and, and_true, not_true_eq_false, not_false_eq_true, false_implies, true_implies, implies_true, forall_eq, false_and, and_false, or_false, false_or, or_true, true_or, iff_self, Classical.not_not, forall_const, ite_true, ite_false, reduceIte, eq_self]
theorem e_lightAbove (H : GV V n k a b w pr) (hv : v < n) : wp_X5_lightAbove V (nI v) post = post (V 49 v) V := by
  have := GV_n20 H
  unfold wp_X5_lightAbove
  simp (disch := omega) only [e_hasVertex H hv, nI_add, nI_1, nI_neg, neg_nI, nI_lt0, nI_eq0, nI_lt20, nI_le20, nI_lt60, nI_le60, nI_inI, nI_clamp, nI_eq, nI_leI, nI_ltI, neg_ltz, neg_eqz, one_eqz, bI_eq0, bI_eq1, bI_nar1, true_and, and_true, not_true_eq_false, not_false_eq_true, false_implies, true_implies, implies_true, forall_eq, false_and, and_false, or_false, false_or, or_true, true_or, iff_self, Classical.not_not, forall_const, ite_true, ite_false, reduceIte, eq_self]
theorem e_lightAboveN : wp_X5_lightAbove V (-1) post = post 0 V := by
  unfold wp_X5_lightAbove
  simp (disch := omega) only [e_hasVertexN, nI_add, nI_1, nI_neg, neg_nI, nI_lt0, nI_eq0, nI_lt20, nI_le20, nI_lt60, nI_le60, nI_inI, nI_clamp, nI_eq, nI_leI, nI_ltI, neg_ltz, neg_eqz, one_eqz, bI_eq0, bI_eq1, bI_nar1, true_and, and_true, not_true_eq_false, not_false_eq_true, false_implies, true_implies, implies_true, forall_eq, false_and, and_false, or_false, false_or, or_true, true_or, iff_self, Classical.not_not, forall_const, ite_true, ite_false, reduceIte, eq_self]
theorem TP_fr {V V' : Mm} (h : TP V w S r cnt ord par dep pe lp R) (h2 : V' 2 = V 2) (hf : ∀ c, 29 ≤ c ∧ c ≤ 34 → V' c = V c) : TP V' w S r cnt ord par dep pe lp R := by
  unfold TP; rw [h2, hf 29 (by omega), hf 30 (by omega), hf 31 (by omega), hf 32 (by omega), hf 33 (by omega), hf 34 (by omega)]; exact h
theorem TV_fr {V V' : Mm} (h : TV V n a b w S r cnt ord par dep pe lp R) (hf : ∀ c, c < 35 → V' c = V c) : TV V' n a b w S r cnt ord par dep pe lp R :=
  ⟨TV_rt h, TV_bf h, TP_fr (TV_tp h) (hf 2 (by omega)) (fun c hc => hf c (by omega))⟩
theorem GV_lo {V V' : Mm} (H : GV V n k a b w pr) (hf : ∀ c, c < 35 → V' c = V c) : GV V' n k a b w pr := GV_fr H (hf 1 (by omega)) (hf 3 (by omega)) (hf 4 (by omega)) (hf 5 (by omega)) (hf 6 (by omega))
theorem e_count7 : wp_X7_count V post = post (V 29 7) V := rfl
theorem e_isHeavierN : wp_X5_isHeavier V x (-1) post = post 1 V := by
  unfold wp_X5_isHeavier
  rw [mb_t rfl]
/-- what is handed up so far -/
def HU (V0 V : Mm) (n r : Nat) (par dep : Nat → Nat) (R D : Nat → Prop) : Prop := (∀ c, c < 44 ∨ 46 < c → V c = V0 c) ∧ (∀ v, R v → V 44 v = sm (pst R r par dep D v) (fun _ => 1) n) ∧ (∀ v, R v → V 45 v = sm (pst R r par dep D v) (V0 2) n) ∧ (∀ v, R v → hvD R r par (sz R par dep n) D v (V 46 v))
theorem HU_fr {V0 V : Mm} {n r : Nat} {par dep : Nat → Nat} {R D : Nat → Prop} (h : HU V0 V n r par dep R D) : ∀ c, c < 44 ∨ 46 < c → V c = V0 c := h.1
theorem HU_z {V0 V : Mm} {n r : Nat} {par dep : Nat → Nat} {R D : Nat → Prop} (h : HU V0 V n r par dep R D) : ∀ v, R v → V 44 v = sm (pst R r par dep D v) (fun _ => 1) n := h.2.1
theorem HU_s {V0 V : Mm} {n r : Nat} {par dep : Nat → Nat} {R D : Nat → Prop} (h : HU V0 V n r par dep R D) : ∀ v, R v → V 45 v = sm (pst R r par dep D v) (V0 2) n := h.2.2.1
theorem HU_h {V0 V : Mm} {n r : Nat} {par dep : Nat → Nat} {R D : Nat → Prop} (h : HU V0 V n r par dep R D) : ∀ v, R v → hvD R r par (sz R par dep n) D v (V 46 v) := h.2.2.2
theorem HU_sz (hr : rt a b S r R par dep pe) {D : Nat → Prop} (U : HU V0 V n r par dep R D) (hv : R v) (hD : ∀ c, chd R r par v c → D c) : V 44 v = nI (sz R par dep n v) := by
  rw [HU_z U v hv, sm_congr (q := bel R par dep v) (g' := fun _ => 1) (fun i _ => pst_all hr hD i) (fun _ _ _ => rfl), sm_one]; rfl
theorem sz_le : sz R par dep n v ≤ n := ct_le n
theorem s_handUp (H0 : GV V0 n k a b w pr) (T0 : TV V0 n a b w S r cnt ord par dep pe lp R) {D : Nat → Prop} (hc : R c) (U : HU V0 V n r par dep R D) (hn : ¬ D c) (hch : ∀ d, chd R r par c d → D d) (hDc : ∀ d, D d → ∀ t, chd R r par d t → D t) (hDR : ∀ d, D d → R d) (h : ∀ V' : Mm, HU V0 V' n r par dep R (fun y => D y ∨ y = c) → pos V') : wp_X5_handUp V (nI c) pos := by
  have h20 := GV_n20 H0
  have hf := HU_fr U
  have H : GV V n k a b w pr := GV_lo H0 (fun c hc => hf c (by omega))
  have T : TV V n a b w S r cnt ord par dep pe lp R := TV_fr T0 (fun c hc => hf c (by omega))
  have hcn := TV_lt T hc
  unfold wp_X5_handUp
  by_cases hr : c = r
  · rw [hr, e_aboveRr H T, e_hasVertex H (by rw [← hr]; exact hcn), mb_f (by decide), e_hasVertexN, mb_t rfl]
    have hno : ∀ v d, chd R r par v d → d ≠ c := fun v d hd q => hd.2.1 (by rw [q, hr])
    have hp : ∀ v x, pst R r par dep (fun y => D y ∨ y = c) v x ↔ pst R r par dep D v x := fun v x => ⟨fun q => ⟨q.1, q.2.elim Or.inl (fun ⟨d, h1, h2, h3⟩ => Or.inr ⟨d, h1.elim id (fun z => absurd z (hno v d h2)), h2, h3⟩)⟩, fun q => ⟨q.1, q.2.elim Or.inl (fun ⟨d, h1, h2, h3⟩ => Or.inr ⟨d, Or.inl h1, h2, h3⟩)⟩⟩
    refine h V ⟨hf, fun v hv => ?_, fun v hv => ?_, fun v hv => ?_⟩
    · rw [HU_z U v hv]; exact sm_congr (fun i _ => (hp v i).symm) (fun _ _ _ => rfl)
    · rw [HU_s U v hv]; exact sm_congr (fun i _ => (hp v i).symm) (fun _ _ _ => rfl)
    · rcases HU_h U v hv with ⟨h1, h2⟩ | ⟨d, h1, h2, h3, h4⟩
      · exact Or.inl ⟨h1, fun d hd q => q.elim (h2 d hd) (hno v d hd)⟩
      · exact Or.inr ⟨d, h1, Or.inl h2, h3, fun t ht q => h4 t ht (q.elim id (fun z => absurd z (hno v t ht)))⟩
  · obtain ⟨hp1, hp2, -⟩ := (TV_rt T).2.2.1 c hc hr
    have hpn := TV_lt T hp1
    have hcp : chd R r par (par c) c := ⟨hc, hr, rfl⟩
    have hne : c ≠ par c := fun q => by rw [← q] at hp2; omega
    have hzc : V 44 c = nI (sz R par dep n c) := HU_sz (TV_rt T) U hc hch
    have hsc : V 45 c = sm (bel R par dep c) (V0 2) n := by rw [HU_s U c hc]; exact sm_congr (fun i _ => pst_all (TV_rt T) hch i) (fun _ _ _ => rfl)
    rw [e_aboveR H T hc hr]
    simp (disch := omega) only [e_hasVertex H hcn, e_hasVertex H hpn, nI_inI, nI_clamp, one_eqz, true_and, and_true, not_true_eq_false, not_false_eq_true, false_implies, true_implies, implies_true, forall_eq, false_and, and_false, or_false, false_or, or_true, true_or, iff_self, Classical.not_not, forall_const, ite_true, ite_false, reduceIte, eq_self, wr_ne, ne_eq, Nat.reduceEqDiff]
    -- the new sizes and sums
    have nz : ∀ v, R v → wr (wr V 44 (par c) (V 44 (par c) + V 44 c)) 45 (par c) (V 45 (par c) + V 45 c) 44 v = sm (pst R r par dep (fun y => D y ∨ y = c) v) (fun _ => 1) n := fun v hv => by
      rw [wr_ne _ _ _ (by decide), wr_eq, upd_at]
      by_cases q : v = par c
      · rw [if_pos q, q, sm_or (p := pst R r par dep D (par c)) (q := bel R par dep c) (fun i _ => (pst_add (TV_rt T) hcp hn (fun _ => Iff.rfl) i).1) (fun i _ => (pst_add (TV_rt T) hcp hn (fun _ => Iff.rfl) i).2), HU_z U _ hp1, hzc, sm_one (p := bel R par dep c)]; rfl
      · rw [if_neg q, HU_z U v hv]; exact sm_congr (fun i _ => (pst_off hcp q (fun _ => Iff.rfl) i).symm) (fun _ _ _ => rfl)
    have ns : ∀ v, R v → wr (wr V 44 (par c) (V 44 (par c) + V 44 c)) 45 (par c) (V 45 (par c) + V 45 c) 45 v = sm (pst R r par dep (fun y => D y ∨ y = c) v) (V0 2) n := fun v hv => by
      rw [wr_eq, wr_ne _ _ _ (by decide), upd_at]
      by_cases q : v = par c
      · rw [if_pos q, q, sm_or (p := pst R r par dep D (par c)) (q := bel R par dep c) (fun i _ => (pst_add (TV_rt T) hcp hn (fun _ => Iff.rfl) i).1) (fun i _ => (pst_add (TV_rt T) hcp hn (fun _ => Iff.rfl) i).2), HU_s U _ hp1, hsc]
      · rw [if_neg q, HU_s U v hv]; exact sm_congr (fun i _ => (pst_off hcp q (fun _ => Iff.rfl) i).symm) (fun _ _ _ => rfl)
    have nf : ∀ c', c' < 44 ∨ 46 < c' → wr (wr V 44 (par c) (V 44 (par c) + V 44 c)) 45 (par c) (V 45 (par c) + V 45 c) c' = V0 c' := fun c' hc' => by
      rw [wr_ne _ _ _ (by omega), wr_ne _ _ _ (by omega), hf c' hc']
    have n46 : wr (wr V 44 (par c) (V 44 (par c) + V 44 c)) 45 (par c) (V 45 (par c) + V 45 c) 46 = V 46 := by rw [wr_ne _ _ _ (by omega), wr_ne _ _ _ (by omega)]
    have n44 : ∀ v, v ≠ par c → wr (wr V 44 (par c) (V 44 (par c) + V 44 c)) 45 (par c) (V 45 (par c) + V 45 c) 44 v = V 44 v := fun v hv => by rw [wr_ne _ _ _ (by omega), wr_eq, upd_ne _ _ hv]
    generalize wr (wr V 44 (par c) (V 44 (par c) + V 44 c)) 45 (par c) (V 45 (par c) + V 45 c) = V2 at *
    have H2 : GV V2 n k a b w pr := GV_lo H0 (fun c hc => nf c (by omega))
    have take : (∀ d, chd R r par (par c) d → D d → sz R par dep n d < sz R par dep n c ∨ (sz R par dep n d = sz R par dep n c ∧ c ≤ d)) → pos (wr V2 46 (par c) (nI c)) := fun hm => by
      refine h _ ⟨fun c' hc' => by rw [wr_ne _ _ _ (by omega), nf c' hc'], fun v hv => by rw [wr_ne _ _ _ (by decide), nz v hv], fun v hv => by rw [wr_ne _ _ _ (by decide), ns v hv], fun v hv => ?_⟩
      rw [wr_eq, upd_at, n46]
      by_cases q : v = par c
      · rw [if_pos q, q]
        exact Or.inr ⟨c, hcp, Or.inr rfl, rfl, fun d hd z => z.elim (hm d hd) (fun z => by rw [z]; exact Or.inr ⟨rfl, Nat.le_refl _⟩)⟩
      · rw [if_neg q]; exact hvD_off hcp q (fun _ => Iff.rfl) (HU_h U v hv)
    have keep : hvD R r par (sz R par dep n) (fun y => D y ∨ y = c) (par c) (V 46 (par c)) → pos V2 := fun hm => by
      refine h _ ⟨nf, nz, ns, fun v hv => ?_⟩
      rw [n46]
      by_cases q : v = par c
      · rw [q]; exact hm
      · exact hvD_off hcp q (fun _ => Iff.rfl) (HU_h U v hv)
    rcases HU_h U _ hp1 with ⟨g1, g2⟩ | ⟨d, g1, g2, g3, g4⟩
    · rw [g1, e_isHeavierN, mb_f (by decide)]
      exact take (fun d hd z => absurd z (g2 d hd))
    · have hdn := TV_lt T g1.1
      have hdp : d ≠ par c := fun q => by have := (chd_dep (TV_rt T) g1).2; rw [q] at this; omega
      have hzd : V 44 d = nI (sz R par dep n d) := HU_sz (TV_rt T) U g1.1 (hDc d g2)
      have l1 := sz_le (R := R) (par := par) (dep := dep) (n := n) (v := c)
      have l2 := sz_le (R := R) (par := par) (dep := dep) (n := n) (v := d)
      rw [g3]
      unfold wp_X5_isHeavier
      simp (disch := omega) only [e_sizeBelow H2 hcn, e_sizeBelow H2 hdn, n44 c hne, n44 d hdp, hzc, hzd, nI_neg, nI_leI, nI_eq, one_eqz, true_and, and_true, not_true_eq_false, not_false_eq_true, false_implies, true_implies, implies_true, forall_eq, false_and, and_false, or_false, false_or, or_true, true_or, iff_self, Classical.not_not, forall_const, ite_true, ite_false, reduceIte, eq_self]
      by_cases q1 : sz R par dep n c ≤ sz R par dep n d
      · rw [mb_t q1]
        by_cases q2 : sz R par dep n c = sz R par dep n d
        · rw [mb_t q2]
          by_cases q3 : d ≤ c
          · rw [mb_t q3]
            exact keep (by rw [g3]; exact Or.inr ⟨d, g1, Or.inl g2, rfl, fun t ht z => z.elim (g4 t ht) (fun z => by rw [z]; exact Or.inr ⟨q2, q3⟩)⟩)
          · rw [mb_f q3]
            exact take (fun t ht z => by have := g4 t ht z; omega)
        · rw [mb_f q2]
          exact keep (by rw [g3]; exact Or.inr ⟨d, g1, Or.inl g2, rfl, fun t ht z => z.elim (g4 t ht) (fun z => by rw [z]; omega)⟩)
      · rw [mb_f q1]
        exact take (fun t ht z => by have := g4 t ht z; omega)
/-- the heavy paths, built -/
def HB (V : Mm) (n r : Nat) (par dep : Nat → Nat) (R : Nat → Prop) : Prop := (∀ v, R v → V 44 v = nI (sz R par dep n v)) ∧ (∀ v, R v → V 45 v = sm (bel R par dep v) (V 2) n) ∧ (∀ v, R v → hvD R r par (sz R par dep n) (fun _ => True) v (V 46 v)) ∧ (∀ v, R v → V 47 v = nI (hdf (hvp R r par (sz R par dep n)) par (dep v) v)) ∧ (∀ v, R v → V 48 v = sth (hvp R r par (sz R par dep n)) par (V 2) (dep v) v) ∧ (∀ v, R v → V 49 v = nI (lg (hvp R r par (sz R par dep n)) par (dep v) v))
theorem HB_z {V : Mm} {n r : Nat} {par dep : Nat → Nat} {R : Nat → Prop} (h : HB V n r par dep R) : ∀ v, R v → V 44 v = nI (sz R par dep n v) := h.1
theorem HB_s {V : Mm} {n r : Nat} {par dep : Nat → Nat} {R : Nat → Prop} (h : HB V n r par dep R) : ∀ v, R v → V 45 v = sm (bel R par dep v) (V 2) n := h.2.1
theorem HB_h {V : Mm} {n r : Nat} {par dep : Nat → Nat} {R : Nat → Prop} (h : HB V n r par dep R) : ∀ v, R v → hvD R r par (sz R par dep n) (fun _ => True) v (V 46 v) := h.2.2.1
theorem HB_d {V : Mm} {n r : Nat} {par dep : Nat → Nat} {R : Nat → Prop} (h : HB V n r par dep R) : ∀ v, R v → V 47 v = nI (hdf (hvp R r par (sz R par dep n)) par (dep v) v) := h.2.2.2.1
theorem HB_t {V : Mm} {n r : Nat} {par dep : Nat → Nat} {R : Nat → Prop} (h : HB V n r par dep R) : ∀ v, R v → V 48 v = sth (hvp R r par (sz R par dep n)) par (V 2) (dep v) v := h.2.2.2.2.1
theorem HB_l {V : Mm} {n r : Nat} {par dep : Nat → Nat} {R : Nat → Prop} (h : HB V n r par dep R) : ∀ v, R v → V 49 v = nI (lg (hvp R r par (sz R par dep n)) par (dep v) v) := h.2.2.2.2.2
theorem s_followDown (H : GV V n k a b w pr) (T : TV V n a b w S r cnt ord par dep pe lp R) (hv : R v) (h46 : ∀ v, R v → hvD R r par (sz R par dep n) (fun _ => True) v (V 46 v))
    (hd : v ≠ r → V 47 (par v) = nI (hdf (hvp R r par (sz R par dep n)) par (dep (par v)) (par v))) (ht : v ≠ r → V 48 (par v) = sth (hvp R r par (sz R par dep n)) par (V 2) (dep (par v)) (par v)) (hl : v ≠ r → V 49 (par v) = nI (lg (hvp R r par (sz R par dep n)) par (dep (par v)) (par v)))
    (h : ∀ V' : Mm, (∀ c, c < 47 ∨ 49 < c → V' c = V c) → V' 47 = upd (V 47) v (nI (hdf (hvp R r par (sz R par dep n)) par (dep v) v)) → V' 48 = upd (V 48) v (sth (hvp R r par (sz R par dep n)) par (V 2) (dep v) v) → V' 49 = upd (V 49) v (nI (lg (hvp R r par (sz R par dep n)) par (dep v) v)) → pos V') : wp_X5_followDown V (nI v) pos := by
  have h20 := GV_n20 H
  have hvn := TV_lt T hv
  unfold wp_X5_followDown
  rw [e_hasVertex H hvn, mb_f (by decide)]
  have G1 : ∀ x, GV (wr V 47 v x) n k a b w pr := fun x => GV_wr H (by decide)
  have G2 : ∀ x y, GV (wr (wr V 47 v x) 48 v y) n k a b w pr := fun x y => GV_wr (G1 x) (by decide)
  by_cases hr : v = r
  · have e0 := e_aboveRr H T (post := fun r5 V4 => True)
    rw [hr, e_aboveRr H T, mb_t rfl, mb_t rfl]
    rw [← hr]
    simp (disch := omega) only [nI_inI, nI_clamp, e_valueOf (G1 _) hvn, e_lightAboveN, true_and, and_true, not_true_eq_false, not_false_eq_true, false_implies, true_implies, implies_true, forall_eq, false_and, and_false, or_false, false_or, or_true, true_or, iff_self, Classical.not_not, forall_const, ite_true, ite_false, reduceIte, eq_self, wr_ne, Int32.add_zero]
    have hd0 : dep v = 0 := by rw [hr]; exact (TV_rt T).2.1
    refine h _ (fun c hc => ?_) ?_ ?_ ?_
    · rw [wr_ne _ _ _ (by omega), wr_ne _ _ _ (by omega), wr_ne _ _ _ (by omega)]
    · rw [wr_ne _ _ _ (by decide), wr_ne _ _ _ (by decide), wr_eq, hd0]; rfl
    · rw [wr_ne _ _ _ (by decide), wr_eq, wr_ne _ _ _ (by decide), hd0]; rfl
    · rw [wr_eq, wr_ne _ _ _ (by decide), wr_ne _ _ _ (by decide), hd0]; rfl
  · obtain ⟨hp1, hp2, -⟩ := (TV_rt T).2.2.1 v hv hr
    have hpn := TV_lt T hp1
    have hlg := lg_le (H := hvp R r par (sz R par dep n)) (par := par) (dep (par v)) (par v)
    have hpd := TV_d T hp1
    rw [e_aboveR H T hv hr, mb_f (fun z => (nI_neg (by omega)).mp z), e_heavyBelow H hpn]
    have his := hvD_is (fun x hx => by have := TV_lt T hx; omega) hv hr (h46 _ hp1)
    have F1 : ∀ (x y z : Int32), (∀ c, c < 47 ∨ 49 < c → wr (wr (wr V 47 v x) 48 v y) 49 v z c = V c) ∧ wr (wr (wr V 47 v x) 48 v y) 49 v z 47 = upd (V 47) v x ∧ wr (wr (wr V 47 v x) 48 v y) 49 v z 48 = upd (V 48) v y ∧ wr (wr (wr V 47 v x) 48 v y) 49 v z 49 = upd (V 49) v z := fun x y z =>
      ⟨fun c hc => by rw [wr_ne _ _ _ (by omega), wr_ne _ _ _ (by omega), wr_ne _ _ _ (by omega)], by rw [wr_ne _ _ _ (by decide), wr_ne _ _ _ (by decide), wr_eq], by rw [wr_ne _ _ _ (by decide), wr_eq, wr_ne _ _ _ (by decide)], by rw [wr_eq, wr_ne _ _ _ (by decide), wr_ne _ _ _ (by decide)]⟩
    by_cases hh : hvp R r par (sz R par dep n) v
    · rw [his.mpr hh, mb_t rfl, mb_f (fun z => (nI_neg (by omega)).mp z)]
      simp (disch := omega) only [e_headOf H hpn, nI_inI, nI_clamp, e_valueOf (G1 _) hvn, e_sumToHead (G1 _) hpn, e_lightAbove (G2 _ _) hpn, true_and, and_true, not_true_eq_false, not_false_eq_true, false_implies, true_implies, implies_true, forall_eq, false_and, and_false, or_false, false_or, or_true, true_or, iff_self, Classical.not_not, forall_const, ite_true, ite_false, reduceIte, eq_self, wr_ne, hd hr, ht hr, hl hr, Int32.add_zero]
      obtain ⟨f1, f2, f3, f4⟩ := F1 (nI (hdf (hvp R r par (sz R par dep n)) par (dep (par v)) (par v))) (V 2 v + sth (hvp R r par (sz R par dep n)) par (V 2) (dep (par v)) (par v)) (nI (lg (hvp R r par (sz R par dep n)) par (dep (par v)) (par v)))
      refine h _ f1 (by rw [f2, hp2, hdf_y hh]) (by rw [f3, hp2, sth_y hh]) (by rw [f4, hp2, lg_y hh])
    · rw [mb_f (fun z => hh (his.mp z)), mb_f (fun z => (nI_neg (by omega)).mp z)]
      simp (disch := omega) only [nI_inI, nI_clamp, e_valueOf (G1 _) hvn, e_lightAbove (G2 _ _) hpn, true_and, and_true, not_true_eq_false, not_false_eq_true, false_implies, true_implies, implies_true, forall_eq, false_and, and_false, or_false, false_or, or_true, true_or, iff_self, Classical.not_not, forall_const, ite_true, ite_false, reduceIte, eq_self, wr_ne, hd hr, ht hr, hl hr, Int32.add_zero, nI_1]
      obtain ⟨f1, f2, f3, f4⟩ := F1 (nI v) (V 2 v) (nI (lg (hvp R r par (sz R par dep n)) par (dep (par v)) (par v) + 1))
      refine h _ f1 (by rw [f2, hp2, hdf_n hh]) (by rw [f3, hp2, sth_n hh]) (by rw [f4, hp2, lg_n hh])
theorem s_build5 (H0 : GV V0 n k a b w pr) (T0 : TV V0 n a b w S r cnt ord par dep pe lp R) (h : ∀ V' : Mm, (∀ c, c < 44 ∨ 49 < c → V' c = V0 c) → HB V' n r par dep R → pos V') : wp_X5_build V0 pos := by
  have h20 := GV_n20 H0
  have hb := TV_bf T0
  have hcn := BF_le hb
  have hc0 := (BF_o0 hb).1
  have idx : ∀ v, R v → ∃ i, i < cnt ∧ ord i = v := fun v hv => (BF_im hb v).mp hv
  -- a child stands after its parent
  have aft : ∀ i v, chd R r par (ord i) v → i < cnt → ∃ j, i < j ∧ j < cnt ∧ ord j = v := fun i v hv hi => by
    obtain ⟨j, h1, h2⟩ := idx v hv.1
    have hd := (chd_dep (TV_rt T0) hv).2
    rcases Nat.lt_or_ge i j with q | q
    · exact ⟨j, q, h1, h2⟩
    · have := BF_mo hb j i q hi
      rw [h2] at this; omega
  have loop3 : ∀ (V1 : Mm), (∀ c, c < 44 ∨ 46 < c → V1 c = V0 c) → (∀ v, R v → V1 44 v = nI (sz R par dep n v)) → (∀ v, R v → V1 45 v = sm (bel R par dep v) (V0 2) n) → (∀ v, R v → hvD R r par (sz R par dep n) (fun _ => True) v (V1 46 v)) → ∀ f i (V : Mm), i + f = cnt → (∀ c, c < 47 ∨ 49 < c → V c = V1 c) → (∀ j, j < i → V 47 (ord j) = nI (hdf (hvp R r par (sz R par dep n)) par (dep (ord j)) (ord j)) ∧ V 48 (ord j) = sth (hvp R r par (sz R par dep n)) par (V0 2) (dep (ord j)) (ord j) ∧ V 49 (ord j) = nI (lg (hvp R r par (sz R par dep n)) par (dep (ord j)) (ord j))) → wp_X5_build_L76 pos (fun (V23 : Mm) (x24 : Int32) => pos V23) (f + 1) V (nI i) := by
    intro V1 hf1 hz1 hs1 hh1 f
    induction f with
    | zero =>
      intro i V hi hf hj
      have : i = cnt := by omega
      subst this
      have T : TV V n a b w S r i ord par dep pe lp R := TV_fr T0 (fun c hc => by rw [hf c (by omega), hf1 c (by omega)])
      rw [wp_X5_build_L76, e_count7, TP_c (TV_tp T), mb_t (Int32.le_refl _)]
      have h2 : V 2 = V0 2 := by rw [hf 2 (by omega), hf1 2 (by omega)]
      refine h V (fun c hc => by rw [hf c (by omega), hf1 c (by omega)]) ⟨fun v hv => by rw [hf 44 (by omega), hz1 v hv], fun v hv => by rw [hf 45 (by omega), h2, hs1 v hv], fun v hv => by rw [hf 46 (by omega)]; exact hh1 v hv, fun v hv => ?_, fun v hv => ?_, fun v hv => ?_⟩ <;> obtain ⟨j, j1, j2⟩ := idx v hv <;> obtain ⟨q1, q2, q3⟩ := hj j j1
      · rw [← j2, q1]
      · rw [← j2, q2, h2]
      · rw [← j2, q3]
    | succ f ih =>
      intro i V hi hf hj
      have hic : i < cnt := by omega
      have T : TV V n a b w S r cnt ord par dep pe lp R := TV_fr T0 (fun c hc => by rw [hf c (by omega), hf1 c (by omega)])
      have H : GV V n k a b w pr := GV_lo H0 (fun c hc => by rw [hf c (by omega), hf1 c (by omega)])
      have h2 : V 2 = V0 2 := by rw [hf 2 (by omega), hf1 2 (by omega)]
      rw [wp_X5_build_L76, e_count7, TP_c (TV_tp T), mb_f (fun z => absurd ((nI_leI (by omega) (by omega)).mp z) (by omega)), e_vertexAt H T hic]
      have hRi := BF_Ro hb hic
      -- the parent's index lies before
      have hpi : ord i ≠ r → ∃ j, j < i ∧ ord j = par (ord i) := fun hr => by
        obtain ⟨g1, g2, -⟩ := (TV_rt T).2.2.1 _ hRi hr
        obtain ⟨j, j1, j2⟩ := idx _ g1
        obtain ⟨m, m1, m2, m3⟩ := aft j (ord i) ⟨hRi, hr, j2.symm⟩ j1
        rcases Nat.lt_trichotomy m i with q | q | q
        · exact absurd m3 (BF_inj hb m i q hic)
        · exact ⟨j, by omega, j2⟩
        · exact absurd m3.symm (BF_inj hb i m q m2)
      refine s_followDown H T hRi (fun v hv => by rw [hf 46 (by omega)]; exact hh1 v hv) (fun hr => ?_) (fun hr => ?_) (fun hr => ?_) (fun V2 hf2 h47 h48 h49 => ?_)
      · obtain ⟨j, j1, j2⟩ := hpi hr; rw [← j2]; exact (hj j j1).1
      · obtain ⟨j, j1, j2⟩ := hpi hr; rw [← j2, h2]; exact (hj j j1).2.1
      · obtain ⟨j, j1, j2⟩ := hpi hr; rw [← j2]; exact (hj j j1).2.2
      · rw [nI_1]
        refine ih (i + 1) V2 (by omega) (fun c hc => by rw [hf2 c hc, hf c hc]) (fun j hj2 => ?_)
        rcases lt_or_eq1 hj2 with q | q
        · have hne := BF_inj hb j i q hic
          rw [h47, h48, h49, upd_ne _ _ hne, upd_ne _ _ hne, upd_ne _ _ hne]
          exact hj j q
        · rw [q, h47, h48, h49, upd_eq, upd_eq, upd_eq, h2]
          exact ⟨rfl, rfl, rfl⟩
  have loop2 : ∀ i (V : Mm), i ≤ cnt → HU V0 V n r par dep R (fun v => ∃ j, i ≤ j ∧ j < cnt ∧ ord j = v) → wp_X5_build_L52 pos (fun (V15 : Mm) (x16 : Int32) => (∃ m76 : Nat, wp_X5_build_L76 pos (fun (V23 : Mm) (x24 : Int32) => pos V23) m76 (V15) (0))) (i + 1) V (nI i - 1) := by
    intro i
    induction i with
    | zero =>
      intro V hi U
      rw [wp_X5_build_L52, mb_t (show nI 0 - 1 < 0 by decide)]
      have hall : ∀ v c, chd R r par v c → ∃ j, 0 ≤ j ∧ j < cnt ∧ ord j = c := fun v c hc => by
        obtain ⟨j, j1, j2⟩ := idx c hc.1
        exact ⟨j, by omega, j1, j2⟩
      refine ⟨cnt + 1, loop3 V (HU_fr U) (fun v hv => HU_sz (TV_rt T0) U hv (hall v)) (fun v hv => ?_) (fun v hv => ?_) cnt 0 V (by omega) (fun _ _ => rfl) (fun j hj => absurd hj (Nat.not_lt_zero _))⟩
      · rw [HU_s U v hv]; exact sm_congr (fun x _ => pst_all (TV_rt T0) (hall v) x) (fun _ _ _ => rfl)
      · rcases HU_h U v hv with ⟨q1, q2⟩ | ⟨c, q1, q2, q3, q4⟩
        · exact Or.inl ⟨q1, fun c hc _ => q2 c hc (hall v c hc)⟩
        · exact Or.inr ⟨c, q1, trivial, q3, fun d hd _ => q4 d hd (hall v d hd)⟩
    | succ i ih =>
      intro V hi U
      have hic : i < cnt := by omega
      have T : TV V n a b w S r cnt ord par dep pe lp R := TV_fr T0 (fun c hc => HU_fr U c (by omega))
      have H : GV V n k a b w pr := GV_lo H0 (fun c hc => HU_fr U c (by omega))
      rw [nI_pred, wp_X5_build_L52, mb_f (nI_pos (by omega)), e_vertexAt H T hic]
      have chs : ∀ j, i ≤ j → j < cnt → ∀ d, chd R r par (ord j) d → ∃ m, i + 1 ≤ m ∧ m < cnt ∧ ord m = d := fun j h1 h2 d hd => by
        obtain ⟨m, m1, m2, m3⟩ := aft j d hd h2
        exact ⟨m, by omega, m2, m3⟩
      refine s_handUp H0 T0 (BF_Ro hb hic) U (fun ⟨j, h1, h2, h3⟩ => BF_inj hb i j (by omega) h2 h3.symm) (chs i (Nat.le_refl _) hic) (fun d ⟨j, h1, h2, h3⟩ t ht => chs j (by omega) h2 t (by rw [h3]; exact ht)) (fun d ⟨j, h1, h2, h3⟩ => by rw [← h3]; exact BF_Ro hb h2) (fun V2 U2 => ?_)
      have e1 : (-1 : Int32) = -(1 : Int32) := rfl
      rw [e1, ← Int32.sub_eq_add_neg]
      refine ih V2 (by omega) ?_
      have e2 : (fun v => ∃ j, i ≤ j ∧ j < cnt ∧ ord j = v) = (fun y => (∃ j, i + 1 ≤ j ∧ j < cnt ∧ ord j = y) ∨ y = ord i) := funext fun v => propext ⟨fun ⟨j, h1, h2, h3⟩ => by
        rcases Nat.lt_or_ge i j with q | q
        · exact Or.inl ⟨j, q, h2, h3⟩
        · right; rw [← h3, show j = i by omega], fun q => q.elim (fun ⟨j, h1, h2, h3⟩ => ⟨j, by omega, h2, h3⟩) (fun z => ⟨i, Nat.le_refl _, hic, z.symm⟩)⟩
      rw [e2]; exact U2
  have loop1 : ∀ f i (V : Mm), i + f = 20 → (∀ c, c < 44 ∨ 46 < c → V c = V0 c) → (∀ v, v < i → V 44 v = 1 ∧ (v < n → V 45 v = V0 2 v) ∧ V 46 v = -1) → wp_X5_build_L2 pos (fun (V7 : Mm) (x8 : Int32) => (wp_X7_count V7 (fun (r10 : Int32) (V9 : Mm) => (∃ m52 : Nat, wp_X5_build_L52 pos (fun (V15 : Mm) (x16 : Int32) => (∃ m76 : Nat, wp_X5_build_L76 pos (fun (V23 : Mm) (x24 : Int32) => pos V23) m76 (V15) (0))) m52 (V9) ((r10 - 1)))))) (f + 1) V (nI i) := by
    intro f
    induction f with
    | zero =>
      intro i V hi hf hv
      have : i = 20 := by omega
      subst this
      rw [wp_X5_build_L2, mb_t (show (20 : Int32) ≤ nI 20 by decide)]
      rw [e_count7, hf 29 (by omega), TP_c (TV_tp T0)]
      have hno : ∀ v c, chd R r par v c → ¬ ∃ j, cnt ≤ j ∧ j < cnt ∧ ord j = c := fun v c _ ⟨j, h1, h2, _⟩ => by omega
      refine ⟨cnt + 1, loop2 cnt V (Nat.le_refl _) ⟨hf, fun v hv2 => ?_, fun v hv2 => ?_, fun v hv2 => ?_⟩⟩
      · have hvn := TV_lt T0 hv2
        rw [(hv v (by omega)).1, sm_congr (q := fun x => x = v) (g' := fun _ => 1) (fun x _ => pst_none hv2 (hno v) x) (fun _ _ _ => rfl), sm_single hvn]
      · have hvn := TV_lt T0 hv2
        rw [(hv v (by omega)).2.1 hvn, sm_congr (q := fun x => x = v) (g' := V0 2) (fun x _ => pst_none hv2 (hno v) x) (fun _ _ _ => rfl), sm_single hvn]
      · have hvn := TV_lt T0 hv2
        exact Or.inl ⟨(hv v (by omega)).2.2, hno v⟩
    | succ f ih =>
      intro i V hi hf hv
      have H1 : ∀ x, GV (wr V 44 i x) n k a b w pr := fun x => GV_wr (GV_lo H0 (fun c hc => hf c (by omega))) (by decide)
      rw [wp_X5_build_L2, mb_f (fun z => absurd ((nI_le20 (by omega)).mp z) (by omega)), nI_clamp (by omega), forall_eq]
      refine ⟨nI_in (by omega) (by omega), ?_⟩
      have go : ∀ x, (i < n → x = V0 2 i) → (vp_in (nI i) 20 ∧ ∀ V5 : Mm, V5 = wr (wr V 44 i 1) 45 i x → (vp_in (nI i) 20 ∧ ∀ V6 : Mm, V6 = wr V5 46 i (-1) → wp_X5_build_L2 pos (fun (V7 : Mm) (x8 : Int32) => (wp_X7_count V7 (fun (r10 : Int32) (V9 : Mm) => (∃ m52 : Nat, wp_X5_build_L52 pos (fun (V15 : Mm) (x16 : Int32) => (∃ m76 : Nat, wp_X5_build_L76 pos (fun (V23 : Mm) (x24 : Int32) => pos V23) m76 (V15) (0))) m52 (V9) ((r10 - 1)))))) (f + 1) V6 (nI i + 1))) := by
        intro x hx
        refine ⟨nI_in (by omega) (by omega), ?_⟩
        rw [forall_eq, forall_eq, nI_1]
        refine ⟨nI_in (by omega) (by omega), ih (i + 1) _ (by omega) (fun c hc => by rw [wr_ne _ _ _ (by omega), wr_ne _ _ _ (by omega), wr_ne _ _ _ (by omega), hf c hc]) (fun v hv2 => ?_)⟩
        rw [wr_ne _ _ _ (show 44 ≠ 46 by decide), wr_ne _ _ _ (show 44 ≠ 45 by decide), wr_eq, wr_ne _ _ _ (show 45 ≠ 46 by decide), wr_eq, wr_ne _ _ _ (show 45 ≠ 44 by decide), wr_eq, wr_ne _ _ _ (show 46 ≠ 45 by decide), wr_ne _ _ _ (show 46 ≠ 44 by decide), upd_at, upd_at, upd_at]
        rcases lt_or_eq1 hv2 with q | q
        · rw [if_neg (by omega), if_neg (by omega), if_neg (by omega)]; exact hv v q
        · rw [if_pos q, if_pos q, if_pos q, q]; exact ⟨rfl, hx, rfl⟩
      by_cases hin : i < n
      · rw [e_valueOf (H1 _) hin]
        exact go _ (fun _ => by rw [wr_ne _ _ _ (by decide), hf 2 (by omega)])
      · rw [e_valueOfO (H1 _) (by omega) (by omega)]
        exact go 0 (fun z => absurd z hin)
  unfold wp_X5_build
  exact ⟨21, loop1 20 0 V0 (by omega) (fun _ _ => rfl) (fun v hv => absurd hv (Nat.not_lt_zero _))⟩
theorem s_sumToRoot (H : GV V n k a b w pr) (T : TV V n a b w S r cnt ord par dep pe lp R) (B : HB V n r par dep R) (hv : R v) (h : post (ps (V 2) par (dep v) v) V) : wp_X5_sumToRoot V (nI v) post := by
  have h20 := GV_n20 H
  have fin : ∀ f i, i ≤ 20 → wp_X5_sumToRoot_L7 post (fun (V9 : Mm) (x10 : Int32) (x11 : Int32) (x12 : Int32) => post x10 V9) (f + 1) V (ps (V 2) par (dep v) v) (-1) (nI i) := fun f i _ => by
    rw [wp_X5_sumToRoot_L7]
    exact ⟨fun _ => h, fun _ => ⟨fun _ => h, fun z => absurd rfl z⟩⟩
  have key : ∀ f i x u, R u → dep u < f → i + f ≤ 20 → x + ps (V 2) par (dep u) u = ps (V 2) par (dep v) v → wp_X5_sumToRoot_L7 post (fun (V9 : Mm) (x10 : Int32) (x11 : Int32) (x12 : Int32) => post x10 V9) (f + 1) V x (nI u) (nI i) := by
    intro f
    induction f with
    | zero => intro i x u hu hd; omega
    | succ f ih =>
      intro i x u hu hd hi hx
      have hun := TV_lt T hu
      obtain ⟨g1, g2⟩ := hdf_R (H := hvp R r par (sz R par dep n)) (TV_rt T) u hu
      have g3 := TV_lt T g1
      rw [wp_X5_sumToRoot_L7]
      simp (disch := omega) only [e_sumToHead H hun, e_headOf H hun, nI_add, nI_1, nI_neg, neg_nI, nI_lt0, nI_eq0, nI_lt20, nI_le20, nI_lt60, nI_le60, nI_inI, nI_clamp, nI_eq, nI_leI, nI_ltI, neg_ltz, neg_eqz, one_eqz, bI_eq0, bI_eq1, bI_nar1, show ¬ 20 ≤ i by omega, true_and, and_true, not_true_eq_false, not_false_eq_true, false_implies, true_implies, implies_true, forall_eq, false_and, and_false, or_false, false_or, or_true, true_or, iff_self, Classical.not_not, forall_const, ite_true, ite_false, reduceIte, eq_self, HB_d B u hu, HB_t B u hu]
      obtain ⟨s1, s2⟩ := sth_ps (H := hvp R r par (sz R par dep n)) (g := V 2) (TV_rt T) u hu
      by_cases hr : hdf (hvp R r par (sz R par dep n)) par (dep u) u = r
      · rw [hr, e_aboveRr H T, s1 hr, hx]
        exact fin f (i + 1) (by omega)
      · obtain ⟨p1, p2, -⟩ := (TV_rt T).2.2.1 _ g1 hr
        rw [e_aboveR H T g1 hr]
        exact ih (i + 1) _ _ p1 (by omega) (by omega) (by rw [Int32.add_assoc, s2 hr]; exact hx)
  have := TV_d T hv
  exact ⟨21, key 20 0 0 v hv (by omega) (by omega) (Int32.zero_add _)⟩
theorem s_countPaths (H : GV V n k a b w pr) (T : TV V n a b w S r cnt ord par dep pe lp R) (B : HB V n r par dep R) (h : post (nI (ct (fun v => R v ∧ (v = r ∨ ¬ hvp R r par (sz R par dep n) v)) n)) V) : wp_X5_countPaths V post := by
  have h20 := GV_n20 H
  have hb := TV_bf T
  have hcn := BF_le hb
  have hct : ct (fun v => R v ∧ (v = r ∨ ¬ hvp R r par (sz R par dep n) v)) n = ct (fun i => ord i = r ∨ ¬ hvp R r par (sz R par dep n) (ord i)) cnt := by
    rw [← ct_im (p := fun v => v = r ∨ ¬ hvp R r par (sz R par dep n) v) (BF_lt hb) (BF_inj hb)]
    exact ct_congr (fun v _ => by rw [BF_im hb v])
  rw [hct] at h
  have key : ∀ f i, i + f = cnt → wp_X5_countPaths_L4 post (fun (V9 : Mm) (x10 : Int32) (x11 : Int32) => post x10 V9) (f + 1) V (nI (ct (fun i => ord i = r ∨ ¬ hvp R r par (sz R par dep n) (ord i)) i)) (nI i) := by
    intro f
    induction f with
    | zero =>
      intro i hi
      have : i = cnt := by omega
      subst this
      rw [wp_X5_countPaths_L4, e_count7, TP_c (TV_tp T), mb_t (Int32.le_refl _)]
      exact h
    | succ f ih =>
      intro i hi
      have hic : i < cnt := by omega
      have hRi := BF_Ro hb hic
      obtain ⟨g1, g2⟩ := hdf_R (H := hvp R r par (sz R par dep n)) (TV_rt T) _ hRi
      have g3 := TV_lt T g1
      have g4 := TV_lt T hRi
      have ih := ih (i + 1) (by omega)
      rw [wp_X5_countPaths_L4, e_count7]
      simp (disch := omega) only [TP_c (TV_tp T), nI_leI, show ¬ cnt ≤ i by omega, e_vertexAt H T hic, e_headOf H g4, HB_d B _ hRi, nI_eq, nI_1, hdf_self (TV_rt T) hRi, true_and, and_true, not_true_eq_false, not_false_eq_true, false_implies, true_implies, implies_true, forall_eq, false_and, and_false, or_false, false_or, or_true, true_or, iff_self, Classical.not_not, forall_const, ite_true, ite_false, reduceIte, eq_self]
      by_cases q : ord i = r ∨ ¬ hvp R r par (sz R par dep n) (ord i)
      · rw [mb_t q]; rw [ct_y q] at ih; exact ih
      · rw [mb_f q]; rw [ct_n q] at ih; exact ih
  exact ⟨cnt + 1, key cnt 0 (by omega)⟩
end HEAVY2
