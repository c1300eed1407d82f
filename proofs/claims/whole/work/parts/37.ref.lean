section REF
def RG (V : Mm) (n k : Nat) (a b w : Nat → Nat) (pr : Nat → Prop) : Prop := (n ≤ 20) ∧ (k ≤ 60) ∧ (V 57 9 = nI n) ∧ (V 57 10 = nI k) ∧ (∀ e, e < k → V 59 e = nI (a e)) ∧ (∀ e, e < k → V 60 e = nI (b e)) ∧ (∀ e, e < k → V 61 e = nI (w e)) ∧ (∀ e, e < k → V 64 e = bI (pr e)) ∧ (∀ e, e < k → a e < n) ∧ (∀ e, e < k → b e < n) ∧ (∀ e, e < k → a e ≠ b e) ∧ (∀ e, e < k → 1 ≤ w e ∧ w e ≤ 99) ∧ (∀ e, pr e → e < k)
theorem RG_n20 {V : Mm} {n k : Nat} {a b w : Nat → Nat} {pr : Nat → Prop} (h : RG V n k a b w pr) : n ≤ 20 := h.1
theorem RG_k60 {V : Mm} {n k : Nat} {a b w : Nat → Nat} {pr : Nat → Prop} (h : RG V n k a b w pr) : k ≤ 60 := h.2.1
theorem RG_n {V : Mm} {n k : Nat} {a b w : Nat → Nat} {pr : Nat → Prop} (h : RG V n k a b w pr) : V 57 9 = nI n := h.2.2.1
theorem RG_k {V : Mm} {n k : Nat} {a b w : Nat → Nat} {pr : Nat → Prop} (h : RG V n k a b w pr) : V 57 10 = nI k := h.2.2.2.1
theorem RG_a {V : Mm} {n k : Nat} {a b w : Nat → Nat} {pr : Nat → Prop} (h : RG V n k a b w pr) : ∀ e, e < k → V 59 e = nI (a e) := h.2.2.2.2.1
theorem RG_b {V : Mm} {n k : Nat} {a b w : Nat → Nat} {pr : Nat → Prop} (h : RG V n k a b w pr) : ∀ e, e < k → V 60 e = nI (b e) := h.2.2.2.2.2.1
theorem RG_w {V : Mm} {n k : Nat} {a b w : Nat → Nat} {pr : Nat → Prop} (h : RG V n k a b w pr) : ∀ e, e < k → V 61 e = nI (w e) := h.2.2.2.2.2.2.1
theorem RG_p {V : Mm} {n k : Nat} {a b w : Nat → Nat} {pr : Nat → Prop} (h : RG V n k a b w pr) : ∀ e, e < k → V 64 e = bI (pr e) := h.2.2.2.2.2.2.2.1
theorem RG_an {V : Mm} {n k : Nat} {a b w : Nat → Nat} {pr : Nat → Prop} (h : RG V n k a b w pr) : ∀ e, e < k → a e < n := h.2.2.2.2.2.2.2.2.1
theorem RG_bn {V : Mm} {n k : Nat} {a b w : Nat → Nat} {pr : Nat → Prop} (h : RG V n k a b w pr) : ∀ e, e < k → b e < n := h.2.2.2.2.2.2.2.2.2.1
theorem RG_ab {V : Mm} {n k : Nat} {a b w : Nat → Nat} {pr : Nat → Prop} (h : RG V n k a b w pr) : ∀ e, e < k → a e ≠ b e := h.2.2.2.2.2.2.2.2.2.2.1
theorem RG_w1 {V : Mm} {n k : Nat} {a b w : Nat → Nat} {pr : Nat → Prop} (h : RG V n k a b w pr) : ∀ e, e < k → 1 ≤ w e ∧ w e ≤ 99 := h.2.2.2.2.2.2.2.2.2.2.2.1
theorem RG_pk {V : Mm} {n k : Nat} {a b w : Nat → Nat} {pr : Nat → Prop} (h : RG V n k a b w pr) : ∀ e, pr e → e < k := h.2.2.2.2.2.2.2.2.2.2.2.2
variable {n k : Nat} {a b w K : Nat → Nat} {pr F Q C : Nat → Prop} {V V0 V' : Mm} {post : Int32 → Mm → Prop} {pos : Mm → Prop} {u v e f p m i q : Nat} {ms x y : Int32} {so gr : Nat → Nat}
theorem RG_fr (H : RG V n k a b w pr) (h1 : V' 57 9 = V 57 9) (h2 : V' 57 10 = V 57 10) (h3 : V' 59 = V 59) (h4 : V' 60 = V 60) (h5 : V' 61 = V 61) (h6 : V' 64 = V 64) : RG V' n k a b w pr := by
  unfold RG; rw [h1, h2, h3, h4, h5, h6]; exact H
theorem RG_wr {c j : Nat} (H : RG V n k a b w pr) (hc : c ≠ 57 ∧ c ≠ 59 ∧ c ≠ 60 ∧ c ≠ 61 ∧ c ≠ 64) : RG (wr V c j x) n k a b w pr :=
  RG_fr H (by rw [wr_ne _ _ _ (Ne.symm hc.1)]) (by rw [wr_ne _ _ _ (Ne.symm hc.1)]) (wr_ne _ _ _ (Ne.symm hc.2.1)) (wr_ne _ _ _ (Ne.symm hc.2.2.1)) (wr_ne _ _ _ (Ne.symm hc.2.2.2.1)) (wr_ne _ _ _ (Ne.symm hc.2.2.2.2))
theorem RG_wr57 {j : Nat} (H : RG V n k a b w pr) (hj : j ≠ 9 ∧ j ≠ 10) : RG (wr V 57 j x) n k a b w pr :=
  RG_fr H (by rw [wr_eq, upd_ne _ _ (Ne.symm hj.1)]) (by rw [wr_eq, upd_ne _ _ (Ne.symm hj.2)]) (wr_ne _ _ _ (by decide)) (wr_ne _ _ _ (by decide)) (wr_ne _ _ _ (by decide)) (wr_ne _ _ _ (by decide))
theorem f_bet {m : Nat} (hv : v < m) (hm : m < 2 ^ 31) : wp_X9_isBetween V (nI v) 0 (nI m - 1) post = post 1 V := by
  unfold wp_X9_isBetween
  rw [mb_f (nI_pos (by omega)), nI_sub1 (by omega), mb_f (fun z => absurd ((nI_ltI (by omega) (by omega)).mp z) (by omega))]
theorem f_betX {m : Nat} (hm : m < 2 ^ 31) (h : x < 0 ∨ (¬ x < 0 ∧ nI m ≤ x)) : wp_X9_isBetween V x 0 (nI m - 1) post = post 0 V := by
  unfold wp_X9_isBetween
  rcases h with h | ⟨h, h2⟩
  · rw [mb_t h]
  · rw [mb_f h]
    obtain ⟨v, hv, rfl⟩ := nI_of h
    have hmv := (nI_leI hm hv).mp h2
    by_cases q : m = 0
    · subst q
      rw [mb_t]
      rw [Int32.lt_iff_toInt_lt, nI_toInt hv]
      have : (nI 0 - 1).toInt = -1 := by decide
      omega
    · rw [nI_sub1 (by omega), mb_t ((nI_ltI (by omega) hv).mpr (by omega))]
theorem f_isVertex (H : RG V n k a b w pr) (hv : v < n) : wp_X9_isVertex V (nI v) post = post 1 V := by
  have := RG_n20 H
  unfold wp_X9_isVertex
  rw [RG_n H, f_bet hv (by omega)]
  simp only [show narrow .boolean (.int 1) = .int 1 by decide, true_and]
theorem f_isVertexX (H : RG V n k a b w pr) (h : x < 0 ∨ (¬ x < 0 ∧ nI n ≤ x)) : wp_X9_isVertex V x post = post 0 V := by
  have := RG_n20 H
  unfold wp_X9_isVertex
  rw [RG_n H, f_betX (by omega) h]
  simp only [show narrow .boolean (.int 0) = .int 0 by decide, true_and]
theorem f_isEdge (H : RG V n k a b w pr) (hv : v < k) : wp_X9_isEdge V (nI v) post = post 1 V := by
  have := RG_k60 H
  unfold wp_X9_isEdge
  rw [RG_k H, f_bet hv (by omega)]
  simp only [show narrow .boolean (.int 1) = .int 1 by decide, true_and]
theorem f_isEdgeX (H : RG V n k a b w pr) (h : x < 0 ∨ (¬ x < 0 ∧ nI k ≤ x)) : wp_X9_isEdge V x post = post 0 V := by
  have := RG_k60 H
  unfold wp_X9_isEdge
  rw [RG_k H, f_betX (by omega) h]
  simp only [show narrow .boolean (.int 0) = .int 0 by decide, true_and]
theorem f_comesBefore (H : RG V n k a b w pr) (he : e < k) (hf : f < k) : wp_X9_comesBefore V (nI e) (nI f) post = post (bI (ky w e < ky w f)) V := by
  have := RG_k60 H
  have := RG_w1 H e he
  have := RG_w1 H f hf
  unfold wp_X9_comesBefore
  simp (disch := omega) only [nI_add, nI_1, nI_neg, neg_nI, nI_lt0, nI_eq0, nI_lt20, nI_le20, nI_lt60, nI_le60, nI_inI, nI_clamp, nI_eq, nI_leI, nI_ltI, neg_ltz, neg_eqz, one_eqz, bI_eq0, bI_eq1, bI_nar1, true_and, and_true, not_true_eq_false, not_false_eq_true, false_implies, true_implies, implies_true, forall_eq, false_and, and_false, or_false, false_or, or_true, true_or, iff_self, Classical.not_not, forall_const, ite_true, ite_false, reduceIte, eq_self, RG_w H]
  by_cases h : w e = w f
  · rw [mb_t h]
    by_cases h2 : f ≤ e
    · rw [mb_t h2, bI_f]; rw [ky_lt (by omega) (by omega)]; omega
    · rw [mb_f h2, bI_t]; rw [ky_lt (by omega) (by omega)]; omega
  · rw [mb_f h]
    by_cases h2 : w f ≤ w e
    · rw [mb_t h2, bI_f]; rw [ky_lt (by omega) (by omega)]; omega
    · rw [mb_f h2, bI_t]; rw [ky_lt (by omega) (by omega)]; omega
theorem f_joins (H : RG V n k a b w pr) (he : e < k) (hu : u < n) (hv : v < n) : wp_X9_joins V (nI e) (nI u) (nI v) post = post (bI (jn a b e u v)) V := by
  have := RG_k60 H
  have := RG_n20 H
  have := RG_an H e he
  have := RG_bn H e he
  have hab := RG_ab H e he
  unfold wp_X9_joins
  simp (disch := omega) only [nI_add, nI_1, nI_neg, neg_nI, nI_lt0, nI_eq0, nI_lt20, nI_le20, nI_lt60, nI_le60, nI_inI, nI_clamp, nI_eq, nI_leI, nI_ltI, neg_ltz, neg_eqz, one_eqz, bI_eq0, bI_eq1, bI_nar1, true_and, and_true, not_true_eq_false, not_false_eq_true, false_implies, true_implies, implies_true, forall_eq, false_and, and_false, or_false, false_or, or_true, true_or, iff_self, Classical.not_not, forall_const, ite_true, ite_false, reduceIte, eq_self, RG_a H, RG_b H]
  by_cases h1 : a e = u <;> by_cases h2 : b e = v <;> by_cases h3 : a e = v <;> by_cases h4 : b e = u <;> simp only [h1, h2, h3, h4, true_and, and_true, not_true_eq_false, not_false_eq_true, false_implies, true_implies, implies_true, forall_eq, false_and, and_false, or_false, false_or, or_true, true_or, iff_self, Classical.not_not, forall_const, ite_true, ite_false, reduceIte, eq_self, bI, jn] <;> simp [*] at *
theorem f_sortIn (H : RG V n k a b w pr) (hm : m < k) (hs : ∀ i, i < m → V 62 i = nI (so i)) (ho : SO (ky w) m so (fun g => g < m)) (h : ∀ (V' : Mm) so', (∀ c, c ≠ 62 → V' c = V c) → (∀ i, i < m + 1 → V' 62 i = nI (so' i)) → SO (ky w) (m + 1) so' (fun g => g < m + 1) → pos V') {kx : Mm → Prop} :
    wp_X9_sorts_L12 (nI m) kx (fun (V7 : Mm) (x8 : Int32) => (vp_in x8 60 ∧ ∀ V9 : Mm, V9 = wr V7 62 (Int32.toNatClampNeg (x8)) (nI m) → pos V9)) (m + 1) V (nI m) := by
  have h60 := RG_k60 H
  have hso : ∀ i, i < m → so i < k := fun i hi => by have := (SO_im ho (so i)).mpr ⟨i, hi, rfl⟩; omega
  have fin : ∀ p (V' : Mm), p ≤ m → (∀ c, c ≠ 62 → V' c = V c) → (∀ i, i < p → V' 62 i = nI (so i)) → (∀ i, p < i → i ≤ m → V' 62 i = nI (so (i - 1))) → (∀ i, p ≤ i → i < m → ky w m < ky w (so i)) → (p = 0 ∨ ¬ ky w m < ky w (so (p - 1))) → (vp_in (nI p) 60 ∧ ∀ V9 : Mm, V9 = wr V' 62 (Int32.toNatClampNeg (nI p)) (nI m) → pos V9) := by
    intro p V' hp hf h1 h2 h3 h4
    simp (disch := omega) only [nI_add, nI_1, nI_neg, neg_nI, nI_lt0, nI_eq0, nI_lt20, nI_le20, nI_lt60, nI_le60, nI_inI, nI_clamp, nI_eq, nI_leI, nI_ltI, neg_ltz, neg_eqz, one_eqz, bI_eq0, bI_eq1, bI_nar1, true_and, and_true, not_true_eq_false, not_false_eq_true, false_implies, true_implies, implies_true, forall_eq, false_and, and_false, or_false, false_or, or_true, true_or, iff_self, Classical.not_not, forall_const, ite_true, ite_false, reduceIte, eq_self]
    refine h _ (insl so p m) (fun c hc => by rw [wr_ne _ _ _ hc, hf c hc]) (fun i hi => ?_) (SO_cg (SO_ins ho hp (SO_bef ho hp (Nat.lt_irrefl _) (fun g hg q => ky_inj (by omega) (by omega) q) h4) h3) (fun g => ⟨fun q => by omega, fun q => by omega⟩))
    rw [wr_eq, upd_at]
    rcases Nat.lt_trichotomy i p with z | z | z
    · rw [if_neg (by omega), insl_lt z, h1 i z]
    · rw [if_pos z, z, insl_eq]
    · rw [if_neg (by omega), insl_gt z, h2 i z (by omega)]
  have key : ∀ p (V' : Mm), p ≤ m → (∀ c, c ≠ 62 → V' c = V c) → (∀ i, i < p → V' 62 i = nI (so i)) → (∀ i, p < i → i ≤ m → V' 62 i = nI (so (i - 1))) → (∀ i, p ≤ i → i < m → ky w m < ky w (so i)) → wp_X9_sorts_L12 (nI m) kx (fun (V7 : Mm) (x8 : Int32) => (vp_in x8 60 ∧ ∀ V9 : Mm, V9 = wr V7 62 (Int32.toNatClampNeg (x8)) (nI m) → pos V9)) (p + 1) V' (nI p) := by
    intro p
    induction p with
    | zero =>
      intro V' hp hf h1 h2 h3
      rw [wp_X9_sorts_L12, mb_t (show nI 0 ≤ 0 by decide)]
      exact fin 0 V' hp hf h1 h2 h3 (Or.inl rfl)
    | succ p ih =>
      intro V' hp hf h1 h2 h3
      have H' : RG V' n k a b w pr := RG_fr H (by rw [hf 57 (by omega)]) (by rw [hf 57 (by omega)]) (hf 59 (by omega)) (hf 60 (by omega)) (hf 61 (by omega)) (hf 64 (by omega))
      rw [wp_X9_sorts_L12, mb_f (show ¬ nI (p + 1) ≤ 0 from nI_nle (by omega) (by omega)), nI_pred, nI_clamp (by omega), h1 p (by omega), f_comesBefore H' hm (hso p (by omega))]
      refine ⟨nI_in (by omega) (by omega), ?_⟩
      by_cases hK : ky w m < ky w (so p)
      · rw [bI_t hK, mb_f (by decide)]
        refine ⟨nI_in (by omega) (by omega), nI_in (by omega) (by omega), ?_⟩
        rw [forall_eq, nI_clamp (by omega), show (-1 : Int32) = -(1 : Int32) from rfl, ← Int32.sub_eq_add_neg, nI_pred]
        refine ih _ (by omega) (fun c hc => by rw [wr_ne _ _ _ hc, hf c hc]) (fun i hi => ?_) (fun i hi1 hi2 => ?_) (fun i hi1 hi2 => ?_)
        · rw [wr_eq, upd_ne _ _ (by omega), h1 i (by omega)]
        · rw [wr_eq, upd_at]
          rcases Nat.lt_or_ge (p + 1) i with z | z
          · rw [if_neg (by omega), h2 i z hi2]
          · rw [show i = p + 1 by omega, if_pos rfl]; exact h1 p (by omega)
        · rcases Nat.lt_or_ge p i with z | z
          · exact h3 i (by omega) hi2
          · rw [show i = p by omega]; exact hK
      · rw [bI_f hK, mb_t rfl]
        exact fin (p + 1) V' hp hf h1 h2 h3 (Or.inr hK)
  exact key m V (Nat.le_refl _) (fun _ _ => rfl) hs (fun i h1 h2 => by omega) (fun i h1 h2 => by omega)
theorem f_sorts (H0 : RG V0 n k a b w pr) (h : ∀ (V' : Mm) so, (∀ c, c ≠ 62 → V' c = V0 c) → (∀ i, i < k → V' 62 i = nI (so i)) → SO (ky w) k so (fun g => g < k) → pos V') : wp_X9_sorts V0 pos := by
  have h60 := RG_k60 H0
  have key : ∀ f m (V : Mm) so, m + f = k → (∀ c, c ≠ 62 → V c = V0 c) → (∀ i, i < m → V 62 i = nI (so i)) → SO (ky w) m so (fun g => g < m) → wp_X9_sorts_L2 pos (fun (V10 : Mm) (x11 : Int32) => pos V10) (f + 1) V (nI m) := by
    intro f
    induction f with
    | zero =>
      intro m V so hm hf hs ho
      have : m = k := by omega
      subst this
      rw [wp_X9_sorts_L2, hf 57 (by decide), RG_k H0, mb_t (Int32.le_refl _)]
      exact h V so hf hs ho
    | succ f ih =>
      intro m V so hm hf hs ho
      have H : RG V n k a b w pr := RG_fr H0 (by rw [hf 57 (by omega)]) (by rw [hf 57 (by omega)]) (hf 59 (by omega)) (hf 60 (by omega)) (hf 61 (by omega)) (hf 64 (by omega))
      rw [wp_X9_sorts_L2, RG_k H, mb_f (fun z => absurd ((nI_leI (by omega) (by omega)).mp z) (by omega)), nI_1]
      refine ⟨m + 1, f_sortIn H (by omega) hs ho (pos := fun V9 => wp_X9_sorts_L2 pos (fun (V10 : Mm) (x11 : Int32) => pos V10) (f + 1) V9 (nI (m + 1))) (fun V' so' hf' hs' ho' => ih (m + 1) V' so' (by omega) (fun c hc => by rw [hf' c hc, hf c hc]) hs' ho')⟩
  exact ⟨k + 1, key k 0 V0 id (by omega) (fun _ _ => rfl) (fun i hi => absurd hi (Nat.not_lt_zero _)) (SO_cg SO_0 (fun g => ⟨False.elim, fun q => absurd q (Nat.not_lt_zero _)⟩))⟩
end REF
