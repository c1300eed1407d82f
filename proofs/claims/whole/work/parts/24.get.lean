section GET
def GV (V : Mm) (n k : Nat) (a b w : Nat → Nat) (pr : Nat → Prop) : Prop := (n ≤ 20) ∧ (k ≤ 60) ∧ (V 1 5 = nI n) ∧ (V 1 6 = nI k) ∧ (∀ e, e < k → V 3 e = nI (a e)) ∧ (∀ e, e < k → V 4 e = nI (b e)) ∧ (∀ e, e < k → V 5 e = nI (w e)) ∧ (∀ e, e < k → V 6 e = bI (pr e)) ∧ (∀ e, e < k → a e < n) ∧ (∀ e, e < k → b e < n) ∧ (∀ e, e < k → a e ≠ b e) ∧ (∀ e, e < k → 1 ≤ w e ∧ w e ≤ 99) ∧ (∀ e, pr e → e < k)
theorem GV_n20 {V : Mm} {n k : Nat} {a b w : Nat → Nat} {pr : Nat → Prop} (h : GV V n k a b w pr) : n ≤ 20 := h.1
theorem GV_k60 {V : Mm} {n k : Nat} {a b w : Nat → Nat} {pr : Nat → Prop} (h : GV V n k a b w pr) : k ≤ 60 := h.2.1
theorem GV_n {V : Mm} {n k : Nat} {a b w : Nat → Nat} {pr : Nat → Prop} (h : GV V n k a b w pr) : V 1 5 = nI n := h.2.2.1
theorem GV_k {V : Mm} {n k : Nat} {a b w : Nat → Nat} {pr : Nat → Prop} (h : GV V n k a b w pr) : V 1 6 = nI k := h.2.2.2.1
theorem GV_a {V : Mm} {n k : Nat} {a b w : Nat → Nat} {pr : Nat → Prop} (h : GV V n k a b w pr) : ∀ e, e < k → V 3 e = nI (a e) := h.2.2.2.2.1
theorem GV_b {V : Mm} {n k : Nat} {a b w : Nat → Nat} {pr : Nat → Prop} (h : GV V n k a b w pr) : ∀ e, e < k → V 4 e = nI (b e) := h.2.2.2.2.2.1
theorem GV_w {V : Mm} {n k : Nat} {a b w : Nat → Nat} {pr : Nat → Prop} (h : GV V n k a b w pr) : ∀ e, e < k → V 5 e = nI (w e) := h.2.2.2.2.2.2.1
theorem GV_p {V : Mm} {n k : Nat} {a b w : Nat → Nat} {pr : Nat → Prop} (h : GV V n k a b w pr) : ∀ e, e < k → V 6 e = bI (pr e) := h.2.2.2.2.2.2.2.1
theorem GV_an {V : Mm} {n k : Nat} {a b w : Nat → Nat} {pr : Nat → Prop} (h : GV V n k a b w pr) : ∀ e, e < k → a e < n := h.2.2.2.2.2.2.2.2.1
theorem GV_bn {V : Mm} {n k : Nat} {a b w : Nat → Nat} {pr : Nat → Prop} (h : GV V n k a b w pr) : ∀ e, e < k → b e < n := h.2.2.2.2.2.2.2.2.2.1
theorem GV_ab {V : Mm} {n k : Nat} {a b w : Nat → Nat} {pr : Nat → Prop} (h : GV V n k a b w pr) : ∀ e, e < k → a e ≠ b e := h.2.2.2.2.2.2.2.2.2.2.1
theorem GV_w1 {V : Mm} {n k : Nat} {a b w : Nat → Nat} {pr : Nat → Prop} (h : GV V n k a b w pr) : ∀ e, e < k → 1 ≤ w e ∧ w e ≤ 99 := h.2.2.2.2.2.2.2.2.2.2.2.1
theorem GV_pk {V : Mm} {n k : Nat} {a b w : Nat → Nat} {pr : Nat → Prop} (h : GV V n k a b w pr) : ∀ e, pr e → e < k := h.2.2.2.2.2.2.2.2.2.2.2.2
variable {n k : Nat} {a b w : Nat → Nat} {pr : Nat → Prop} {V : Mm} {post : Int32 → Mm → Prop} {pos : Mm → Prop} {u v e f : Nat}
theorem GV_fr {V V' : Mm} (h : GV V n k a b w pr) (h1 : V' 1 = V 1) (h3 : V' 3 = V 3) (h4 : V' 4 = V 4) (h5 : V' 5 = V 5) (h6 : V' 6 = V 6) : GV V' n k a b w pr := by
  unfold GV; rw [h1, h3, h4, h5, h6]; exact h
theorem GV_wr {V : Mm} (h : GV V n k a b w pr) {c j : Nat} {x : Int32} (hc : c ≠ 1 ∧ c ≠ 3 ∧ c ≠ 4 ∧ c ≠ 5 ∧ c ≠ 6) : GV (wr V c j x) n k a b w pr :=
  GV_fr h (wr_ne V j x (Ne.symm hc.1)) (wr_ne V j x (Ne.symm hc.2.1)) (wr_ne V j x (Ne.symm hc.2.2.1)) (wr_ne V j x (Ne.symm hc.2.2.2.1)) (wr_ne V j x (Ne.symm hc.2.2.2.2))
def jn (a b : Nat → Nat) (e u v : Nat) : Prop := (a e = u ∧ b e = v) ∨ (a e = v ∧ b e = u)
theorem jn_sw {a b : Nat → Nat} {e u v : Nat} : jn a b e u v ↔ jn a b e v u := Or.comm
def ky (w : Nat → Nat) (e : Nat) : Nat := w e * 64 + e
theorem ky_inj {w : Nat → Nat} {e f : Nat} (he : e < 60) (hf : f < 60) (h : ky w e = ky w f) : e = f := by unfold ky at h; omega
theorem ky_lt {w : Nat → Nat} {e f : Nat} (he : e < 60) (hf : f < 60) : ky w e < ky w f ↔ (w e = w f ∧ e < f) ∨ w e < w f := by unfold ky; omega
theorem e_hasVertex (H : GV V n k a b w pr) (hv : v < n) : wp_X3_hasVertex V (nI v) post = post 1 V := by
  have := GV_n20 H
  unfold wp_X3_hasVertex
  simp (disch := omega) only [GV_n H, nI_add, nI_1, nI_neg, neg_nI, nI_lt0, nI_eq0, nI_lt20, nI_le20, nI_lt60, nI_le60, nI_inI, nI_clamp, nI_eq, nI_leI, nI_ltI, neg_ltz, neg_eqz, one_eqz, bI_eq0, bI_eq1, bI_nar1, true_and, and_true, not_true_eq_false, not_false_eq_true, false_implies, true_implies, implies_true, forall_eq, false_and, and_false, or_false, false_or, or_true, true_or, iff_self, Classical.not_not, forall_const, ite_true, ite_false, reduceIte, eq_self, show ¬ n ≤ v by omega]
theorem e_hasVertexO (H : GV V n k a b w pr) (hv : n ≤ v) (h : v < 2 ^ 31) : wp_X3_hasVertex V (nI v) post = post 0 V := by
  have := GV_n20 H
  unfold wp_X3_hasVertex
  simp (disch := omega) only [GV_n H, nI_add, nI_1, nI_neg, neg_nI, nI_lt0, nI_eq0, nI_lt20, nI_le20, nI_lt60, nI_le60, nI_inI, nI_clamp, nI_eq, nI_leI, nI_ltI, neg_ltz, neg_eqz, one_eqz, bI_eq0, bI_eq1, bI_nar1, true_and, and_true, not_true_eq_false, not_false_eq_true, false_implies, true_implies, implies_true, forall_eq, false_and, and_false, or_false, false_or, or_true, true_or, iff_self, Classical.not_not, forall_const, ite_true, ite_false, reduceIte, eq_self, hv]
theorem e_hasVertexN : wp_X3_hasVertex V (-1) post = post 0 V := by
  unfold wp_X3_hasVertex
  simp (disch := omega) only [nI_add, nI_1, nI_neg, neg_nI, nI_lt0, nI_eq0, nI_lt20, nI_le20, nI_lt60, nI_le60, nI_inI, nI_clamp, nI_eq, nI_leI, nI_ltI, neg_ltz, neg_eqz, one_eqz, bI_eq0, bI_eq1, bI_nar1, true_and, and_true, not_true_eq_false, not_false_eq_true, false_implies, true_implies, implies_true, forall_eq, false_and, and_false, or_false, false_or, or_true, true_or, iff_self, Classical.not_not, forall_const, ite_true, ite_false, reduceIte, eq_self]
theorem iv_cases (x : Int32) (n : Nat) (hn : n < 2 ^ 31) : (∃ v, v < n ∧ x = nI v) ∨ (x < 0 ∨ (¬ x < 0 ∧ nI n ≤ x)) := by
  by_cases h : x < 0
  · exact Or.inr (Or.inl h)
  · obtain ⟨v, hv, rfl⟩ := nI_of h
    by_cases h2 : v < n
    · exact Or.inl ⟨v, h2, rfl⟩
    · exact Or.inr (Or.inr ⟨h, (nI_leI hn hv).mpr (by omega)⟩)
theorem e_hasVertexX {x : Int32} (H : GV V n k a b w pr) (h : x < 0 ∨ (¬ x < 0 ∧ nI n ≤ x)) : wp_X3_hasVertex V x post = post 0 V := by
  unfold wp_X3_hasVertex
  rcases h with h | ⟨h, h2⟩
  · rw [mb_t h]
  · rw [mb_f h, GV_n H, mb_t h2]
theorem e_hasEdge (H : GV V n k a b w pr) (hv : e < k) : wp_X3_hasEdge V (nI e) post = post 1 V := by
  have := GV_k60 H
  unfold wp_X3_hasEdge
  simp (disch := omega) only [GV_k H, nI_add, nI_1, nI_neg, neg_nI, nI_lt0, nI_eq0, nI_lt20, nI_le20, nI_lt60, nI_le60, nI_inI, nI_clamp, nI_eq, nI_leI, nI_ltI, neg_ltz, neg_eqz, one_eqz, bI_eq0, bI_eq1, bI_nar1, true_and, and_true, not_true_eq_false, not_false_eq_true, false_implies, true_implies, implies_true, forall_eq, false_and, and_false, or_false, false_or, or_true, true_or, iff_self, Classical.not_not, forall_const, ite_true, ite_false, reduceIte, eq_self, show ¬ k ≤ e by omega]
theorem e_hasEdgeN : wp_X3_hasEdge V (-1) post = post 0 V := by
  unfold wp_X3_hasEdge
  simp (disch := omega) only [nI_add, nI_1, nI_neg, neg_nI, nI_lt0, nI_eq0, nI_lt20, nI_le20, nI_lt60, nI_le60, nI_inI, nI_clamp, nI_eq, nI_leI, nI_ltI, neg_ltz, neg_eqz, one_eqz, bI_eq0, bI_eq1, bI_nar1, true_and, and_true, not_true_eq_false, not_false_eq_true, false_implies, true_implies, implies_true, forall_eq, false_and, and_false, or_false, false_or, or_true, true_or, iff_self, Classical.not_not, forall_const, ite_true, ite_false, reduceIte, eq_self]
theorem e_hasEdgeO (H : GV V n k a b w pr) (hv : k ≤ e) (h : e < 2 ^ 31) : wp_X3_hasEdge V (nI e) post = post 0 V := by
  have := GV_k60 H
  unfold wp_X3_hasEdge
  simp (disch := omega) only [GV_k H, nI_add, nI_1, nI_neg, neg_nI, nI_lt0, nI_eq0, nI_lt20, nI_le20, nI_lt60, nI_le60, nI_inI, nI_clamp, nI_eq, nI_leI, nI_ltI, neg_ltz, neg_eqz, one_eqz, bI_eq0, bI_eq1, bI_nar1, true_and, and_true, not_true_eq_false, not_false_eq_true, false_implies, true_implies, implies_true, forall_eq, false_and, and_false, or_false, false_or, or_true, true_or, iff_self, Classical.not_not, forall_const, ite_true, ite_false, reduceIte, eq_self, hv]
theorem e_hasEdgeX {x : Int32} (H : GV V n k a b w pr) (h : x < 0 ∨ (¬ x < 0 ∧ nI k ≤ x)) : wp_X3_hasEdge V x post = post 0 V := by
  unfold wp_X3_hasEdge
  rcases h with h | ⟨h, h2⟩
  · rw [mb_t h]
  · rw [mb_f h, GV_k H, mb_t h2]
theorem e_firstEnd (H : GV V n k a b w pr) (he : e < k) : wp_X3_firstEnd V (nI e) post = post (nI (a e)) V := by
  have := GV_k60 H
  unfold wp_X3_firstEnd
  simp (disch := omega) only [e_hasEdge H he, nI_add, nI_1, nI_neg, neg_nI, nI_lt0, nI_eq0, nI_lt20, nI_le20, nI_lt60, nI_le60, nI_inI, nI_clamp, nI_eq, nI_leI, nI_ltI, neg_ltz, neg_eqz, one_eqz, bI_eq0, bI_eq1, bI_nar1, true_and, and_true, not_true_eq_false, not_false_eq_true, false_implies, true_implies, implies_true, forall_eq, false_and, and_false, or_false, false_or, or_true, true_or, iff_self, Classical.not_not, forall_const, ite_true, ite_false, reduceIte, eq_self, GV_a H]
theorem e_secondEnd (H : GV V n k a b w pr) (he : e < k) : wp_X3_secondEnd V (nI e) post = post (nI (b e)) V := by
  have := GV_k60 H
  unfold wp_X3_secondEnd
  simp (disch := omega) only [e_hasEdge H he, nI_add, nI_1, nI_neg, neg_nI, nI_lt0, nI_eq0, nI_lt20, nI_le20, nI_lt60, nI_le60, nI_inI, nI_clamp, nI_eq, nI_leI, nI_ltI, neg_ltz, neg_eqz, one_eqz, bI_eq0, bI_eq1, bI_nar1, true_and, and_true, not_true_eq_false, not_false_eq_true, false_implies, true_implies, implies_true, forall_eq, false_and, and_false, or_false, false_or, or_true, true_or, iff_self, Classical.not_not, forall_const, ite_true, ite_false, reduceIte, eq_self, GV_b H]
theorem e_weightOf (H : GV V n k a b w pr) (he : e < k) : wp_X3_weightOf V (nI e) post = post (nI (w e)) V := by
  have := GV_k60 H
  unfold wp_X3_weightOf
  simp (disch := omega) only [e_hasEdge H he, nI_add, nI_1, nI_neg, neg_nI, nI_lt0, nI_eq0, nI_lt20, nI_le20, nI_lt60, nI_le60, nI_inI, nI_clamp, nI_eq, nI_leI, nI_ltI, neg_ltz, neg_eqz, one_eqz, bI_eq0, bI_eq1, bI_nar1, true_and, and_true, not_true_eq_false, not_false_eq_true, false_implies, true_implies, implies_true, forall_eq, false_and, and_false, or_false, false_or, or_true, true_or, iff_self, Classical.not_not, forall_const, ite_true, ite_false, reduceIte, eq_self, GV_w H]
theorem e_valueOf (H : GV V n k a b w pr) (hv : v < n) : wp_X3_valueOf V (nI v) post = post (V 2 v) V := by
  have := GV_n20 H
  unfold wp_X3_valueOf
  simp (disch := omega) only [e_hasVertex H hv, nI_add, nI_1, nI_neg, neg_nI, nI_lt0, nI_eq0, nI_lt20, nI_le20, nI_lt60, nI_le60, nI_inI, nI_clamp, nI_eq, nI_leI, nI_ltI, neg_ltz, neg_eqz, one_eqz, bI_eq0, bI_eq1, bI_nar1, true_and, and_true, not_true_eq_false, not_false_eq_true, false_implies, true_implies, implies_true, forall_eq, false_and, and_false, or_false, false_or, or_true, true_or, iff_self, Classical.not_not, forall_const, ite_true, ite_false, reduceIte, eq_self]
theorem e_valueOfO (H : GV V n k a b w pr) (hv : n ≤ v) (h : v < 2 ^ 31) : wp_X3_valueOf V (nI v) post = post 0 V := by
  unfold wp_X3_valueOf
  simp (disch := omega) only [e_hasVertexO H hv h, nI_add, nI_1, nI_neg, neg_nI, nI_lt0, nI_eq0, nI_lt20, nI_le20, nI_lt60, nI_le60, nI_inI, nI_clamp, nI_eq, nI_leI, nI_ltI, neg_ltz, neg_eqz, one_eqz, bI_eq0, bI_eq1, bI_nar1, true_and, and_true, not_true_eq_false, not_false_eq_true, false_implies, true_implies, implies_true, forall_eq, false_and, and_false, or_false, false_or, or_true, true_or, iff_self, Classical.not_not, forall_const, ite_true, ite_false, reduceIte, eq_self]
theorem e_isPresent (H : GV V n k a b w pr) (he : e < k) : wp_X3_isPresent V (nI e) post = post (bI (pr e)) V := by
  have := GV_k60 H
  unfold wp_X3_isPresent
  simp (disch := omega) only [e_hasEdge H he, nI_add, nI_1, nI_neg, neg_nI, nI_lt0, nI_eq0, nI_lt20, nI_le20, nI_lt60, nI_le60, nI_inI, nI_clamp, nI_eq, nI_leI, nI_ltI, neg_ltz, neg_eqz, one_eqz, bI_eq0, bI_eq1, bI_nar1, true_and, and_true, not_true_eq_false, not_false_eq_true, false_implies, true_implies, implies_true, forall_eq, false_and, and_false, or_false, false_or, or_true, true_or, iff_self, Classical.not_not, forall_const, ite_true, ite_false, reduceIte, eq_self, GV_p H]
  by_cases h : pr e
  · simp only [h, bI_t, true_and, and_true, not_true_eq_false, not_false_eq_true, false_implies, true_implies, implies_true, forall_eq, false_and, and_false, or_false, false_or, or_true, true_or, iff_self, Classical.not_not, forall_const, ite_true, ite_false, reduceIte, eq_self]
  · simp only [h, bI_f, true_and, and_true, not_true_eq_false, not_false_eq_true, false_implies, true_implies, implies_true, forall_eq, false_and, and_false, or_false, false_or, or_true, true_or, iff_self, Classical.not_not, forall_const, ite_true, ite_false, reduceIte, eq_self]
theorem e_acrossFrom (H : GV V n k a b w pr) (he : e < k) (hu : u < 2 ^ 31) : wp_X3_acrossFrom V (nI e) (nI u) post = post (if a e = u then nI (b e) else if b e = u then nI (a e) else -1) V := by
  have := GV_n20 H
  have := GV_an H e he
  have := GV_bn H e he
  unfold wp_X3_acrossFrom
  simp (disch := omega) only [e_firstEnd H he, e_secondEnd H he, nI_add, nI_1, nI_neg, neg_nI, nI_lt0, nI_eq0, nI_lt20, nI_le20, nI_lt60, nI_le60, nI_inI, nI_clamp, nI_eq, nI_leI, nI_ltI, neg_ltz, neg_eqz, one_eqz, bI_eq0, bI_eq1, bI_nar1, true_and, and_true, not_true_eq_false, not_false_eq_true, false_implies, true_implies, implies_true, forall_eq, false_and, and_false, or_false, false_or, or_true, true_or, iff_self, Classical.not_not, forall_const, ite_true, ite_false, reduceIte, eq_self]
  by_cases h : a e = u
  · simp only [h, true_and, and_true, not_true_eq_false, not_false_eq_true, false_implies, true_implies, implies_true, forall_eq, false_and, and_false, or_false, false_or, or_true, true_or, iff_self, Classical.not_not, forall_const, ite_true, ite_false, reduceIte, eq_self]
  · by_cases h2 : b e = u
    · simp only [h, h2, true_and, and_true, not_true_eq_false, not_false_eq_true, false_implies, true_implies, implies_true, forall_eq, false_and, and_false, or_false, false_or, or_true, true_or, iff_self, Classical.not_not, forall_const, ite_true, ite_false, reduceIte, eq_self]
    · simp only [h, h2, true_and, and_true, not_true_eq_false, not_false_eq_true, false_implies, true_implies, implies_true, forall_eq, false_and, and_false, or_false, false_or, or_true, true_or, iff_self, Classical.not_not, forall_const, ite_true, ite_false, reduceIte, eq_self]
theorem e_joins (H : GV V n k a b w pr) (he : e < k) (hu : u < n) (hv : v < n) : wp_X3_joins V (nI e) (nI u) (nI v) post = post (bI (pr e ∧ jn a b e u v)) V := by
  have := GV_n20 H
  have := GV_an H e he
  have := GV_bn H e he
  have := GV_ab H e he
  unfold wp_X3_joins
  rw [e_isPresent H he]
  by_cases hp : pr e
  · rw [bI_t hp, mb_f (by decide), e_acrossFrom H he (by omega)]
    by_cases h : a e = u
    · rw [if_pos h]
      by_cases h2 : b e = v
      · rw [mb_t (by rw [h2]), bI_t ⟨hp, Or.inl ⟨h, h2⟩⟩]
      · rw [mb_f (by rw [nI_eq (by omega) (by omega)]; exact h2), bI_f]
        rintro ⟨-, q | q⟩ <;> omega
    · rw [if_neg h]
      by_cases h2 : b e = u
      · rw [if_pos h2]
        by_cases h3 : a e = v
        · rw [mb_t (by rw [h3]), bI_t ⟨hp, Or.inr ⟨h3, h2⟩⟩]
        · rw [mb_f (by rw [nI_eq (by omega) (by omega)]; exact h3), bI_f]
          rintro ⟨-, q | q⟩ <;> omega
      · rw [if_neg h2, mb_f (fun q => (neg_nI (by omega)).mp q), bI_f]
        rintro ⟨-, q | q⟩ <;> omega
  · rw [bI_f hp, mb_t rfl, bI_f (fun q => hp q.1)]
theorem e_comesBefore (H : GV V n k a b w pr) (he : e < k) (hf : f < k) : wp_X3_comesBefore V (nI e) (nI f) post = post (bI (ky w e < ky w f)) V := by
  have := GV_k60 H
  have := GV_w1 H e he
  have := GV_w1 H f hf
  unfold wp_X3_comesBefore
  simp (disch := omega) only [e_hasEdge H he, e_hasEdge H hf, nI_add, nI_1, nI_neg, neg_nI, nI_lt0, nI_eq0, nI_lt20, nI_le20, nI_lt60, nI_le60, nI_inI, nI_clamp, nI_eq, nI_leI, nI_ltI, neg_ltz, neg_eqz, one_eqz, bI_eq0, bI_eq1, bI_nar1, true_and, and_true, not_true_eq_false, not_false_eq_true, false_implies, true_implies, implies_true, forall_eq, false_and, and_false, or_false, false_or, or_true, true_or, iff_self, Classical.not_not, forall_const, ite_true, ite_false, reduceIte, eq_self, GV_w H]
  by_cases h : w e = w f
  · rw [mb_t h]
    by_cases h2 : f ≤ e
    · rw [mb_t h2, bI_f]; rw [ky_lt (by omega) (by omega)]; omega
    · rw [mb_f h2, bI_t]; rw [ky_lt (by omega) (by omega)]; omega
  · rw [mb_f h]
    by_cases h2 : w f ≤ w e
    · rw [mb_t h2, bI_f]; rw [ky_lt (by omega) (by omega)]; omega
    · rw [mb_f h2, bI_t]; rw [ky_lt (by omega) (by omega)]; omega
theorem e_comesBeforeN (H : GV V n k a b w pr) (he : e < k) : wp_X3_comesBefore V (nI e) (-1) post = post 1 V := by
  unfold wp_X3_comesBefore
  simp (disch := omega) only [e_hasEdge H he, e_hasEdgeN, nI_add, nI_1, nI_neg, neg_nI, nI_lt0, nI_eq0, nI_lt20, nI_le20, nI_lt60, nI_le60, nI_inI, nI_clamp, nI_eq, nI_leI, nI_ltI, neg_ltz, neg_eqz, one_eqz, bI_eq0, bI_eq1, bI_nar1, true_and, and_true, not_true_eq_false, not_false_eq_true, false_implies, true_implies, implies_true, forall_eq, false_and, and_false, or_false, false_or, or_true, true_or, iff_self, Classical.not_not, forall_const, ite_true, ite_false, reduceIte, eq_self, show narrow .boolean (.int 1) = .int 1 by decide]
theorem e_putValue (H : GV V n k a b w pr) (hv : v < n) {x : Int32} : wp_X3_putValue V (nI v) x pos = pos (wr V 2 v x) := by
  have := GV_n20 H
  unfold wp_X3_putValue
  simp (disch := omega) only [e_hasVertex H hv, nI_add, nI_1, nI_neg, neg_nI, nI_lt0, nI_eq0, nI_lt20, nI_le20, nI_lt60, nI_le60, nI_inI, nI_clamp, nI_eq, nI_leI, nI_ltI, neg_ltz, neg_eqz, one_eqz, bI_eq0, bI_eq1, bI_nar1, true_and, and_true, not_true_eq_false, not_false_eq_true, false_implies, true_implies, implies_true, forall_eq, false_and, and_false, or_false, false_or, or_true, true_or, iff_self, Classical.not_not, forall_const, ite_true, ite_false, reduceIte, eq_self]
theorem e_putWeight (H : GV V n k a b w pr) (he : e < k) {x : Int32} : wp_X3_putWeight V (nI e) x pos = pos (wr V 5 e x) := by
  have := GV_k60 H
  unfold wp_X3_putWeight
  simp (disch := omega) only [e_hasEdge H he, nI_add, nI_1, nI_neg, neg_nI, nI_lt0, nI_eq0, nI_lt20, nI_le20, nI_lt60, nI_le60, nI_inI, nI_clamp, nI_eq, nI_leI, nI_ltI, neg_ltz, neg_eqz, one_eqz, bI_eq0, bI_eq1, bI_nar1, true_and, and_true, not_true_eq_false, not_false_eq_true, false_implies, true_implies, implies_true, forall_eq, false_and, and_false, or_false, false_or, or_true, true_or, iff_self, Classical.not_not, forall_const, ite_true, ite_false, reduceIte, eq_self]
theorem e_markRemoved (H : GV V n k a b w pr) (he : e < k) : wp_X3_markRemoved V (nI e) pos = pos (wr V 6 e 0) := by
  have := GV_k60 H
  unfold wp_X3_markRemoved
  simp (disch := omega) only [e_hasEdge H he, nI_add, nI_1, nI_neg, neg_nI, nI_lt0, nI_eq0, nI_lt20, nI_le20, nI_lt60, nI_le60, nI_inI, nI_clamp, nI_eq, nI_leI, nI_ltI, neg_ltz, neg_eqz, one_eqz, bI_eq0, bI_eq1, bI_nar1, true_and, and_true, not_true_eq_false, not_false_eq_true, false_implies, true_implies, implies_true, forall_eq, false_and, and_false, or_false, false_or, or_true, true_or, iff_self, Classical.not_not, forall_const, ite_true, ite_false, reduceIte, eq_self]
theorem e_appendVertex (H : GV V n k a b w pr) (hn : n < 20) {x : Int32} : wp_X3_appendVertex V x post = post (nI n) (wr (wr V 2 n x) 1 5 (nI (n + 1))) := by
  unfold wp_X3_appendVertex
  simp (disch := omega) only [GV_n H, nI_add, nI_1, nI_neg, neg_nI, nI_lt0, nI_eq0, nI_lt20, nI_le20, nI_lt60, nI_le60, nI_inI, nI_clamp, nI_eq, nI_leI, nI_ltI, neg_ltz, neg_eqz, one_eqz, bI_eq0, bI_eq1, bI_nar1, true_and, and_true, not_true_eq_false, not_false_eq_true, false_implies, true_implies, implies_true, forall_eq, false_and, and_false, or_false, false_or, or_true, true_or, iff_self, Classical.not_not, forall_const, ite_true, ite_false, reduceIte, eq_self, wr_eq, upd_eq, wr_ne, hn, nI_sub1, Nat.add_sub_cancel, ne_eq, Nat.reduceEqDiff]
theorem e_appendEdge (H : GV V n k a b w pr) (hk : k < 60) {x y z : Int32} : wp_X3_appendEdge V x y z post = post (nI k) (wr (wr (wr (wr (wr V 3 k x) 4 k y) 5 k z) 6 k 1) 1 6 (nI (k + 1))) := by
  unfold wp_X3_appendEdge
  simp (disch := omega) only [GV_k H, nI_add, nI_1, nI_neg, neg_nI, nI_lt0, nI_eq0, nI_lt20, nI_le20, nI_lt60, nI_le60, nI_inI, nI_clamp, nI_eq, nI_leI, nI_ltI, neg_ltz, neg_eqz, one_eqz, bI_eq0, bI_eq1, bI_nar1, true_and, and_true, not_true_eq_false, not_false_eq_true, false_implies, true_implies, implies_true, forall_eq, false_and, and_false, or_false, false_or, or_true, true_or, iff_self, Classical.not_not, forall_const, ite_true, ite_false, reduceIte, eq_self, wr_eq, upd_eq, wr_ne, hk, nI_sub1, Nat.add_sub_cancel, ne_eq, Nat.reduceEqDiff]
end GET
