section ANEW
variable {n k : Nat} {a b w K : Nat → Nat} {pr F Q : Nat → Prop} {V V0 : Mm} {post : Int32 → Mm → Prop} {pos : Mm → Prop} {u v e p m i q : Nat} {ms x y : Int32} {so gr : Nat → Nat} {C : Nat → Prop}
theorem s_clear {pos : Mm → Prop} (h : ∀ V' : Mm, (∀ c, c < 36 ∨ 39 < c → V' c = V c) → V' 36 4 = 0 → V' 36 5 = 0 → (∀ v, v < 20 → V' 38 v = nI v) → (∀ e, e < 60 → V' 39 e = 0) → pos V') : wp_X1_clear V pos := by
  have k2 : ∀ (Va : Mm), ∀ f i (V' : Mm), i + f = 60 → (∀ c, c ≠ 39 → V' c = Va c) → (∀ e, e < i → V' 39 e = 0) → (∀ V' : Mm, (∀ c, c ≠ 39 → V' c = Va c) → (∀ e, e < 60 → V' 39 e = 0) → pos V') → wp_X1_clear_L33 pos (fun (V9 : Mm) (x10 : Int32) => pos V9) (f + 1) V' (nI i) := by
    intro Va f
    induction f with
    | zero =>
      intro i V' hi hf hz hk
      have : i = 60 := by omega
      subst this
      simp (disch := omega) only [wp_X1_clear_L33, nI_add, nI_1, nI_neg, neg_nI, nI_lt0, nI_eq0, nI_lt20, nI_le20, nI_lt60, nI_le60, nI_inI, nI_clamp, nI_eq, nI_leI, nI_ltI, neg_ltz, neg_eqz, one_eqz, bI_eq0, bI_eq1, bI_nar1, Nat.le_refl, true_and, and_true, not_true_eq_false, not_false_eq_true, false_implies, true_implies, implies_true, forall_eq, false_and, and_false, or_false, false_or, or_true, true_or, iff_self, Classical.not_not, forall_const, ite_true, ite_false, reduceIte, eq_self]
      exact hk V' hf hz
    | succ f ih =>
      intro i V' hi hf hz hk
      rw [wp_X1_clear_L33]
      simp (disch := omega) only [nI_add, nI_1, nI_neg, neg_nI, nI_lt0, nI_eq0, nI_lt20, nI_le20, nI_lt60, nI_le60, nI_inI, nI_clamp, nI_eq, nI_leI, nI_ltI, neg_ltz, neg_eqz, one_eqz, bI_eq0, bI_eq1, bI_nar1, show ¬ 60 ≤ i by omega, true_and, and_true, not_true_eq_false, not_false_eq_true, false_implies, true_implies, implies_true, forall_eq, false_and, and_false, or_false, false_or, or_true, true_or, iff_self, Classical.not_not, forall_const, ite_true, ite_false, reduceIte, eq_self]
      refine ih (i + 1) _ (by omega) (fun c hc => by rw [wr_ne _ _ _ hc, hf c hc]) (fun e he => ?_) hk
      rw [wr_eq, upd_at]
      rcases lt_or_eq1 he with z | z
      · rw [if_neg (by omega), hz e z]
      · rw [if_pos z]
  have k1 : ∀ (Va : Mm), ∀ f i (V' : Mm), i + f = 20 → (∀ c, c ≠ 38 → V' c = Va c) → (∀ e, e < i → V' 38 e = nI e) → (∀ V' : Mm, (∀ c, c ≠ 38 → c ≠ 39 → V' c = Va c) → (∀ e, e < 20 → V' 38 e = nI e) → (∀ e, e < 60 → V' 39 e = 0) → pos V') → wp_X1_clear_L12 pos (fun (V5 : Mm) (x6 : Int32) => (∃ m33 : Nat, wp_X1_clear_L33 pos (fun (V9 : Mm) (x10 : Int32) => pos V9) m33 (V5) (0))) (f + 1) V' (nI i) := by
    intro Va f
    induction f with
    | zero =>
      intro i V' hi hf hz hk
      have : i = 20 := by omega
      subst this
      simp (disch := omega) only [wp_X1_clear_L12, nI_add, nI_1, nI_neg, neg_nI, nI_lt0, nI_eq0, nI_lt20, nI_le20, nI_lt60, nI_le60, nI_inI, nI_clamp, nI_eq, nI_leI, nI_ltI, neg_ltz, neg_eqz, one_eqz, bI_eq0, bI_eq1, bI_nar1, Nat.le_refl, true_and, and_true, not_true_eq_false, not_false_eq_true, false_implies, true_implies, implies_true, forall_eq, false_and, and_false, or_false, false_or, or_true, true_or, iff_self, Classical.not_not, forall_const, ite_true, ite_false, reduceIte, eq_self]
      refine ⟨61, k2 V' 60 0 V' (by omega) (fun _ _ => rfl) (fun e he => absurd he (Nat.not_lt_zero _)) (fun V2 hf2 hz2 => hk V2 (fun c h1 h2 => by rw [hf2 c h2, hf c h1]) (fun e he => by rw [hf2 38 (by decide), hz e he]) hz2)⟩
    | succ f ih =>
      intro i V' hi hf hz hk
      rw [wp_X1_clear_L12]
      simp (disch := omega) only [nI_add, nI_1, nI_neg, neg_nI, nI_lt0, nI_eq0, nI_lt20, nI_le20, nI_lt60, nI_le60, nI_inI, nI_clamp, nI_eq, nI_leI, nI_ltI, neg_ltz, neg_eqz, one_eqz, bI_eq0, bI_eq1, bI_nar1, show ¬ 20 ≤ i by omega, true_and, and_true, not_true_eq_false, not_false_eq_true, false_implies, true_implies, implies_true, forall_eq, false_and, and_false, or_false, false_or, or_true, true_or, iff_self, Classical.not_not, forall_const, ite_true, ite_false, reduceIte, eq_self]
      refine ih (i + 1) _ (by omega) (fun c hc => by rw [wr_ne _ _ _ hc, hf c hc]) (fun e he => ?_) hk
      rw [wr_eq, upd_at]
      rcases lt_or_eq1 he with z | z
      · rw [if_neg (by omega), hz e z]
      · rw [if_pos z, z]
  unfold wp_X1_clear
  simp only [forall_eq]
  refine ⟨21, k1 _ 20 0 _ (by omega) (fun _ _ => rfl) (fun e he => absurd he (Nat.not_lt_zero _)) (fun V' hf h38 h39 => h V' (fun c hc => ?_) ?_ ?_ h38 h39)⟩
  · rw [hf c (by omega) (by omega), wr_ne _ _ _ (by omega), wr_ne _ _ _ (by omega)]
  · rw [hf 36 (by decide) (by decide), wr_eq, upd_ne _ _ (by decide), wr_eq, upd_eq]
  · rw [hf 36 (by decide) (by decide), wr_eq, upd_eq]
/-- the sorted edges as they lie in the cells -/
def SR (V : Mm) (m : Nat) (so : Nat → Nat) : Prop := V 36 4 = nI m ∧ ∀ i, i < m → V 37 i = nI (so i)
theorem s_insert (H : GV V n k a b w pr) (hs : SR V m so) (ho : SO (ky w) m so Q) (hm : m < 60) (hQ : ∀ g, Q g → g < k) (he : e < k) (hn : ¬ Q e) (h : ∀ (V' : Mm) so', (∀ c, c < 36 ∨ 37 < c → V' c = V c) → V' 36 5 = V 36 5 → SR V' (m + 1) so' → SO (ky w) (m + 1) so' (fun g => Q g ∨ g = e) → pos V') : wp_X1_insert V (nI e) pos := by
  have h60 := GV_k60 H
  have hso : ∀ i, i < m → so i < k := fun i hi => hQ _ ((SO_im ho _).mpr ⟨i, hi, rfl⟩)
  have fin : ∀ p (V' : Mm), p ≤ m → (∀ c, c ≠ 37 → V' c = V c) → (∀ i, i < p → V' 37 i = nI (so i)) → (∀ i, p < i → i ≤ m → V' 37 i = nI (so (i - 1))) → (∀ i, p ≤ i → i < m → ky w e < ky w (so i)) → (p = 0 ∨ ¬ ky w e < ky w (so (p - 1))) → (vp_in (nI p) 60 ∧ ∀ V9 : Mm, V9 = wr V' 37 (Int32.toNatClampNeg (nI p)) (nI e) → (∀ V10 : Mm, V10 = wr V9 36 4 ((V9 36 4) + 1) → pos V10)) := by
    intro p V' hp hf h1 h2 h3 h4
    simp (disch := omega) only [nI_add, nI_1, nI_neg, neg_nI, nI_lt0, nI_eq0, nI_lt20, nI_le20, nI_lt60, nI_le60, nI_inI, nI_clamp, nI_eq, nI_leI, nI_ltI, neg_ltz, neg_eqz, one_eqz, bI_eq0, bI_eq1, bI_nar1, true_and, and_true, not_true_eq_false, not_false_eq_true, false_implies, true_implies, implies_true, forall_eq, false_and, and_false, or_false, false_or, or_true, true_or, iff_self, Classical.not_not, forall_const, ite_true, ite_false, reduceIte, eq_self]
    refine h _ (insl so p e) (fun c hc => by rw [wr_ne _ _ _ (by omega), wr_ne _ _ _ (by omega), hf c (by omega)]) ?_ ⟨?_, fun i hi => ?_⟩ (SO_ins ho hp (SO_bef ho hp hn (fun g hg q => ky_inj (by have := hQ g hg; omega) (by omega) q) h4) h3)
    · rw [wr_eq, upd_ne _ _ (by decide), wr_ne _ _ _ (by decide), hf 36 (by decide)]
    · rw [wr_eq, upd_eq, wr_ne _ _ _ (by decide), hf 36 (by decide), hs.1, nI_1]
    · rw [wr_ne _ _ _ (by decide), wr_eq, upd_at]
      rcases Nat.lt_trichotomy i p with z | z | z
      · rw [if_neg (by omega), insl_lt z, h1 i z]
      · rw [if_pos z, z, insl_eq]
      · rw [if_neg (by omega), insl_gt z, h2 i z (by omega)]
  have key : ∀ p (V' : Mm), p ≤ m → (∀ c, c ≠ 37 → V' c = V c) → (∀ i, i < p → V' 37 i = nI (so i)) → (∀ i, p < i → i ≤ m → V' 37 i = nI (so (i - 1))) → (∀ i, p ≤ i → i < m → ky w e < ky w (so i)) → wp_X1_insert_L15 (nI e) pos (fun (V7 : Mm) (x8 : Int32) => (vp_in x8 60 ∧ ∀ V9 : Mm, V9 = wr V7 37 (Int32.toNatClampNeg (x8)) (nI e) → (∀ V10 : Mm, V10 = wr V9 36 4 ((V9 36 4) + 1) → pos V10))) (p + 1) V' (nI p) := by
    intro p
    induction p with
    | zero =>
      intro V' hp hf h1 h2 h3
      rw [wp_X1_insert_L15, mb_t (show nI 0 ≤ 0 by decide)]
      exact fin 0 V' hp hf h1 h2 h3 (Or.inl rfl)
    | succ p ih =>
      intro V' hp hf h1 h2 h3
      have H' : GV V' n k a b w pr := GV_fr H (hf 1 (by omega)) (hf 3 (by omega)) (hf 4 (by omega)) (hf 5 (by omega)) (hf 6 (by omega))
      rw [wp_X1_insert_L15, mb_f (show ¬ nI (p + 1) ≤ 0 from nI_nle (by omega) (by omega)), nI_pred, nI_clamp (by omega), h1 p (by omega), e_comesBefore H' he (hso p (by omega))]
      refine ⟨nI_in (by omega) (by omega), ?_⟩
      by_cases hK : ky w e < ky w (so p)
      · rw [bI_t hK, mb_f (by decide)]
        refine ⟨nI_in (by omega) (by omega), nI_in (by omega) (by omega), ?_⟩
        rw [forall_eq, nI_clamp (by omega), show (-1 : Int32) = -(1 : Int32) from rfl, ← Int32.sub_eq_add_neg, nI_pred]
        refine ih _ (by omega) (fun c hc => by rw [wr_ne _ _ _ hc, hf c hc]) (fun i hi => ?_) (fun i hi1 hi2 => ?_) (fun i hi1 hi2 => ?_)
        · rw [wr_eq, upd_ne _ _ (by omega), h1 i (by omega)]
        · rw [wr_eq, upd_at]
          rcases Nat.lt_or_ge (p + 1) i with z | z
          · rw [if_neg (by omega), h2 i z hi2]
          · rw [show i = p + 1 by omega, if_pos rfl]; exact h1 p (by omega)
        · rcases Nat.lt_or_ge p i with z | z
          · exact h3 i (by omega) hi2
          · rw [show i = p by omega]; exact hK
      · rw [bI_f hK, mb_t rfl]
        exact fin (p + 1) V' hp hf h1 h2 h3 (Or.inr hK)
  unfold wp_X1_insert
  rw [hs.1, mb_t ((nI_lt60 (by omega)).mpr hm)]
  exact ⟨m + 1, key m V (Nat.le_refl _) (fun _ _ => rfl) hs.2 (fun i h1 h2 => by omega) (fun i h1 h2 => by omega)⟩
theorem s_sortPresentBut (H : GV V n k a b w pr) (h0 : V 36 4 = 0) (h : ∀ (V' : Mm) m so, (∀ c, c < 36 ∨ 37 < c → V' c = V c) → V' 36 5 = V 36 5 → SR V' m so → SO (ky w) m so (fun g => pr g ∧ nI g ≠ ms) → pos V') : wp_X1_sortPresentBut V ms pos := by
  have h60 := GV_k60 H
  have key : ∀ f i (V' : Mm) m so, i + f = k → (∀ c, c < 36 ∨ 37 < c → V' c = V c) → V' 36 5 = V 36 5 → SR V' m so → SO (ky w) m so (fun g => g < i ∧ pr g ∧ nI g ≠ ms) → wp_X1_sortPresentBut_L2 ms pos (fun (V9 : Mm) (x10 : Int32) => pos V9) (f + 1) V' (nI i) := by
    intro f
    induction f with
    | zero =>
      intro i V' m so hi hf h5 hs ho
      have : i = k := by omega
      subst this
      have H' : GV V' n i a b w pr := GV_fr H (hf 1 (by omega)) (hf 3 (by omega)) (hf 4 (by omega)) (hf 5 (by omega)) (hf 6 (by omega))
      simp (disch := omega) only [wp_X1_sortPresentBut_L2, wp_X3_edgeCount, GV_k H', nI_add, nI_1, nI_neg, neg_nI, nI_lt0, nI_eq0, nI_lt20, nI_le20, nI_lt60, nI_le60, nI_inI, nI_clamp, nI_eq, nI_leI, nI_ltI, neg_ltz, neg_eqz, one_eqz, bI_eq0, bI_eq1, bI_nar1, Nat.le_refl, true_and, and_true, not_true_eq_false, not_false_eq_true, false_implies, true_implies, implies_true, forall_eq, false_and, and_false, or_false, false_or, or_true, true_or, iff_self, Classical.not_not, forall_const, ite_true, ite_false, reduceIte, eq_self]
      exact h V' m so hf h5 hs (SO_cg ho (fun g => ⟨fun q => q.2, fun q => ⟨GV_pk H g q.1, q⟩⟩))
    | succ f ih =>
      intro i V' m so hi hf h5 hs ho
      have hik : i < k := by omega
      have H' : GV V' n k a b w pr := GV_fr H (hf 1 (by omega)) (hf 3 (by omega)) (hf 4 (by omega)) (hf 5 (by omega)) (hf 6 (by omega))
      rw [wp_X1_sortPresentBut_L2]
      simp (disch := omega) only [wp_X3_edgeCount, GV_k H', nI_leI, nI_1, show ¬ k ≤ i by omega, e_isPresent H' hik, true_and, and_true, not_true_eq_false, not_false_eq_true, false_implies, true_implies, implies_true, forall_eq, false_and, and_false, or_false, false_or, or_true, true_or, iff_self, Classical.not_not, forall_const, ite_true, ite_false, reduceIte, eq_self]
      have skip : ¬ (pr i ∧ nI i ≠ ms) → wp_X1_sortPresentBut_L2 ms pos (fun (V9 : Mm) (x10 : Int32) => pos V9) (f + 1) V' (nI (i + 1)) := fun hn =>
        ih (i + 1) V' m so (by omega) hf h5 hs (SO_cg ho (fun g => ⟨fun q => ⟨by omega, q.2⟩, fun q => ⟨(lt_or_eq1 q.1).elim id (fun z => absurd (by rw [← z]; exact q.2) hn), q.2⟩⟩))
      by_cases hms : nI i = ms
      · rw [mb_t hms]; exact skip (fun z => z.2 hms)
      · rw [mb_f hms]
        by_cases hp : pr i
        · rw [bI_t hp, mb_f (by decide)]
          have hmi : m ≤ i := SO_cnt ho (fun g q => q.1)
          refine s_insert H' hs ho (by omega) (fun g q => by omega) hik (fun q => Nat.lt_irrefl _ q.1) (fun V2 so2 hf2 h52 hs2 ho2 => ?_)
          refine ih (i + 1) V2 (m + 1) so2 (by omega) (fun c hc => by rw [hf2 c hc, hf c hc]) (by rw [h52, h5]) hs2 (SO_cg ho2 (fun g => ⟨fun q => ?_, fun q => ?_⟩))
          · rcases q with q | q
            · exact ⟨by omega, q.2⟩
            · rw [q]; exact ⟨by omega, hp, hms⟩
          · exact (lt_or_eq1 q.1).elim (fun z => Or.inl ⟨z, q.2⟩) Or.inr
        · rw [bI_f hp, mb_t rfl]; exact skip (fun z => hp z.1)
  exact ⟨k + 1, key k 0 V 0 id (by omega) (fun _ _ => rfl) rfl ⟨h0, fun i hi => absurd hi (Nat.not_lt_zero _)⟩ (SO_cg SO_0 (fun g => ⟨False.elim, fun q => absurd q.1 (Nat.not_lt_zero _)⟩))⟩
theorem e_groupOf (H : GV V n k a b w pr) (hv : v < n) : wp_X1_groupOf V (nI v) post = post (V 38 v) V := by
  have := GV_n20 H
  unfold wp_X1_groupOf
  simp (disch := omega) only [e_hasVertex H hv, nI_add, nI_1, nI_neg, neg_nI, nI_lt0, nI_eq0, nI_lt20, nI_le20, nI_lt60, nI_le60, nI_inI, nI_clamp, nI_eq, nI_leI, nI_ltI, neg_ltz, neg_eqz, one_eqz, bI_eq0, bI_eq1, bI_nar1, true_and, and_true, not_true_eq_false, not_false_eq_true, false_implies, true_implies, implies_true, forall_eq, false_and, and_false, or_false, false_or, or_true, true_or, iff_self, Classical.not_not, forall_const, ite_true, ite_false, reduceIte, eq_self]
def KV (V : Mm) (k : Nat) (w gr : Nat → Nat) (C : Nat → Prop) : Prop := (∀ v, v < 20 → V 38 v = nI (gr v)) ∧ (∀ v, v < 20 → gr v < 20) ∧ (∀ e, e < 60 → V 39 e = bI (C e)) ∧ (V 36 5 = nI (cs w C k))
theorem KV_g {V : Mm} {k : Nat} {w gr : Nat → Nat} {C : Nat → Prop} (h : KV V k w gr C) : ∀ v, v < 20 → V 38 v = nI (gr v) := h.1
theorem KV_l {V : Mm} {k : Nat} {w gr : Nat → Nat} {C : Nat → Prop} (h : KV V k w gr C) : ∀ v, v < 20 → gr v < 20 := h.2.1
theorem KV_c {V : Mm} {k : Nat} {w gr : Nat → Nat} {C : Nat → Prop} (h : KV V k w gr C) : ∀ e, e < 60 → V 39 e = bI (C e) := h.2.2.1
theorem KV_s {V : Mm} {k : Nat} {w gr : Nat → Nat} {C : Nat → Prop} (h : KV V k w gr C) : V 36 5 = nI (cs w C k) := h.2.2.2
theorem s_choose (H : GV V n k a b w pr) (hk : KV V k w gr C) (hC : ∀ g, C g → g < k) (he : e < k) (h1 : gr (a e) = gr (b e) → pos V) (h2 : gr (a e) ≠ gr (b e) → ¬ C e → ∀ V' : Mm, (∀ c, c ≠ 36 → c < 38 ∨ 39 < c → V' c = V c) → V' 36 4 = V 36 4 → KV V' k w (fun z => if gr z = gr (a e) then gr (b e) else gr z) (fun g => C g ∨ g = e) → pos V') (hne : gr (a e) ≠ gr (b e) → ¬ C e) : wp_X1_chooseIfItJoins V (nI e) pos := by
  have h20 := GV_n20 H
  have h60 := GV_k60 H
  have ha := GV_an H e he
  have hb := GV_bn H e he
  have la := KV_l hk (a e) (by omega)
  have lb := KV_l hk (b e) (by omega)
  have loop : gr (a e) ≠ gr (b e) → ∀ (Va : Mm), (∀ v, v < 20 → Va 38 v = nI (gr v)) → ∀ f i (V' : Mm), i + f = 20 → (∀ c, c ≠ 38 → V' c = Va c) → (∀ v, v < 20 → V' 38 v = nI (if v < i then (if gr v = gr (a e) then gr (b e) else gr v) else gr v)) → (∀ V' : Mm, (∀ c, c ≠ 38 → V' c = Va c) → (∀ v, v < 20 → V' 38 v = nI (if gr v = gr (a e) then gr (b e) else gr v)) → pos V') → wp_X1_chooseIfItJoins_L70 (nI (gr (a e))) (nI (gr (b e))) pos (fun (V20 : Mm) (x21 : Int32) => pos V20) (f + 1) V' (nI i) := by
    intro hd Va hVa f
    induction f with
    | zero =>
      intro i V' hi hf hv hk2
      have : i = 20 := by omega
      subst this
      simp (disch := omega) only [wp_X1_chooseIfItJoins_L70, nI_add, nI_1, nI_neg, neg_nI, nI_lt0, nI_eq0, nI_lt20, nI_le20, nI_lt60, nI_le60, nI_inI, nI_clamp, nI_eq, nI_leI, nI_ltI, neg_ltz, neg_eqz, one_eqz, bI_eq0, bI_eq1, bI_nar1, Nat.le_refl, true_and, and_true, not_true_eq_false, not_false_eq_true, false_implies, true_implies, implies_true, forall_eq, false_and, and_false, or_false, false_or, or_true, true_or, iff_self, Classical.not_not, forall_const, ite_true, ite_false, reduceIte, eq_self]
      exact hk2 V' hf (fun v hv2 => by rw [hv v hv2, if_pos hv2])
    | succ f ih =>
      intro i V' hi hf hv hk2
      have hi20 : i < 20 := by omega
      have li := KV_l hk i hi20
      rw [wp_X1_chooseIfItJoins_L70]
      simp (disch := omega) only [nI_le20, nI_inI, nI_clamp, nI_1, show ¬ 20 ≤ i by omega, true_and, and_true, not_true_eq_false, not_false_eq_true, false_implies, true_implies, implies_true, forall_eq, false_and, and_false, or_false, false_or, or_true, true_or, iff_self, Classical.not_not, forall_const, ite_true, ite_false, reduceIte, eq_self]
      rw [hv i hi20, if_neg (Nat.lt_irrefl _), nI_eq (by omega) (by omega)]
      by_cases hg : gr i = gr (a e)
      · rw [mb_t hg]
        refine ih (i + 1) _ (by omega) (fun c hc => by rw [wr_ne _ _ _ hc, hf c hc]) (fun v hv2 => ?_) hk2
        rw [wr_eq, upd_at]
        by_cases z : v = i
        · rw [if_pos z, z, if_pos (by omega), if_pos hg]
        · rw [if_neg z, hv v hv2]
          by_cases z2 : v < i
          · rw [if_pos z2, if_pos (show v < i + 1 by omega)]
          · rw [if_neg z2, if_neg (show ¬ v < i + 1 by omega)]
      · rw [mb_f hg]
        refine ih (i + 1) _ (by omega) hf (fun v hv2 => ?_) hk2
        rw [hv v hv2]
        by_cases z : v = i
        · rw [z, if_neg (Nat.lt_irrefl _), if_pos (by omega), if_neg hg]
        · by_cases z2 : v < i
          · rw [if_pos z2, if_pos (show v < i + 1 by omega)]
          · rw [if_neg z2, if_neg (show ¬ v < i + 1 by omega)]
  unfold wp_X1_chooseIfItJoins
  simp (disch := omega) only [e_firstEnd H he, e_secondEnd H he, e_groupOf H ha, e_groupOf H hb, e_hasEdge H he, KV_g hk, nI_eq, nI_inI, nI_clamp, one_eqz, true_and, and_true, not_true_eq_false, not_false_eq_true, false_implies, true_implies, implies_true, forall_eq, false_and, and_false, or_false, false_or, or_true, true_or, iff_self, Classical.not_not, forall_const, ite_true, ite_false, reduceIte, eq_self]
  refine ⟨h1, fun hd => ?_⟩
  have H2 : GV (wr V 39 e 1) n k a b w pr := GV_wr H (by decide)
  rw [e_weightOf H2 he]
  have hcs : cs w (fun g => C g ∨ g = e) k = cs w C k + w e := cs_ins he (hne hd) (fun i _ => Iff.rfl)
  refine ⟨21, ?_⟩
  refine loop hd (wr (wr V 39 e 1) 36 5 (wr V 39 e 1 36 5 + nI (w e))) (fun v hv => by rw [wr_ne _ _ _ (by decide), wr_ne _ _ _ (by decide), KV_g hk v hv]) 20 0 _ (by omega) (fun _ _ => rfl) (fun v hv => by rw [wr_ne _ _ _ (by decide), wr_ne _ _ _ (by decide), KV_g hk v hv, if_neg (Nat.not_lt_zero _)]) (fun V' hf hv => h2 hd (hne hd) V' (fun c hc1 hc2 => ?_) ?_ ⟨hv, fun v hv2 => ?_, fun g hg => ?_, ?_⟩)
  · rw [hf c (by omega), wr_ne _ _ _ hc1, wr_ne _ _ _ (by omega)]
  · rw [hf 36 (by decide), wr_eq, upd_ne _ _ (by decide), wr_ne _ _ _ (by decide)]
  · show (if gr v = gr (a e) then gr (b e) else gr v) < 20
    by_cases z : gr v = gr (a e)
    · rw [if_pos z]; exact lb
    · rw [if_neg z]; exact KV_l hk v hv2
  · rw [hf 39 (by decide), wr_ne _ _ _ (by decide), wr_eq, upd_at]
    by_cases z : g = e
    · rw [if_pos z, bI_t (Or.inr z)]
    · rw [if_neg z, KV_c hk g hg]
      exact bI_congr ⟨Or.inl, fun y => y.elim id (fun y => absurd y z)⟩
  · rw [hf 36 (by decide), wr_eq, upd_eq, wr_ne _ _ _ (by decide), KV_s hk, nI_add, hcs]
theorem s_build1 (H : GV V n k a b w pr) (h : ∀ (V' : Mm) C, (∀ c, c < 36 ∨ 39 < c → V' c = V c) → (∀ e, e < 60 → V' 39 e = bI (C e)) → V' 36 5 = nI (cs w C k) → dcp a b (ky w) (fun g => pr g ∧ nI g ≠ ms) C → pos V') : wp_X1_build V ms pos := by
  have h20 := GV_n20 H
  have h60 := GV_k60 H
  unfold wp_X1_build
  refine s_clear (fun V1 hf1 h4 h5 h38 h39 => ?_)
  have H1 : GV V1 n k a b w pr := GV_fr H (hf1 1 (by omega)) (hf1 3 (by omega)) (hf1 4 (by omega)) (hf1 5 (by omega)) (hf1 6 (by omega))
  refine s_sortPresentBut H1 h4 (fun V2 m so hf2 h52 hs ho => ?_)
  have hm : m ≤ k := SO_cnt ho (fun g q => GV_pk H g q.1)
  have hso : ∀ i, i < m → so i < k := fun i hi => GV_pk H _ ((SO_im ho _).mpr ⟨i, hi, rfl⟩).1
  have key : ∀ f i (V' : Mm) gr C, i + f = m → (∀ c, c < 36 ∨ 39 < c → V' c = V c) → SR V' m so → KV V' k w gr C → KR n a b (ky w) (fun g => pr g ∧ nI g ≠ ms) so i gr C → wp_X1_build_L11 pos (fun (V6 : Mm) (x7 : Int32) => pos V6) (f + 1) V' (nI i) := by
    intro f
    induction f with
    | zero =>
      intro i V' gr C hi hf hs hk hr
      have : i = m := by omega
      subst this
      simp (disch := omega) only [wp_X1_build_L11, hs.1, nI_add, nI_1, nI_neg, neg_nI, nI_lt0, nI_eq0, nI_lt20, nI_le20, nI_lt60, nI_le60, nI_inI, nI_clamp, nI_eq, nI_leI, nI_ltI, neg_ltz, neg_eqz, one_eqz, bI_eq0, bI_eq1, bI_nar1, Nat.le_refl, true_and, and_true, not_true_eq_false, not_false_eq_true, false_implies, true_implies, implies_true, forall_eq, false_and, and_false, or_false, false_or, or_true, true_or, iff_self, Classical.not_not, forall_const, ite_true, ite_false, reduceIte, eq_self]
      exact h V' C hf (KV_c hk) (KV_s hk) (KR_fin hr (fun g hg => (SO_im ho g).mp hg))
    | succ f ih =>
      intro i V' gr C hi hf hs hk hr
      have him : i < m := by omega
      have hsi := hso i him
      have H' : GV V' n k a b w pr := GV_fr H (hf 1 (by omega)) (hf 3 (by omega)) (hf 4 (by omega)) (hf 5 (by omega)) (hf 6 (by omega))
      have hCk : ∀ g, C g → g < k := fun g q => GV_pk H g (KR_ci hr g q).1.1
      rw [wp_X1_build_L11]
      simp (disch := omega) only [hs.1, hs.2, nI_leI, nI_le60, nI_inI, nI_clamp, nI_1, show ¬ m ≤ i by omega, show ¬ 60 ≤ i by omega, true_and, and_true, not_true_eq_false, not_false_eq_true, false_implies, true_implies, implies_true, forall_eq, false_and, and_false, or_false, false_or, or_true, true_or, iff_self, Classical.not_not, forall_const, ite_true, ite_false, reduceIte, eq_self]
      refine s_choose H' hk hCk hsi (fun q => ?_) (fun hd hn V3 hf3 h43 hk3 => ?_) (fun _ => KR_no hr (SO_mo ho) him)
      · exact ih (i + 1) V' gr C (by omega) hf hs hk (KR_skip hr (SO_mo ho) him (fun _ => (KR_lb hr _ _ (GV_an H _ hsi) (GV_bn H _ hsi)).mp q))
      · refine ih (i + 1) V3 _ _ (by omega) (fun c hc => by rw [hf3 c (by omega) (by omega), hf c hc]) ⟨by rw [h43, hs.1], fun j hj => by rw [hf3 37 (by decide) (by decide), hs.2 j hj]⟩ hk3 (KR_take hr (SO_mo ho) him ((SO_im ho _).mpr ⟨i, him, rfl⟩) (fun g hg => ⟨GV_an H g (hCk g hg), GV_bn H g (hCk g hg)⟩) (GV_an H _ hsi) (GV_bn H _ hsi) (Or.inl ⟨rfl, rfl⟩) hd (fun z _ => rfl))
  refine ⟨m + 1, key m 0 V2 id (fun _ => False) (by omega) (fun c hc => by rw [hf2 c (by omega), hf1 c hc]) hs ⟨fun v hv => ?_, fun v hv => hv, fun e he => ?_, ?_⟩ KR_0⟩
  · rw [hf2 38 (by omega), h38 v hv]; rfl
  · rw [hf2 39 (by omega), h39 e he, bI_f id]
  · rw [h52, h5, show cs w (fun _ => False) k = 0 from ?_]
    · rfl
    · have : ∀ m, cs w (fun _ => False) m = 0 := fun m => by
        induction m with
        | zero => rfl
        | succ m ih => rw [cs_n id, ih]
      exact this k
theorem s_firstChosen (H : GV V n k a b w pr) (I : FV V k a b w F) (hc : ∀ e, e < 60 → V 39 e = bI (C e)) (hC : ∀ g, C g → g < k) (h : ∀ x, least (fun g => C g ∧ ¬ F g) (ky w) 60 x → post x V) : wp_X1_firstChosenOutside_7 V post := by
  have h60 := GV_k60 H
  have key : ∀ f i x, i + f = 60 → least (fun g => C g ∧ ¬ F g) (ky w) i x → wp_X1_firstChosenOutside_7_L4 post (fun (V9 : Mm) (x10 : Int32) (x11 : Int32) => post x10 V9) (f + 1) V x (nI i) := by
    intro f
    induction f with
    | zero =>
      intro i x hi hl
      have : i = 60 := by omega
      subst this
      simp (disch := omega) only [wp_X1_firstChosenOutside_7_L4, nI_add, nI_1, nI_neg, neg_nI, nI_lt0, nI_eq0, nI_lt20, nI_le20, nI_lt60, nI_le60, nI_inI, nI_clamp, nI_eq, nI_leI, nI_ltI, neg_ltz, neg_eqz, one_eqz, bI_eq0, bI_eq1, bI_nar1, Nat.le_refl, true_and, and_true, not_true_eq_false, not_false_eq_true, false_implies, true_implies, implies_true, forall_eq, false_and, and_false, or_false, false_or, or_true, true_or, iff_self, Classical.not_not, forall_const, ite_true, ite_false, reduceIte, eq_self]
      exact h x hl
    | succ f ih =>
      intro i x hi hl
      rw [wp_X1_firstChosenOutside_7_L4]
      simp (disch := omega) only [nI_add, nI_1, nI_neg, neg_nI, nI_lt0, nI_eq0, nI_lt20, nI_le20, nI_lt60, nI_le60, nI_inI, nI_clamp, nI_eq, nI_leI, nI_ltI, neg_ltz, neg_eqz, one_eqz, bI_eq0, bI_eq1, bI_nar1, show ¬ 60 ≤ i by omega, hc i (by omega), true_and, and_true, not_true_eq_false, not_false_eq_true, false_implies, true_implies, implies_true, forall_eq, false_and, and_false, or_false, false_or, or_true, true_or, iff_self, Classical.not_not, forall_const, ite_true, ite_false, reduceIte, eq_self]
      by_cases hq : C i
      · rw [mb_n hq, e_holds H I (hC i hq)]
        by_cases hF : F i
        · rw [bI_t hF, mb_f (by decide)]
          exact ih (i + 1) x (by omega) (least_skip hl (fun z => z.2 hF))
        · rw [bI_f hF, mb_t rfl]
          refine s_cb_least H (hC i hq) ⟨hq, hF⟩ hl (fun q => ?_) (fun q => ?_)
          · rw [mb_t rfl]; exact ih (i + 1) x (by omega) q
          · rw [mb_f (by decide)]; exact ih (i + 1) _ (by omega) q
      · rw [mb_o hq]
        exact ih (i + 1) x (by omega) (least_skip hl (fun z => hq z.1))
  exact ⟨61, key 60 0 (-1) (by omega) (least_0 _ _)⟩
end ANEW
