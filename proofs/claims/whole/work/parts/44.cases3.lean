section CASES3
variable {n k : Nat} {a b w : Nat → Nat} {pr F : Nat → Prop} {gr : Nat → Nat} {V V' V0 V1 V2 : Mm} {post : Int32 → Mm → Prop} {pp : Int32 → Mm → Prop} {pos : Mm → Prop} {u v e r cnt d : Nat} {x y z : Int32} {o : Nat → Int64} {D : Nat → UInt64} {a1 a2 a3 : Int32} {J : Mm → Prop}
theorem s_countBetween (H : GV V n k a b w pr) (hu : u < n) (hv : v < n) (h : post (nI (ct (fun e => pr e ∧ jn a b e u v) k)) V) : wp_X3_countBetween V (nI u) (nI v) post := by
  have h60 := GV_k60 H
  have key : ∀ f i, i + f = k → wp_X3_countBetween_L5 (nI u) (nI v) post (fun (V5 : Mm) (x6 : Int32) (x7 : Int32) => post x6 V5) (f + 1) V (nI (ct (fun e => pr e ∧ jn a b e u v) i)) (nI i) := by
    intro f
    induction f with
    | zero =>
      intro i hi
      have : i = k := by omega
      subst this
      rw [wp_X3_countBetween_L5, GV_k H, mb_t (Int32.le_refl _)]
      exact h
    | succ f ih =>
      intro i hi
      have ih := ih (i + 1) (by omega)
      rw [wp_X3_countBetween_L5, GV_k H, mb_f (fun z => absurd ((nI_leI (by omega) (by omega)).mp z) (by omega)), e_joins H (by omega) hu hv, nI_1, nI_1]
      by_cases q : pr i ∧ jn a b i u v
      · rw [bI_t q, mb_f (by decide)]; rw [ct_y (p := fun e => pr e ∧ jn a b e u v) q] at ih; exact ih
      · rw [bI_f q, mb_t rfl]; rw [ct_n (p := fun e => pr e ∧ jn a b e u v) q] at ih; exact ih
  exact ⟨k + 1, key k 0 (by omega)⟩
theorem f_parallel (H : RG V n k a b w pr) (hu : u < n) (hv : v < n) (h : post (nI (ct (fun e => pr e ∧ jn a b e u v) k)) V) : ∃ m : Nat, wp_X9_parallel_L32 (nI u) (nI v) pp (fun (V15 : Mm) (x16 : Int32) (x17 : Int32) => post x16 V15) m V 0 0 := by
  have h60 := RG_k60 H
  have key : ∀ f i, i + f = k → wp_X9_parallel_L32 (nI u) (nI v) pp (fun (V15 : Mm) (x16 : Int32) (x17 : Int32) => post x16 V15) (f + 1) V (nI (ct (fun e => pr e ∧ jn a b e u v) i)) (nI i) := by
    intro f
    induction f with
    | zero =>
      intro i hi
      have : i = k := by omega
      subst this
      rw [wp_X9_parallel_L32, RG_k H, mb_t (Int32.le_refl _)]
      exact h
    | succ f ih =>
      intro i hi
      have ih := ih (i + 1) (by omega)
      rw [wp_X9_parallel_L32, RG_k H, mb_f (fun z => absurd ((nI_leI (by omega) (by omega)).mp z) (by omega)), nI_clamp (by omega), RG_p H i (by omega), f_joins H (by omega) hu hv, nI_1, nI_1, Int32.add_zero]
      refine ⟨nI_in (by omega) (by omega), ?_⟩
      by_cases q1 : pr i
      · rw [bI_t q1, mb_f (by decide)]
        by_cases q : jn a b i u v
        · rw [bI_t q, mb_f (by decide)]; rw [ct_y (p := fun e => pr e ∧ jn a b e u v) ⟨q1, q⟩] at ih; exact ih
        · rw [bI_f q, mb_t rfl]; rw [ct_n (p := fun e => pr e ∧ jn a b e u v) (fun z => q z.2)] at ih; exact ih
      · rw [bI_f q1, mb_t rfl]; rw [ct_n (p := fun e => pr e ∧ jn a b e u v) (fun z => q1 z.1)] at ih; exact ih
  exact ⟨k + 1, key k 0 (by omega)⟩
theorem s_firstBetween (H : GV V n k a b w pr) (hu : u < n) (hv : v < n) (h : ∀ x, least (fun e => pr e ∧ jn a b e u v) (ky w) k x → post x V) : wp_X3_firstBetween V (nI u) (nI v) post := by
  have h60 := GV_k60 H
  have key : ∀ f i x, i + f = k → least (fun e => pr e ∧ jn a b e u v) (ky w) i x → wp_X3_firstBetween_L5 (nI u) (nI v) post (fun (V8 : Mm) (x9 : Int32) (x10 : Int32) => post x9 V8) (f + 1) V x (nI i) := by
    intro f
    induction f with
    | zero =>
      intro i x hi hl
      have : i = k := by omega
      subst this
      rw [wp_X3_firstBetween_L5, GV_k H, mb_t (Int32.le_refl _)]
      exact h x hl
    | succ f ih =>
      intro i x hi hl
      have hik : i < k := by omega
      rw [wp_X3_firstBetween_L5, GV_k H, mb_f (fun z => absurd ((nI_leI (by omega) (by omega)).mp z) (by omega)), e_joins H hik hu hv, nI_1]
      by_cases q : pr i ∧ jn a b i u v
      · rw [bI_t q, mb_f (by decide)]
        refine s_cb_least H hik q hl (fun q => ?_) (fun q => ?_)
        · rw [mb_t rfl]; exact ih (i + 1) x (by omega) q
        · rw [mb_f (by decide)]; exact ih (i + 1) _ (by omega) q
      · rw [bI_f q, mb_t rfl]
        exact ih (i + 1) x (by omega) (least_skip hl q)
  exact ⟨k + 1, key k 0 (-1) (by omega) (least_0 _ _)⟩
theorem f_lightest (H : RG V n k a b w pr) (hu : u < n) (hv : v < n) {kx : Mm → Int32 → Int32 → Prop} (h : ∀ x y, least (fun e => pr e ∧ jn a b e u v) (ky w) k x → kx V x y) : ∃ m : Nat, wp_X9_lightest_L32 (nI u) (nI v) pp kx m V (-1) 0 := by
  have h60 := RG_k60 H
  have key : ∀ f i x, i + f = k → least (fun e => pr e ∧ jn a b e u v) (ky w) i x → wp_X9_lightest_L32 (nI u) (nI v) pp kx (f + 1) V x (nI i) := by
    intro f
    induction f with
    | zero =>
      intro i x hi hl
      have : i = k := by omega
      subst this
      rw [wp_X9_lightest_L32, RG_k H, mb_t (Int32.le_refl _)]
      exact h x _ hl
    | succ f ih =>
      intro i x hi hl
      have hik : i < k := by omega
      rw [wp_X9_lightest_L32, RG_k H, mb_f (fun z => absurd ((nI_leI (by omega) (by omega)).mp z) (by omega)), nI_clamp (by omega), RG_p H i hik, f_joins H hik hu hv, nI_1]
      refine ⟨nI_in (by omega) (by omega), ?_⟩
      by_cases q1 : pr i
      · rw [bI_t q1, mb_f (by decide)]
        by_cases q2 : jn a b i u v
        · rw [bI_t q2, mb_f (by decide)]
          rcases hl with ⟨l1, l2⟩ | ⟨m, l1, l2, l3, l4⟩
          · rw [l1, mb_t (by decide)]
            exact ih (i + 1) _ (by omega) (Or.inr ⟨i, by omega, ⟨q1, q2⟩, rfl, fun g hg q => (lt_or_eq1 hg).elim (fun z => absurd q (l2 g z)) (fun z => by rw [z]; exact Nat.le_refl _)⟩)
          · rw [l3, mb_f (nI_pos (by omega)), f_comesBefore H hik (by omega)]
            by_cases hK : ky w i < ky w m
            · rw [bI_t hK, mb_f (by decide)]
              exact ih (i + 1) _ (by omega) (Or.inr ⟨i, by omega, ⟨q1, q2⟩, rfl, fun g hg q => (lt_or_eq1 hg).elim (fun z => by have := l4 g z q; omega) (fun z => by rw [z]; exact Nat.le_refl _)⟩)
            · rw [bI_f hK, mb_t rfl]
              exact ih (i + 1) _ (by omega) (Or.inr ⟨m, by omega, l2, rfl, fun g hg q => (lt_or_eq1 hg).elim (fun z => l4 g z q) (fun z => by rw [z]; omega)⟩)
        · rw [bI_f q2, mb_t rfl]
          exact ih (i + 1) x (by omega) (least_skip hl (fun z => q2 z.2))
      · rw [bI_f q1, mb_t rfl]
        exact ih (i + 1) x (by omega) (least_skip hl (fun z => q1 z.1))
  exact ⟨k + 1, key k 0 (-1) (by omega) (least_0 _ _)⟩
theorem f_isNeighbour (H : RG V n k a b w pr) (hF : ∀ e, e < k → V 65 e = bI (F e)) (hFk : ∀ e, F e → e < k) (hu : u < n) (hv : v < n) (h : post (bI (nb a b F u v)) V) : wp_X9_isNeighbour V (nI u) (nI v) post := by
  have h60 := RG_k60 H
  have key : ∀ f i, i + f = k → (∀ e, e < i → F e → ¬ jn a b e u v) → wp_X9_isNeighbour_L2 (nI u) (nI v) post (fun (V6 : Mm) (x7 : Int32) => post 0 V6) (f + 1) V (nI i) := by
    intro f
    induction f with
    | zero =>
      intro i hi hno
      have : i = k := by omega
      subst this
      rw [wp_X9_isNeighbour_L2, RG_k H, mb_t (Int32.le_refl _)]
      rw [bI_f (fun ⟨e, h1, h2⟩ => hno e (hFk e h1) h1 h2)] at h
      exact h
    | succ f ih =>
      intro i hi hno
      have hik : i < k := by omega
      rw [wp_X9_isNeighbour_L2, RG_k H, mb_f (fun z => absurd ((nI_leI (by omega) (by omega)).mp z) (by omega)), nI_clamp (by omega), hF i hik, f_joins H hik hu hv, nI_1]
      refine ⟨nI_in (by omega) (by omega), ?_⟩
      by_cases q1 : F i
      · rw [bI_t q1, mb_f (by decide)]
        by_cases q2 : jn a b i u v
        · rw [bI_t q2, mb_f (by decide)]
          rw [bI_t ⟨i, q1, q2⟩] at h; exact h
        · rw [bI_f q2, mb_t rfl]
          exact ih (i + 1) (by omega) (fun e he hFe z => (lt_or_eq1 he).elim (fun q => hno e q hFe z) (fun q => q2 (by rw [← q]; exact z)))
      · rw [bI_f q1, mb_t rfl]
        exact ih (i + 1) (by omega) (fun e he hFe z => (lt_or_eq1 he).elim (fun q => hno e q hFe z) (fun q => q1 (by rw [← q]; exact hFe)))
  exact ⟨k + 1, key k 0 (by omega) (fun e he => absurd he (Nat.not_lt_zero _))⟩
theorem fin2 {r1 r3 : Int32} {V4 : Mm} (h : r1 = r3) (hJ : J V4) : (r1 = r3 → J V4) ∧ (¬ r1 = r3 → False) := ⟨fun _ => hJ, fun q => q h⟩
theorem j_6 (hJ : JJ V) : wpc_6 V o D a1 a2 a3 JJ := by
  obtain ⟨n, k, a, b, w, pr, F, gr, H⟩ := hJ
  unfold wpc_6 wp_X8_vertices wp_X3_vertexCount wp_X9_vertices
  intro V1 h1
  subst h1
  refine fin2 ?_ (JJ_sf H (SF_0 (by decide)))
  rw [wr_eq, upd_ne _ _ (by decide), GV_n (ST_g H), RG_n (ST_r H)]
theorem j_7 (hJ : JJ V) : wpc_7 V o D a1 a2 a3 JJ := by
  obtain ⟨n, k, a, b, w, pr, F, gr, H⟩ := hJ
  unfold wpc_7 wp_X8_edges wp_X3_edgeCount wp_X9_edges
  intro V1 h1
  subst h1
  refine fin2 ?_ (JJ_sf H (SF_0 (by decide)))
  rw [wr_eq, upd_ne _ _ (by decide), GV_k (ST_g H), RG_k (ST_r H)]
theorem f_forestWeight (H : RG V n k a b w pr) (hF : ∀ e, e < k → V 65 e = bI (F e)) (h : post (nI (cs w F k)) (wr V 57 0 0)) : wp_X9_forestWeight V post := by
  have h60 := RG_k60 H
  have H1 : RG (wr V 57 0 0) n k a b w pr := RG_wr57 H (by decide)
  unfold wp_X9_forestWeight
  rw [forall_eq]
  have key : ∀ f i, i + f = k → wp_X9_forestWeight_L9 post (fun (V4 : Mm) (x5 : Int32) (x6 : Int32) => post x5 V4) (f + 1) (wr V 57 0 0) (nI (cs w F i)) (nI i) := by
    intro f
    induction f with
    | zero =>
      intro i hi
      have : i = k := by omega
      subst this
      rw [wp_X9_forestWeight_L9, RG_k H1, mb_t (Int32.le_refl _)]
      exact h
    | succ f ih =>
      intro i hi
      have ih := ih (i + 1) (by omega)
      rw [wp_X9_forestWeight_L9, RG_k H1, mb_f (fun z => absurd ((nI_leI (by omega) (by omega)).mp z) (by omega)), nI_clamp (by omega), wr_ne _ _ _ (by decide), hF i (by omega), RG_w H1 i (by omega), nI_1, nI_add, Int32.add_zero]
      refine ⟨nI_in (by omega) (by omega), ?_⟩
      by_cases q : F i
      · rw [bI_t q, mb_f (by decide)]; rw [cs_y q] at ih; exact ⟨nI_in (by omega) (by omega), ih⟩
      · rw [bI_f q, mb_t rfl]; rw [cs_n q] at ih; exact ih
  exact ⟨k + 1, key k 0 (by omega)⟩
theorem j_14 (hJ : JJ V) : wpc_14 V o D a1 a2 a3 JJ := by
  obtain ⟨n, k, a, b, w, pr, F, gr, H⟩ := hJ
  unfold wpc_14 wp_X8_forestWeight wp_X0_weightSum
  refine f_forestWeight (ST_r H) (ST_i H) (fin2 ?_ (JJ_sf H (SF_0 (by decide))))
  exact FV_ws (ST_f H)
theorem ST_dcp (H : ST V n k a b w pr F gr) {C : Nat → Prop} (h : dcp a b (ky w) (fun g => pr g ∧ nI g ≠ -1) C) : ∀ e, C e ↔ F e := by
  have hp : (fun g => pr g ∧ nI g ≠ -1) = pr := funext fun g => propext ⟨fun q => q.1, fun q => ⟨q, fun z => (nI_neg (by have := GV_pk (ST_g H) g q; have := GV_k60 (ST_g H); omega)).mp z⟩⟩
  rw [hp] at h
  exact dcp_uni h (msf_doc (ST_m H))
theorem j_15 (hJ : JJ V) : wpc_15 V o D a1 a2 a3 JJ := by
  obtain ⟨n, k, a, b, w, pr, F, gr, H⟩ := hJ
  unfold wpc_15 wp_X8_forestWeightAnew wp_X9_forestWeightAnew
  refine s_build1 (ST_g H) (fun V1 C hf hc hs hd => ?_)
  have h1 : SF V V1 := SF_cl (fun c hc => hf c (by omega))
  have H1 := ST_sf H h1
  unfold wp_X1_weightSum
  refine f_forestWeight (ST_r H1) (ST_i H1) (fin2 ?_ (JJ_sf H1 (SF_0 (by decide))))
  rw [hs]
  exact congrArg nI (cs_congr (fun i _ => ST_dcp H hd i) (fun _ _ _ => rfl))
theorem j_16 (hJ : JJ V) : wpc_16 V o D a1 a2 a3 JJ := by
  obtain ⟨n, k, a, b, w, pr, F, gr, H⟩ := hJ
  have h60 := GV_k60 (ST_g H)
  have H1 := ST_sf H (SF_0 (x := 0) (j := 0) (by decide))
  unfold wpc_16 wp_X8_trees wp_X3_vertexCount wp_X0_edgeSum wp_X9_trees
  intro V1 h1
  subst h1
  show ∃ m12 : Nat, wp_X9_trees_L12 (fun (r3 : Int32) (V4 : Mm) => ((V 1 5 - V 7 3 = r3 → JJ V4) ∧ (¬ V 1 5 - V 7 3 = r3 → False))) (fun (V4 : Mm) (x5 : Int32) (x6 : Int32) => (fun (r3 : Int32) (V4 : Mm) => ((V 1 5 - V 7 3 = r3 → JJ V4) ∧ (¬ V 1 5 - V 7 3 = r3 → False))) x5 V4) m12 (wr V 57 0 0) (wr V 57 0 0 57 9) 0
  rw [RG_n (ST_r H1)]
  have key : ∀ f i, i + f = k → wp_X9_trees_L12 (fun (r3 : Int32) (V4 : Mm) => ((V 1 5 - V 7 3 = r3 → JJ V4) ∧ (¬ V 1 5 - V 7 3 = r3 → False))) (fun (V4 : Mm) (x5 : Int32) (x6 : Int32) => (fun (r3 : Int32) (V4 : Mm) => ((V 1 5 - V 7 3 = r3 → JJ V4) ∧ (¬ V 1 5 - V 7 3 = r3 → False))) x5 V4) (f + 1) (wr V 57 0 0) (nI n - nI (ct F i)) (nI i) := by
    intro f
    induction f with
    | zero =>
      intro i hi
      have : i = k := by omega
      subst this
      rw [wp_X9_trees_L12, RG_k (ST_r H1), mb_t (Int32.le_refl _)]
      exact fin2 (by rw [GV_n (ST_g H), FV_es (ST_f H)]) (JJ_sf H (SF_0 (by decide)))
    | succ f ih =>
      intro i hi
      have ih := ih (i + 1) (by omega)
      rw [wp_X9_trees_L12, RG_k (ST_r H1), mb_f (fun z => absurd ((nI_leI (by omega) (by omega)).mp z) (by omega)), nI_clamp (by omega), ST_i H1 i (by omega), nI_1]
      refine ⟨nI_in (by omega) (by omega), ?_⟩
      by_cases q : F i
      · rw [bI_t q, mb_f (by decide)]; rw [ct_y q, ← nI_1] at ih
        have e : nI n - nI (ct F i) - 1 = nI n - (nI (ct F i) + 1) := by
          rw [Int32.sub_eq_add_neg, Int32.sub_eq_add_neg, Int32.sub_eq_add_neg, Int32.neg_add, Int32.sub_eq_add_neg, Int32.add_assoc]
        rw [e]; exact ih
      · rw [bI_f q, mb_t rfl]; rw [ct_n q] at ih
        rw [Int32.sub_zero]; exact ih
  refine ⟨k + 1, ?_⟩
  have := key k 0 (by omega)
  have e0 : nI n - nI (ct F 0) = nI n := Int32.sub_zero _
  rw [e0] at this
  exact this
theorem f_isV_bad (H : ST V n k a b w pr F gr) (hb : bad n x ∨ bad n y) {A : Int32 → Mm → Prop} {B : Mm → Prop} (h : ∀ V', SF V V' → V' 57 0 = 1 → A 0 V') : (∀ V1 : Mm, V1 = wr V 57 0 0 → (wp_X9_isVertex V1 x (fun (r3 : Int32) (V2 : Mm) => ((r3 = 0 → (wp_X9_fails V2 (1) A)) ∧ (¬ r3 = 0 → (wp_X9_isVertex V2 y (fun (r8 : Int32) (V7 : Mm) => ((r8 = 0 → (wp_X9_fails V7 (1) A)) ∧ (¬ r8 = 0 → B V7))))))))) := by
  have hn := GV_n20 (ST_g H)
  intro V1 e1
  subst e1
  have h0 : SF V (wr V 57 0 0) := SF_0 (by decide)
  have H1 := RG_sf (ST_r H) h0
  have hp : A 0 (wr (wr V 57 0 0) 57 0 1) := h _ (SF_tr h0 (SF_0 (by decide))) (by rw [wr_eq, upd_eq])
  rcases iv_cases x n (by omega) with ⟨v, hv, q⟩ | q
  · have hy : bad n y := hb.elim (fun z => by
      rcases z with z | ⟨-, z⟩
      · rw [q] at z; exact absurd z (nI_pos (by omega))
      · rw [q] at z; exact absurd ((nI_leI (by omega) (by omega)).mp z) (by omega)) id
    rw [q, f_isVertex H1 hv, mb_f (by decide), f_isVertexX H1 hy, mb_t rfl, f_fails]
    exact hp
  · rw [f_isVertexX H1 q, mb_t rfl, f_fails]
    exact hp
theorem f_isV1_bad (H : ST V n k a b w pr F gr) (hb : bad n x) {A : Int32 → Mm → Prop} {B : Mm → Prop} (h : ∀ V', SF V V' → V' 57 0 = 1 → A 0 V') : (∀ V1 : Mm, V1 = wr V 57 0 0 → (wp_X9_isVertex V1 x (fun (r3 : Int32) (V2 : Mm) => ((r3 = 0 → (wp_X9_fails V2 (1) A)) ∧ (¬ r3 = 0 → B V2))))) := by
  intro V1 e1
  subst e1
  have h0 : SF V (wr V 57 0 0) := SF_0 (by decide)
  rw [f_isVertexX (RG_sf (ST_r H) h0) hb, mb_t rfl, f_fails]
  exact h _ (SF_tr h0 (SF_0 (by decide))) (by rw [wr_eq, upd_eq])
theorem f_isE_bad (H : ST V n k a b w pr F gr) (hb : bad k x) {A : Int32 → Mm → Prop} {B : Mm → Prop} (h : ∀ V', SF V V' → V' 57 0 = 1 → A 0 V') : (∀ V1 : Mm, V1 = wr V 57 0 0 → (wp_X9_isEdge V1 x (fun (r3 : Int32) (V2 : Mm) => ((r3 = 0 → (wp_X9_fails V2 (1) A)) ∧ (¬ r3 = 0 → B V2))))) := by
  intro V1 e1
  subst e1
  have h0 : SF V (wr V 57 0 0) := SF_0 (by decide)
  rw [f_isEdgeX (RG_sf (ST_r H) h0) hb, mb_t rfl, f_fails]
  exact h _ (SF_tr h0 (SF_0 (by decide))) (by rw [wr_eq, upd_eq])
theorem w0 (V : Mm) : wr V 57 0 0 57 0 = 0 := by rw [wr_eq, upd_eq]
theorem j_8 (hJ : JJ V) : wpc_8 V o D a1 a2 a3 JJ := by
  obtain ⟨n, k, a, b, w, pr, F, gr, H⟩ := hJ
  have h20 := GV_n20 (ST_g H)
  unfold wpc_8 wp_L_value wp_X8_value
  refine s_requireVertex (ST_g H) (fun u hu e1 => ?_) (fun hb => ⟨rfl, ?_⟩)
  · rw [e1, e_valueOf (ST_g H) hu]
    show wp_X9_value V (nI u) (fun r5 V6 => fin JJ (vp_updL o 0 (V 2 u).toInt64) 0 r5 V6)
    have h0 : SF V (wr V 57 0 0) := SF_0 (by decide)
    unfold wp_X9_value
    rw [forall_eq, f_isVertex (RG_sf (ST_r H) h0) hu, mb_f (by decide), nI_clamp (by omega)]
    exact ⟨nI_in (by omega) (by omega), fin_ok (w0 V) (by rw [wr_ne _ _ _ (by decide), ST_v H u hu]) (JJ_sf H h0)⟩
  · show wp_X9_value V a1 (fun r5 V6 => fin JJ o 1 r5 V6)
    exact f_isV1_bad H hb (fun V2 hs h0 => fin_no h0 (by decide) (JJ_sf H hs))
theorem j_9 (hJ : JJ V) : wpc_9 V o D a1 a2 a3 JJ := by
  obtain ⟨n, k, a, b, w, pr, F, gr, H⟩ := hJ
  have h60 := GV_k60 (ST_g H)
  unfold wpc_9 wp_L_weight wp_X8_weight
  refine s_requireEdge (ST_g H) (fun u hu e1 => ?_) (fun hb => ⟨rfl, ?_⟩)
  · rw [e1, e_weightOf (ST_g H) hu]
    show wp_X9_weight V (nI u) (fun r5 V6 => fin JJ (vp_updL o 0 (nI (w u)).toInt64) 0 r5 V6)
    have h0 : SF V (wr V 57 0 0) := SF_0 (by decide)
    unfold wp_X9_weight
    rw [forall_eq, f_isEdge (RG_sf (ST_r H) h0) hu, mb_f (by decide), nI_clamp (by omega), RG_w (RG_sf (ST_r H) h0) u hu]
    exact ⟨nI_in (by omega) (by omega), fin_ok (w0 V) rfl (JJ_sf H h0)⟩
  · show wp_X9_weight V a1 (fun r5 V6 => fin JJ o 1 r5 V6)
    exact f_isE_bad H hb (fun V2 hs h0 => fin_no h0 (by decide) (JJ_sf H hs))
theorem j_10 (hJ : JJ V) : wpc_10 V o D a1 a2 a3 JJ := by
  obtain ⟨n, k, a, b, w, pr, F, gr, H⟩ := hJ
  have h60 := GV_k60 (ST_g H)
  unfold wpc_10 wp_L_state wp_X8_state
  refine s_requireEdge (ST_g H) (fun u hu e1 => ?_) (fun hb => ⟨rfl, ?_⟩)
  · rw [e1, e_isPresent (ST_g H) hu]
    have h0 : SF V (wr V 57 0 0) := SF_0 (by decide)
    have H1 := ST_sf H h0
    have go : ∀ c : Int32, ((F u → c = 102) ∧ (¬ F u → (pr u → c = 111) ∧ (¬ pr u → c = 114))) → wp_X9_state V (nI u) (fun r5 V6 => fin JJ (vp_updL o 0 c.toInt64) 0 r5 V6) := fun c hc => by
      unfold wp_X9_state
      rw [forall_eq, f_isEdge (ST_r H1) hu, mb_f (by decide), nI_clamp (by omega), ST_i H1 u hu, RG_p (ST_r H1) u hu]
      refine ⟨nI_in (by omega) (by omega), ?_⟩
      by_cases q1 : F u
      · rw [bI_t q1, mb_f (by decide)]
        exact fin_ok (w0 V) (hc.1 q1).symm (JJ_sf H h0)
      · rw [bI_f q1, mb_t rfl]
        refine ⟨nI_in (by omega) (by omega), ?_⟩
        by_cases q2 : pr u
        · rw [bI_t q2, mb_f (by decide)]
          exact fin_ok (w0 V) ((hc.2 q1).1 q2).symm (JJ_sf H h0)
        · rw [bI_f q2, mb_t rfl]
          exact fin_ok (w0 V) ((hc.2 q1).2 q2).symm (JJ_sf H h0)
    by_cases q2 : pr u
    · rw [bI_t q2, mb_f (by decide), e_holds (ST_g H) (ST_f H) hu]
      by_cases q1 : F u
      · rw [bI_t q1, mb_f (by decide)]
        exact go 102 ⟨fun _ => rfl, fun z => absurd q1 z⟩
      · rw [bI_f q1, mb_t rfl]
        exact go 111 ⟨fun z => absurd z q1, fun _ => ⟨fun _ => rfl, fun z => absurd q2 z⟩⟩
    · rw [bI_f q2, mb_t rfl]
      exact go 114 ⟨fun z => absurd ((ST_m H).1 u z) q2, fun _ => ⟨fun z => absurd z q2, fun _ => rfl⟩⟩
  · show wp_X9_state V a1 (fun r5 V6 => fin JJ o 1 r5 V6)
    unfold wp_X9_state
    intro V1 e1
    subst e1
    have h0 : SF V (wr V 57 0 0) := SF_0 (by decide)
    rw [f_isEdgeX (RG_sf (ST_r H) h0) hb, mb_t rfl, f_fails]
    exact ⟨by decide, fin_no (by rw [wr_eq, upd_eq]) (by decide) (JJ_sf H (SF_tr h0 (SF_0 (by decide))))⟩
theorem j_11 (hJ : JJ V) : wpc_11 V o D a1 a2 a3 JJ := by
  obtain ⟨n, k, a, b, w, pr, F, gr, H⟩ := hJ
  have h60 := GV_k60 (ST_g H)
  have h20 := GV_n20 (ST_g H)
  have h0 : SF V (wr V 57 0 0) := SF_0 (by decide)
  have H1 := ST_sf H h0
  unfold wpc_11 wp_L_otherEnd wp_X8_otherEnd
  refine s_requireEdge (ST_g H) (fun e he e1 => ?_) (fun hb => Or.inl ⟨rfl, ?_⟩)
  · rw [e1]
    refine s_requireVertex (ST_g H) (fun u hu e2 => ?_) (fun hb => Or.inl ⟨rfl, ?_⟩)
    · have ha := GV_an (ST_g H) e he
      have hb := GV_bn (ST_g H) e he
      rw [e2, e_acrossFrom (ST_g H) he (by omega)]
      by_cases q1 : a e = u
      · rw [if_pos q1, mb_f (fun z => (nI_neg (by omega)).mp z)]
        show wp_X9_otherEnd V (nI e) (nI u) (fun r5 V6 => fin JJ (vp_updL o 0 (nI (b e)).toInt64) 0 r5 V6)
        unfold wp_X9_otherEnd
        rw [forall_eq, f_isEdge (ST_r H1) he, mb_f (by decide), f_isVertex (ST_r H1) hu, mb_f (by decide), nI_clamp (by omega), RG_a (ST_r H1) e he, mb_t (by rw [q1]), RG_b (ST_r H1) e he]
        refine ⟨nI_in (by omega) (by omega), nI_in (by omega) (by omega), nI_in (by omega) (by omega), fin_ok (w0 V) ?_ (JJ_sf H h0)⟩
        rw [nI_add, nI_sub (by omega)]; congr 1; omega
      · rw [if_neg q1]
        by_cases q2 : b e = u
        · rw [if_pos q2, mb_f (fun z => (nI_neg (by omega)).mp z)]
          show wp_X9_otherEnd V (nI e) (nI u) (fun r5 V6 => fin JJ (vp_updL o 0 (nI (a e)).toInt64) 0 r5 V6)
          unfold wp_X9_otherEnd
          rw [forall_eq, f_isEdge (ST_r H1) he, mb_f (by decide), f_isVertex (ST_r H1) hu, mb_f (by decide), nI_clamp (by omega), RG_a (ST_r H1) e he, mb_f (fun z => q1 ((nI_eq (by omega) (by omega)).mp z)), RG_b (ST_r H1) e he, mb_t (by rw [q2])]
          refine ⟨nI_in (by omega) (by omega), nI_in (by omega) (by omega), nI_in (by omega) (by omega), nI_in (by omega) (by omega), fin_ok (w0 V) ?_ (JJ_sf H h0)⟩
          rw [nI_add, nI_sub (by omega)]; congr 1; omega
        · rw [if_neg q2, mb_t rfl]
          refine Or.inr ⟨rfl, ?_⟩
          show wp_X9_otherEnd V (nI e) (nI u) (fun r5 V6 => fin JJ o 2 r5 V6)
          unfold wp_X9_otherEnd
          rw [forall_eq, f_isEdge (ST_r H1) he, mb_f (by decide), f_isVertex (ST_r H1) hu, mb_f (by decide), nI_clamp (by omega), RG_a (ST_r H1) e he, mb_f (fun z => q1 ((nI_eq (by omega) (by omega)).mp z)), RG_b (ST_r H1) e he, mb_f (fun z => q2 ((nI_eq (by omega) (by omega)).mp z)), f_fails]
          exact ⟨nI_in (by omega) (by omega), nI_in (by omega) (by omega), fin_no (by rw [wr_eq, upd_eq]) (by decide) (JJ_sf H1 (SF_0 (by decide)))⟩
    · show wp_X9_otherEnd V (nI e) a2 (fun r5 V6 => fin JJ o 1 r5 V6)
      unfold wp_X9_otherEnd
      rw [forall_eq, f_isEdge (ST_r H1) he, mb_f (by decide), f_isVertexX (ST_r H1) hb, mb_t rfl, f_fails]
      exact fin_no (by rw [wr_eq, upd_eq]) (by decide) (JJ_sf H1 (SF_0 (by decide)))
  · show wp_X9_otherEnd V a1 a2 (fun r5 V6 => fin JJ o 1 r5 V6)
    exact f_isE_bad H hb (fun V2 hs h0 => fin_no h0 (by decide) (JJ_sf H hs))
theorem j_12 (hJ : JJ V) : wpc_12 V o D a1 a2 a3 JJ := by
  obtain ⟨n, k, a, b, w, pr, F, gr, H⟩ := hJ
  have h0 : SF V (wr V 57 0 0) := SF_0 (by decide)
  have H1 := ST_sf H h0
  unfold wpc_12 wp_L_parallel wp_X8_parallel
  refine s_requireVertices (ST_g H) (fun u v hu hv e1 e2 => ?_) (fun hb => ⟨rfl, ?_⟩)
  · rw [e1, e2]
    refine s_countBetween (ST_g H) hu hv ?_
    show wp_X9_parallel V (nI u) (nI v) (fun r5 V6 => fin JJ (vp_updL o 0 (nI (ct (fun e => pr e ∧ jn a b e u v) k)).toInt64) 0 r5 V6)
    unfold wp_X9_parallel
    rw [forall_eq, f_isVertex (ST_r H1) hu, mb_f (by decide), f_isVertex (ST_r H1) hv, mb_f (by decide)]
    exact f_parallel (ST_r H1) hu hv (post := fun r5 V6 => fin JJ (vp_updL o 0 (nI (ct (fun e => pr e ∧ jn a b e u v) k)).toInt64) 0 r5 V6) (fin_ok (w0 V) rfl (JJ_sf H h0))
  · show wp_X9_parallel V a1 a2 (fun r5 V6 => fin JJ o 1 r5 V6)
    exact f_isV_bad H hb (fun V2 hs h0 => fin_no h0 (by decide) (JJ_sf H hs))
theorem least_neg {P : Nat → Prop} {K : Nat → Nat} {i : Nat} (hi : i < 2 ^ 31) (h : least P K i x) : 0 ≤ x ↔ ¬ x = -1 := by
  rcases h with ⟨h1, -⟩ | ⟨m, h1, -, h3, -⟩
  · rw [h1]; exact ⟨fun q => absurd q (by decide), fun q => absurd rfl q⟩
  · rw [h3]; exact ⟨fun _ z => (nI_neg (by omega)).mp z, fun _ => nI_pos' (by omega)⟩
theorem j_13 (hJ : JJ V) : wpc_13 V o D a1 a2 a3 JJ := by
  obtain ⟨n, k, a, b, w, pr, F, gr, H⟩ := hJ
  have h60 := GV_k60 (ST_g H)
  have h0 : SF V (wr V 57 0 0) := SF_0 (by decide)
  have H1 := ST_sf H h0
  unfold wpc_13 wp_L_lightest wp_X8_lightest
  refine s_requireVertices (ST_g H) (fun u v hu hv e1 e2 => ?_) (fun hb => Or.inl ⟨rfl, ?_⟩)
  · rw [e1, e2]
    refine s_firstBetween (ST_g H) hu hv (fun x hx => ?_)
    have huni : ∀ y, least (fun e => pr e ∧ jn a b e u v) (ky w) k y → y = x := fun y hy => least_uni (by omega) (fun e f he hf q => ky_inj (by omega) (by omega) q) hy hx
    have hn := least_neg (by omega) hx
    refine ⟨fun q => Or.inr ⟨rfl, ?_⟩, fun q => ?_⟩
    · show wp_X9_lightest V (nI u) (nI v) (fun r5 V6 => fin JJ o 2 r5 V6)
      unfold wp_X9_lightest
      rw [forall_eq, f_isVertex (ST_r H1) hu, mb_f (by decide), f_isVertex (ST_r H1) hv, mb_f (by decide)]
      refine f_lightest (ST_r H1) hu hv (fun y z hy => ?_)
      rw [huni y hy, mb_f (fun z => hn.mp z q), f_fails]
      exact fin_no (by rw [wr_eq, upd_eq]) (by decide) (JJ_sf H1 (SF_0 (by decide)))
    · show wp_X9_lightest V (nI u) (nI v) (fun r5 V6 => fin JJ (vp_updL o 0 x.toInt64) 0 r5 V6)
      unfold wp_X9_lightest
      rw [forall_eq, f_isVertex (ST_r H1) hu, mb_f (by decide), f_isVertex (ST_r H1) hv, mb_f (by decide)]
      refine f_lightest (ST_r H1) hu hv (fun y z hy => ?_)
      rw [huni y hy, mb_t (hn.mpr q)]
      exact fin_ok (w0 V) rfl (JJ_sf H h0)
  · show wp_X9_lightest V a1 a2 (fun r5 V6 => fin JJ o 1 r5 V6)
    exact f_isV_bad H hb (fun V2 hs h0 => fin_no h0 (by decide) (JJ_sf H hs))
theorem j_17 (hJ : JJ V) : wpc_17 V o D a1 a2 a3 JJ := by
  obtain ⟨n, k, a, b, w, pr, F, gr, H⟩ := hJ
  have h20 := GV_n20 (ST_g H)
  have h0 : SF V (wr V 57 0 0) := SF_0 (by decide)
  have H1 := ST_sf H h0
  unfold wpc_17 wp_L_degree wp_X8_degree
  refine s_requireVertex (ST_g H) (fun u hu e1 => ?_) (fun hb => ⟨rfl, ?_⟩)
  · rw [e1]
    refine s_countNeighbours (ST_g H) (ST_f H) hu ?_
    show wp_X9_degree V (nI u) (fun r5 V6 => fin JJ (vp_updL o 0 (nI (ct (nb a b F u) n)).toInt64) 0 r5 V6)
    unfold wp_X9_degree
    rw [forall_eq, f_isVertex (ST_r H1) hu, mb_f (by decide)]
    have key : ∀ f i, i + f = n → wp_X9_degree_L23 (nI u) (fun r5 V6 => fin JJ (vp_updL o 0 (nI (ct (nb a b F u) n)).toInt64) 0 r5 V6) (fun (V9 : Mm) (x10 : Int32) (x11 : Int32) => fin JJ (vp_updL o 0 (nI (ct (nb a b F u) n)).toInt64) 0 x10 V9) (f + 1) (wr V 57 0 0) (nI (ct (nb a b F u) i)) (nI i) := by
      intro f
      induction f with
      | zero =>
        intro i hi
        have : i = n := by omega
        subst this
        rw [wp_X9_degree_L23, RG_n (ST_r H1), mb_t (Int32.le_refl _)]
        exact fin_ok (w0 V) rfl (JJ_sf H h0)
      | succ f ih =>
        intro i hi
        have ih := ih (i + 1) (by omega)
        rw [wp_X9_degree_L23, RG_n (ST_r H1), mb_f (fun z => absurd ((nI_leI (by omega) (by omega)).mp z) (by omega))]
        refine f_isNeighbour (ST_r H1) (ST_i H1) (FV_fk (ST_f H1)) hu (by omega) ?_
        rw [nI_1, nI_1, Int32.add_zero]
        by_cases q : nb a b F u i
        · rw [bI_t q, mb_f (by decide)]; rw [ct_y q] at ih; exact ih
        · rw [bI_f q, mb_t rfl]; rw [ct_n q] at ih; exact ih
    exact ⟨n + 1, key n 0 (by omega)⟩
  · show wp_X9_degree V a1 (fun r5 V6 => fin JJ o 1 r5 V6)
    exact f_isV1_bad H hb (fun V2 hs h0 => fin_no h0 (by decide) (JJ_sf H hs))
theorem sub_z {x y : Int32} : x - y = 0 ↔ y = x := ⟨fun q => by
  have := Int32.sub_add_cancel x y
  rw [q, Int32.zero_add] at this
  exact this, fun q => by rw [q, Int32.sub_self]⟩
theorem j_18 (hJ : JJ V) : wpc_18 V o D a1 a2 a3 JJ := by
  obtain ⟨n, k, a, b, w, pr, F, gr, H⟩ := hJ
  have h20 := GV_n20 (ST_g H)
  have h0 : SF V (wr V 57 0 0) := SF_0 (by decide)
  have H1 := ST_sf H h0
  unfold wpc_18 wp_L_neighbour wp_X8_neighbour
  refine s_requireVertex (ST_g H) (fun u hu e1 => ?_) (fun hb => Or.inl ⟨rfl, ?_⟩)
  · rw [e1]
    have key : ∀ (P : Int32 → Mm → Prop), (∀ v, v < n → nb a b F u v → nI (ct (nb a b F u) v) = a2 → (∀ t, t < v → nb a b F u t → nI (ct (nb a b F u) t) ≠ a2) → P (nI v) (wr V 57 0 0)) → ((∀ v, v < n → nb a b F u v → nI (ct (nb a b F u) v) ≠ a2) → P 0 (wr (wr V 57 0 0) 57 0 2)) → wp_X9_neighbour V (nI u) a2 P := by
      intro P hP1 hP2
      unfold wp_X9_neighbour
      rw [forall_eq, f_isVertex (ST_r H1) hu, mb_f (by decide)]
      have loop : ∀ f i, i + f = n → (∀ v, v < i → nb a b F u v → nI (ct (nb a b F u) v) ≠ a2) → wp_X9_neighbour_L24 (nI u) P (fun (V10 : Mm) (x11 : Int32) (x12 : Int32) => (wp_X9_fails V10 (2) (fun (r14 : Int32) (V13 : Mm) => P r14 V13))) (f + 1) (wr V 57 0 0) (a2 - nI (ct (nb a b F u) i)) (nI i) := by
        intro f
        induction f with
        | zero =>
          intro i hi hx
          have : i = n := by omega
          subst this
          rw [wp_X9_neighbour_L24, RG_n (ST_r H1), mb_t (Int32.le_refl _), f_fails]
          exact hP2 hx
        | succ f ih =>
          intro i hi hx
          rw [wp_X9_neighbour_L24, RG_n (ST_r H1), mb_f (fun z => absurd ((nI_leI (by omega) (by omega)).mp z) (by omega))]
          refine f_isNeighbour (ST_r H1) (ST_i H1) (FV_fk (ST_f H1)) hu (by omega) ?_
          rw [nI_1]
          by_cases q : nb a b F u i
          · rw [bI_t q, mb_f (by decide), sub_z]
            refine ⟨fun z => hP1 i (by omega) q z hx, fun z => ?_⟩
            have ih := ih (i + 1) (by omega) (fun v hv hn => (lt_or_eq1 hv).elim (fun y => hx v y hn) (fun y => by rw [y]; exact z))
            rw [ct_y q, ← nI_1] at ih
            have e : a2 - nI (ct (nb a b F u) i) + -1 = a2 - (nI (ct (nb a b F u) i) + 1) := by
              rw [Int32.sub_eq_add_neg, Int32.sub_eq_add_neg, Int32.neg_add, Int32.sub_eq_add_neg, Int32.add_assoc]
            rw [e]; exact ih
          · rw [bI_f q, mb_t rfl]
            have ih := ih (i + 1) (by omega) (fun v hv hn => (lt_or_eq1 hv).elim (fun y => hx v y hn) (fun y => absurd (by rw [← y]; exact hn) q))
            rw [ct_n q] at ih
            exact ih
      refine ⟨n + 1, ?_⟩
      have := loop n 0 (by omega) (fun v hv => absurd hv (Nat.not_lt_zero _))
      have e0 : a2 - nI (ct (nb a b F u) 0) = a2 := Int32.sub_zero _
      rw [e0] at this
      exact this
    refine s_neighbourAt (ST_g H) (ST_f H) hu (fun v hv hn hc => ?_) (fun hno => ?_)
    · rw [mb_f (fun z => (nI_neg (by omega)).mp z)]
      refine key (fun r5 V6 => fin JJ (vp_updL o 0 (nI v).toInt64) 0 r5 V6) (fun t ht hn2 hc2 _ => ?_) (fun q => absurd hc (q v hv hn))
      have lc := ct_le (p := nb a b F u) v
      have lc2 := ct_le (p := nb a b F u) t
      have hct : ct (nb a b F u) v = ct (nb a b F u) t := (nI_eq (by omega) (by omega)).mp (hc.trans hc2.symm)
      -- the same count at two neighbours: the same neighbour
      have mono : ∀ s t, s < t → nb a b F u s → ct (nb a b F u) s < ct (nb a b F u) t := fun s t hst hs => by
        have m2 : ∀ d, ct (nb a b F u) (s + 1) ≤ ct (nb a b F u) (s + 1 + d) := fun d => by
          induction d with
          | zero => exact Nat.le_refl _
          | succ d ih =>
            by_cases q : nb a b F u (s + 1 + d)
            · have := ct_y q; show _ ≤ ct (nb a b F u) (s + 1 + d + 1); omega
            · have := ct_n q; show _ ≤ ct (nb a b F u) (s + 1 + d + 1); omega
        have := m2 (t - (s + 1))
        rw [show s + 1 + (t - (s + 1)) = t by omega, ct_y hs] at this
        omega
      have hvt : v = t := by
        rcases Nat.lt_trichotomy v t with q | q | q
        · have := mono v t q hn; omega
        · exact q
        · have := mono t v q hn2; omega
      exact fin_ok (w0 V) (by rw [hvt]) (JJ_sf H h0)
    · rw [mb_t rfl]
      exact Or.inr ⟨rfl, key (fun r5 V6 => fin JJ o 2 r5 V6) (fun t ht hn2 hc2 _ => absurd hc2 (hno t ht hn2)) (fun _ => fin_no (by rw [wr_eq, upd_eq]) (by decide) (JJ_sf H1 (SF_0 (by decide))))⟩
  · show wp_X9_neighbour V a1 a2 (fun r5 V6 => fin JJ o 1 r5 V6)
    exact f_isV1_bad H hb (fun V2 hs h0 => fin_no h0 (by decide) (JJ_sf H hs))
/-- the law's last test of a call that answers yes or no -/
def finB (J : Mm → Prop) (o3 : Nat → Int64) (k1 r5 : Int32) (V6 : Mm) : Prop := wp_X9_thrown V6 (fun (r7 : Int32) (V8 : Mm) => ((r7 = k1 → ((k1 = 0 → ((r5 = 0 → (((lg_cmp ((o3 0)) (0)) = 0 → J V8) ∧ (¬ (lg_cmp ((o3 0)) (0)) = 0 → False))) ∧ (¬ r5 = 0 → (((lg_cmp ((o3 0)) (1)) = 0 → J V8) ∧ (¬ (lg_cmp ((o3 0)) (1)) = 0 → False))))) ∧ (¬ k1 = 0 → J V8))) ∧ (¬ r7 = k1 → False)))
theorem finB_ok {p : Prop} {V6 : Mm} (h0 : V6 57 0 = 0) (hJ : J V6) : (bI p = 0 → finB J (vp_updL o 0 0) 0 (bI p) V6) ∧ (¬ bI p = 0 → finB J (vp_updL o 0 1) 0 (bI p) V6) := by
  unfold finB wp_X9_thrown
  rw [h0, updL_eq, updL_eq, lg_same, lg_same]
  exact ⟨fun q => ⟨fun _ => ⟨fun _ => ⟨fun _ => ⟨fun _ => hJ, fun z => absurd rfl z⟩, fun z => absurd q z⟩, fun _ => hJ⟩, fun z => absurd rfl z⟩, fun q => ⟨fun _ => ⟨fun _ => ⟨fun z => absurd z q, fun _ => ⟨fun _ => hJ, fun z => absurd rfl z⟩⟩, fun _ => hJ⟩, fun z => absurd rfl z⟩⟩
theorem finB_no {V6 : Mm} {kk r5 : Int32} (h0 : V6 57 0 = kk) (hk : kk ≠ 0) (hJ : J V6) : finB J o kk r5 V6 := by
  unfold finB wp_X9_thrown
  rw [h0]
  exact ⟨fun _ => ⟨fun q => absurd q hk, fun _ => hJ⟩, fun q => absurd rfl q⟩
theorem f_isConnected (H : ST V n k a b w pr F gr) (hu : u < n) (hv : v < n) (h : post (bI (cn a b F u v)) (wr V 57 0 0)) : wp_X9_isConnected V (nI u) (nI v) post := by
  have h20 := GV_n20 (ST_g H)
  have H1 := ST_sf H (SF_0 (x := 0) (j := 0) (by decide))
  have := ST_s H u hu
  have := ST_s H v hv
  unfold wp_X9_isConnected
  rw [forall_eq, f_isVertex (ST_r H1) hu, mb_f (by decide), f_isVertex (ST_r H1) hv, mb_f (by decide), nI_clamp (by omega), nI_clamp (by omega), ST_l H1 u hu, ST_l H1 v hv, nI_eq (by omega) (by omega)]
  refine ⟨nI_in (by omega) (by omega), nI_in (by omega) (by omega), ?_⟩
  have hl := ST_lb H u v hu hv
  by_cases q : gr u = gr v
  · rw [mb_t q]; rw [bI_t (hl.mp q)] at h; exact h
  · rw [mb_f q]; rw [bI_f (fun z => q (hl.mpr z))] at h; exact h
theorem f_isConnected_bad (H : ST V n k a b w pr F gr) (hb : bad n x ∨ bad n y) (h : ∀ V', SF V V' → V' 57 0 = 1 → post 0 V') : wp_X9_isConnected V x y post := by
  unfold wp_X9_isConnected
  refine f_isV_bad H hb (A := fun r6 V5 => (r6 ≤ 0 → post 0 V5) ∧ (¬ r6 ≤ 0 → post 1 V5)) (fun V2 hs h0 => ?_)
  rw [mb_t (by decide)]
  exact h V2 hs h0
theorem j_19 (hJ : JJ V) : wpc_19 V o D a1 a2 a3 JJ := by
  obtain ⟨n, k, a, b, w, pr, F, gr, H⟩ := hJ
  unfold wpc_19 wp_L_isConnected wp_X8_isConnected
  refine s_requireVertices (ST_g H) (fun u v hu hv e1 e2 => ?_) (fun hb => ⟨rfl, ?_⟩)
  · rw [e1, e2]
    refine s_plantF H hu (fun V1 hf cnt ord par dep pe lp R T => ?_)
    have H1 := ST_sf H (SF_cl (fun c hc => hf c (by omega)))
    rw [e_holds7 (ST_g H1) T hv, show R v ↔ cn a b F u v from rt_cn (TV_rt T)]
    refine ⟨bI_nar _, ?_⟩
    have hB := finB_ok (J := JJ) (o := o) (p := cn a b F u v) (w0 V1) (JJ_sf H1 (SF_0 (x := 0) (j := 0) (by decide)))
    exact ⟨fun q => f_isConnected H1 hu hv (post := fun r5 V6 => finB JJ (vp_updL o 0 0) 0 r5 V6) (hB.1 q), fun q => f_isConnected H1 hu hv (post := fun r5 V6 => finB JJ (vp_updL o 0 1) 0 r5 V6) (hB.2 q)⟩
  · show wp_X9_isConnected V a1 a2 (fun r5 V6 => finB JJ o 1 r5 V6)
    exact f_isConnected_bad H hb (fun V2 hs h0 => finB_no h0 (by decide) (JJ_sf H hs))
theorem ST_cn (H : ST V n k a b w pr F gr) : cn a b pr u v ↔ cn a b F u v := by
  constructor
  · intro q
    exact q (fun z => cn a b F u z) (cn_refl _ _) (fun e he => ⟨fun z => cn_trans z (msf_span (ST_m H) he), fun z => cn_trans z (cn_symm (msf_span (ST_m H) he))⟩)
  · exact cn_mono (ST_m H).1
theorem j_20 (hJ : JJ V) : wpc_20 V o D a1 a2 a3 JJ := by
  obtain ⟨n, k, a, b, w, pr, F, gr, H⟩ := hJ
  unfold wpc_20 wp_L_isConnectedByWalk wp_X8_isConnectedByWalk
  refine s_requireVertices (ST_g H) (fun u v hu hv e1 e2 => ?_) (fun hb => ⟨rfl, ?_⟩)
  · rw [e1, e2]
    refine s_leadsTo (ST_g H) hu hv (fun V1 hf => ?_)
    have H1 := ST_sf H (SF_cl (fun c hc => hf c (by omega)))
    rw [ST_cn H]
    refine ⟨bI_nar _, ?_⟩
    have hB := finB_ok (J := JJ) (o := o) (p := cn a b F u v) (w0 V1) (JJ_sf H1 (SF_0 (x := 0) (j := 0) (by decide)))
    refine ⟨fun q => ?_, fun q => ?_⟩
    · show wp_X9_isConnectedByWalk V1 (nI u) (nI v) (fun r5 V6 => finB JJ (vp_updL o 0 0) 0 r5 V6)
      unfold wp_X9_isConnectedByWalk
      exact f_isConnected H1 hu hv ⟨bI_nar _, hB.1 q⟩
    · show wp_X9_isConnectedByWalk V1 (nI u) (nI v) (fun r5 V6 => finB JJ (vp_updL o 0 1) 0 r5 V6)
      unfold wp_X9_isConnectedByWalk
      exact f_isConnected H1 hu hv ⟨bI_nar _, hB.2 q⟩
  · show wp_X9_isConnectedByWalk V a1 a2 (fun r5 V6 => finB JJ o 1 r5 V6)
    unfold wp_X9_isConnectedByWalk
    exact f_isConnected_bad H hb (fun V2 hs h0 => ⟨by decide, finB_no h0 (by decide) (JJ_sf H hs)⟩)
end CASES3
