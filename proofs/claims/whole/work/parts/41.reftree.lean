section REFTREE
variable {n k : Nat} {a b w : Nat → Nat} {pr F : Nat → Prop} {gr : Nat → Nat} {V V' V0 V1 V2 : Mm} {post : Int32 → Mm → Prop} {pp : Int32 → Mm → Prop} {pos : Mm → Prop} {u v e r cnt d : Nat} {x y z : Int32} {ord par dep pe : Nat → Nat} {R S : Nat → Prop}
theorem RT_lt (T : RT V n a b S r cnt ord par dep pe R) (hv : R v) : v < n := BF_Rlt (RT_bf T) hv
theorem RT_d (T : RT V n a b S r cnt ord par dep pe R) (hv : R v) : dep v < n := BF_dlt (RT_bf T) hv
theorem RT_par (T : RT V n a b S r cnt ord par dep pe R) (hv : R v) (hr : v ≠ r) : V 67 v = nI (par v) := RP_p (RT_rp T) v hv hr
theorem RT_r (T : RT V n a b S r cnt ord par dep pe R) : V 67 r = -1 := RP_r (RT_rp T)
theorem RT_dep (T : RT V n a b S r cnt ord par dep pe R) (hv : R v) : V 68 v = nI (dep v) := RP_y (RT_rp T) v hv
theorem f_climb_ancestor (T : RT V n a b S r cnt ord par dep pe R) (h20 : n ≤ 20) (hv : R v) (hd : d ≤ dep v) (h : post (nI (up par d v)) V) : ∃ m : Nat, wp_X9_ancestor_L37 (nI d) pp (fun (V8 : Mm) (x9 : Int32) (x10 : Int32) => post x9 V8) m V (nI v) 0 := by
  have hdv := RT_d T hv
  have key : ∀ f i, i + f = d → wp_X9_ancestor_L37 (nI d) pp (fun (V8 : Mm) (x9 : Int32) (x10 : Int32) => post x9 V8) (f + 1) V (nI (up par i v)) (nI i) := by
    intro f
    induction f with
    | zero =>
      intro i hi
      have : i = d := by omega
      subst this
      rw [wp_X9_ancestor_L37, mb_t (Int32.le_refl _)]
      exact h
    | succ f ih =>
      intro i hi
      obtain ⟨g1, g2, g3⟩ := up_lt (RT_rt T) hv (show i < dep v by omega)
      have g4 := RT_lt T g1
      have ih := ih (i + 1) (by omega)
      rw [up_succ] at ih
      rw [wp_X9_ancestor_L37, mb_f (fun z => absurd ((nI_leI (by omega) (by omega)).mp z) (by omega)), nI_clamp (by omega), RT_par T g1 g2, nI_1]
      exact ⟨nI_in (by omega) (by omega), ih⟩
  exact ⟨d + 1, key d 0 (by omega)⟩
theorem f_climb_pathVertex (T : RT V n a b S r cnt ord par dep pe R) (h20 : n ≤ 20) (hv : R v) (hd : d ≤ dep v) (h : post (nI (up par d v)) V) : ∃ m : Nat, wp_X9_pathVertex_L37 (nI d) pp (fun (V8 : Mm) (x9 : Int32) (x10 : Int32) => post x9 V8) m V (nI v) 0 := by
  have hdv := RT_d T hv
  have key : ∀ f i, i + f = d → wp_X9_pathVertex_L37 (nI d) pp (fun (V8 : Mm) (x9 : Int32) (x10 : Int32) => post x9 V8) (f + 1) V (nI (up par i v)) (nI i) := by
    intro f
    induction f with
    | zero =>
      intro i hi
      have : i = d := by omega
      subst this
      rw [wp_X9_pathVertex_L37, mb_t (Int32.le_refl _)]
      exact h
    | succ f ih =>
      intro i hi
      obtain ⟨g1, g2, g3⟩ := up_lt (RT_rt T) hv (show i < dep v by omega)
      have g4 := RT_lt T g1
      have ih := ih (i + 1) (by omega)
      rw [up_succ] at ih
      rw [wp_X9_pathVertex_L37, mb_f (fun z => absurd ((nI_leI (by omega) (by omega)).mp z) (by omega)), nI_clamp (by omega), RT_par T g1 g2, nI_1]
      exact ⟨nI_in (by omega) (by omega), ih⟩
  exact ⟨d + 1, key d 0 (by omega)⟩
theorem f_common (T : RT V n a b S r cnt ord par dep pe R) (h20 : n ≤ 20) (hu : R u) (hv : R v) (h : ∀ m, lca par dep m u v → post (nI m) V) : ∃ m : Nat, wp_X9_common_L74 pp (fun (V22 : Mm) (x23 : Int32) (x24 : Int32) => post x23 V22) m V (nI u) (nI v) := by
  have key : ∀ f u v, R u → R v → dep u + dep v < f → (∀ m, lca par dep m u v → post (nI m) V) → wp_X9_common_L74 pp (fun (V22 : Mm) (x23 : Int32) (x24 : Int32) => post x23 V22) f V (nI u) (nI v) := by
    intro f
    induction f with
    | zero => intro u v _ _ hd; omega
    | succ f ih =>
      intro u v hu hv hd hm
      have h1 := RT_lt T hu
      have h2 := RT_lt T hv
      have h3 := RT_d T hu
      have h4 := RT_d T hv
      rw [wp_X9_common_L74, nI_clamp (by omega), nI_clamp (by omega), RT_dep T hu, RT_dep T hv]
      refine ⟨fun q => hm u ?_, fun q => ⟨nI_in (by omega) (by omega), nI_in (by omega) (by omega), fun q2 => ⟨nI_in (by omega) (by omega), ?_⟩, fun q2 => ⟨nI_in (by omega) (by omega), ?_⟩⟩⟩
      · rw [(nI_eq (by omega) (by omega)).mp q]; exact lca_self
      · have q : u ≠ v := fun z => q (by rw [z])
        have q2 := (nI_ltI (by omega) (by omega)).mp q2
        obtain ⟨g1, g2⟩ := lca_step (RT_rt T) hv hu (Ne.symm q) (by omega) (m := 0)
        obtain ⟨g3, g4, -⟩ := (RT_rt T).2.2.1 v hv g1
        rw [RT_par T hv g1]
        exact ih u (par v) hu g3 (by omega) (fun m z => hm m (lca_sw ((lca_step (RT_rt T) hv hu (Ne.symm q) (by omega)).2 (lca_sw z))))
      · have q : u ≠ v := fun z => q (by rw [z])
        have q2 : ¬ dep u < dep v := fun z => q2 ((nI_ltI (by omega) (by omega)).mpr z)
        obtain ⟨g1, g2⟩ := lca_step (RT_rt T) hu hv q (by omega) (m := 0)
        obtain ⟨g3, g4, -⟩ := (RT_rt T).2.2.1 u hu g1
        rw [RT_par T hu g1]
        exact ih (par u) v g3 hv (by omega) (fun m z => hm m ((lca_step (RT_rt T) hu hv q (by omega)).2 z))
  exact ⟨dep u + dep v + 1, key _ u v hu hv (Nat.lt_succ_self _) h⟩
theorem f_pathSum (T : RT V n a b S r cnt ord par dep pe R) (h20 : n ≤ 20) (hv : R v) (h : post (ps (V 58) par (dep v) v) V) : ∃ m : Nat, wp_X9_pathSum_L16 pp (fun (V5 : Mm) (x6 : Int32) (x7 : Int32) => post x6 V5) m V 0 (nI v) := by
  have key : ∀ f x u, R u → dep u = f → x + ps (V 58) par (dep u) u = ps (V 58) par (dep v) v → wp_X9_pathSum_L16 pp (fun (V5 : Mm) (x6 : Int32) (x7 : Int32) => post x6 V5) (f + 2) V x (nI u) := by
    intro f
    induction f with
    | zero =>
      intro x u hu hd hx
      have hr := rt_dep0 (RT_rt T) hu hd
      have h1 := RT_lt T hu
      rw [wp_X9_pathSum_L16, mb_f (fun z => (nI_neg (by omega)).mp z), nI_clamp (by omega)]
      refine ⟨nI_in (by omega) (by omega), nI_in (by omega) (by omega), ?_⟩
      rw [hd] at hx
      have hx : x + V 58 u = ps (V 58) par (dep v) v := hx
      rw [hx, hr, RT_r T, wp_X9_pathSum_L16, mb_t rfl]
      exact h
    | succ f ih =>
      intro x u hu hd hx
      have hr : u ≠ r := fun q => by rw [q, (RT_rt T).2.1] at hd; omega
      obtain ⟨g1, g2, -⟩ := (RT_rt T).2.2.1 u hu hr
      have h1 := RT_lt T hu
      rw [wp_X9_pathSum_L16, mb_f (fun z => (nI_neg (by omega)).mp z), nI_clamp (by omega), RT_par T hu hr]
      refine ⟨nI_in (by omega) (by omega), nI_in (by omega) (by omega), ih _ _ g1 (by omega) ?_⟩
      rw [g2] at hx
      rw [Int32.add_assoc]
      exact hx
  exact ⟨dep v + 2, key _ 0 v hv rfl (Int32.zero_add _)⟩
theorem f_between (H : RG V n k a b w pr) (hF : ∀ e, e < k → V 65 e = bI (F e)) (hFk : ∀ e, F e → e < k) (hA : acy a b F) (hu : u < n) (hv : v < n) (he : F e) (hj : jn a b e u v) (h : post (nI e) V) : wp_X9_between V (nI u) (nI v) post := by
  have h60 := RG_k60 H
  have hek := hFk e he
  have key : ∀ f i x, i + f = k → (e < i → x = nI e) → wp_X9_between_L5 (nI u) (nI v) post (fun (V6 : Mm) (x7 : Int32) (x8 : Int32) => post x7 V6) (f + 1) V x (nI i) := by
    intro f
    induction f with
    | zero =>
      intro i x hi hx
      have : i = k := by omega
      subst this
      rw [wp_X9_between_L5, RG_k H, mb_t (Int32.le_refl _), hx hek]
      exact h
    | succ f ih =>
      intro i x hi hx
      have hik : i < k := by omega
      rw [wp_X9_between_L5, RG_k H, mb_f (fun z => absurd ((nI_leI (by omega) (by omega)).mp z) (by omega)), nI_clamp (by omega), hF i hik, nI_1]
      refine ⟨nI_in (by omega) (by omega), ?_⟩
      by_cases hFi : F i
      · rw [bI_t hFi, mb_f (by decide), f_joins H hik hu hv]
        by_cases hji : jn a b i u v
        · rw [bI_t hji, mb_f (by decide)]
          exact ih (i + 1) _ (by omega) (fun _ => by rw [jn_uni hA hFi he hji hj])
        · rw [bI_f hji, mb_t rfl]
          exact ih (i + 1) _ (by omega) (fun z => (lt_or_eq1 z).elim hx (fun z => absurd (by rw [← z]; exact hj) hji))
      · rw [bI_f hFi, mb_t rfl]
        exact ih (i + 1) _ (by omega) (fun z => (lt_or_eq1 z).elim hx (fun z => absurd (by rw [← z]; exact he) hFi))
  exact ⟨k + 1, key k 0 (-1) (by omega) (fun z => absurd z (Nat.not_lt_zero _))⟩
theorem f_last (H : RG V n k a b w pr) (hF : ∀ e, e < k → V 65 e = bI (F e)) (hFk : ∀ e, F e → e < k) (hA : acy a b F) (T : RT V n a b F r cnt ord par dep pe R) (hv : R v) (hne : v ≠ r) (h : ∀ f, lst a b (ky w) F r v f → post (nI f) V) : ∃ m : Nat, wp_X9_last_L27 (nI r) pp (fun (V12 : Mm) (x13 : Int32) (x14 : Int32) => post x13 V12) m V (-1) (nI v) := by
  have h20 := RG_n20 H
  have h60 := RG_k60 H
  have hdv := RT_d T hv
  have hrn := RT_lt T (RT_rt T).1
  have key : ∀ f i g, i + f = dep v → pl a b (ky w) F par pe v i g → wp_X9_last_L27 (nI r) pp (fun (V12 : Mm) (x13 : Int32) (x14 : Int32) => post x13 V12) (f + 1) V (nI g) (nI (up par i v)) := by
    intro f
    induction f with
    | zero =>
      intro i g hi hg
      have : i = dep v := by omega
      rw [this, rt_top (RT_rt T) hv, wp_X9_last_L27, mb_t rfl]
      exact h g (pl_fin hA (RT_rt T) hv this.symm hg)
    | succ f ih =>
      intro i g hi hg
      obtain ⟨g1, g2, g3⟩ := up_lt (RT_rt T) hv (show i < dep v by omega)
      obtain ⟨g5, -, g6, g7⟩ := (RT_rt T).2.2.1 _ g1 g2
      have hgk := hFk _ hg.1
      have hek := hFk _ g6
      have g8 := RT_lt T g1
      rw [wp_X9_last_L27, mb_f (fun z => g2 ((nI_eq (by omega) (by omega)).mp z)), nI_clamp (by omega), RT_par T g1 g2]
      refine ⟨nI_in (by omega) (by omega), f_between H hF hFk hA g8 (RT_lt T g5) g6 g7 ?_⟩
      have ih1 := fun g q => ih (i + 1) g (by omega) q
      rw [up_succ] at ih1
      rw [mb_f (nI_pos (by omega)), f_comesBefore H hgk hek, bI_eq0]
      by_cases hK : ky w g < ky w (pe (up par i v))
      · rw [mb_f (fun z => z hK), RT_par T g1 g2]
        exact ⟨nI_in (by omega) (by omega), ih1 _ (pl_new (RT_rt T) hv (by omega) hg hK)⟩
      · rw [mb_t hK, RT_par T g1 g2]
        exact ⟨nI_in (by omega) (by omega), ih1 _ (pl_old (RT_rt T) hv (by omega) hg hK)⟩
  obtain ⟨g5, g7, g6, g9⟩ := (RT_rt T).2.2.1 _ hv hne
  have g8 := RT_lt T hv
  refine ⟨dep v + 1, ?_⟩
  rw [wp_X9_last_L27, mb_f (fun z => hne ((nI_eq (by omega) (by omega)).mp z)), nI_clamp (by omega), RT_par T hv hne]
  refine ⟨nI_in (by omega) (by omega), f_between H hF hFk hA g8 (RT_lt T g5) g6 g9 ?_⟩
  rw [mb_t (by decide), RT_par T hv hne, show dep v = dep v - 1 + 1 by omega]
  exact ⟨nI_in (by omega) (by omega), key (dep v - 1) 1 _ (by omega) (pl_first (RT_rt T) hv (by omega))⟩
theorem f_isHead (T : RT V n a b S r cnt ord par dep pe R) (h20 : n ≤ 20) (hv : R v) : wp_X9_isHead V (nI v) post = post (bI (v = r ∨ ¬ hvp R r par (sz R par dep n) v)) V := by
  have h1 := RT_lt T hv
  unfold wp_X9_isHead
  rw [nI_clamp (by omega)]
  have hin : vp_in (nI v) 20 := nI_in (by omega) (by omega)
  by_cases hr : v = r
  · rw [hr, RT_r T, mb_t rfl, bI_t (Or.inl rfl), ← hr]
    exact propext ⟨fun q => q.2, fun q => ⟨hin, q⟩⟩
  · obtain ⟨g1, g2, -⟩ := (RT_rt T).2.2.1 v hv hr
    have g3 := RT_lt T g1
    have hin2 : vp_in (nI (par v)) 20 := nI_in (by omega) (by omega)
    have his := hvD_is (fun x hx => by have := RT_lt T hx; omega) hv hr (RT_h T _ g1)
    rw [RT_par T hv hr, nI_clamp (by omega), mb_f (fun z => (nI_neg (by omega)).mp z)]
    by_cases hh : hvp R r par (sz R par dep n) v
    · rw [his.mpr hh, mb_t rfl, bI_f (fun z => z.elim hr (fun z => z hh))]
      exact propext ⟨fun q => q.2.2.2, fun q => ⟨hin, hin, hin2, q⟩⟩
    · rw [mb_f (fun z => hh (his.mp z)), bI_t (Or.inr hh)]
      exact propext ⟨fun q => q.2.2.2, fun q => ⟨hin, hin, hin2, q⟩⟩
theorem f_head (T : RT V n a b S r cnt ord par dep pe R) (h20 : n ≤ 20) (hv : R v) (h : post (nI (hdf (hvp R r par (sz R par dep n)) par (dep v) v)) V) : ∃ m : Nat, wp_X9_head_L13 pp (fun (V7 : Mm) (x8 : Int32) => post x8 V7) m V (nI v) := by
  have key : ∀ f u, R u → dep u = f → post (nI (hdf (hvp R r par (sz R par dep n)) par (dep u) u)) V → wp_X9_head_L13 pp (fun (V7 : Mm) (x8 : Int32) => post x8 V7) (f + 1) V (nI u) := by
    intro f
    induction f with
    | zero =>
      intro u hu hd hp
      have hr := rt_dep0 (RT_rt T) hu hd
      rw [wp_X9_head_L13, f_isHead T h20 hu, bI_t (Or.inl hr), mb_f (by decide)]
      rw [hd] at hp
      exact hp
    | succ f ih =>
      intro u hu hd hp
      have hr : u ≠ r := fun q => by rw [q, (RT_rt T).2.1] at hd; omega
      obtain ⟨g1, g2, -⟩ := (RT_rt T).2.2.1 u hu hr
      have h1 := RT_lt T hu
      rw [wp_X9_head_L13, f_isHead T h20 hu]
      rw [g2] at hp
      by_cases hh : hvp R r par (sz R par dep n) u
      · rw [bI_f (fun z => z.elim hr (fun z => z hh)), mb_t rfl, nI_clamp (by omega), RT_par T hu hr]
        rw [hdf_y hh] at hp
        exact ⟨nI_in (by omega) (by omega), ih _ g1 (by omega) hp⟩
      · rw [bI_t (Or.inr hh), mb_f (by decide)]
        rw [hdf_n hh] at hp
        exact hp
  exact ⟨dep v + 1, key _ v hv rfl h⟩
theorem f_lightEdges (T : RT V n a b S r cnt ord par dep pe R) (h20 : n ≤ 20) (hv : R v) (h : post (nI (lg (hvp R r par (sz R par dep n)) par (dep v) v)) V) : ∃ m : Nat, wp_X9_lightEdges_L16 (nI r) pp (fun (V8 : Mm) (x9 : Int32) (x10 : Int32) => post x9 V8) m V 0 (nI v) := by
  have hrn := RT_lt T (RT_rt T).1
  have key : ∀ f c u, R u → dep u = f → c + lg (hvp R r par (sz R par dep n)) par (dep u) u = lg (hvp R r par (sz R par dep n)) par (dep v) v → wp_X9_lightEdges_L16 (nI r) pp (fun (V8 : Mm) (x9 : Int32) (x10 : Int32) => post x9 V8) (f + 1) V (nI c) (nI u) := by
    intro f
    induction f with
    | zero =>
      intro c u hu hd hp
      have hr := rt_dep0 (RT_rt T) hu hd
      rw [hr, wp_X9_lightEdges_L16, mb_t rfl]
      rw [hd] at hp
      have hp : c + 0 = _ := hp
      rw [Nat.add_zero] at hp
      rw [hp]; exact h
    | succ f ih =>
      intro c u hu hd hp
      have hr : u ≠ r := fun q => by rw [q, (RT_rt T).2.1] at hd; omega
      obtain ⟨g1, g2, -⟩ := (RT_rt T).2.2.1 u hu hr
      have h1 := RT_lt T hu
      rw [wp_X9_lightEdges_L16, mb_f (fun z => hr ((nI_eq (by omega) (by omega)).mp z)), f_isHead T h20 hu]
      rw [g2] at hp
      by_cases hh : hvp R r par (sz R par dep n) u
      · rw [bI_f (fun z => z.elim hr (fun z => z hh)), mb_t rfl, nI_clamp (by omega), RT_par T hu hr, Int32.add_zero]
        rw [lg_y hh] at hp
        exact ⟨nI_in (by omega) (by omega), ih _ _ g1 (by omega) hp⟩
      · rw [bI_t (Or.inr hh), mb_f (by decide), nI_clamp (by omega), RT_par T hu hr, nI_1]
        rw [lg_n hh] at hp
        exact ⟨nI_in (by omega) (by omega), ih _ _ g1 (by omega) (by omega)⟩
  exact ⟨dep v + 1, key _ 0 v hv rfl (Nat.zero_add _)⟩
theorem f_heavyPaths (T : RT V n a b S r cnt ord par dep pe R) (h20 : n ≤ 20) (h : post (nI (ct (fun v => R v ∧ (v = r ∨ ¬ hvp R r par (sz R par dep n) v)) n)) V) : ∃ m : Nat, wp_X9_heavyPaths_L15 pp (fun (V8 : Mm) (x9 : Int32) (x10 : Int32) => post x9 V8) m V 0 0 := by
  have hb := RT_bf T
  have hcn := BF_le hb
  have hct : ct (fun v => R v ∧ (v = r ∨ ¬ hvp R r par (sz R par dep n) v)) n = ct (fun i => ord i = r ∨ ¬ hvp R r par (sz R par dep n) (ord i)) cnt := by
    rw [← ct_im (p := fun v => v = r ∨ ¬ hvp R r par (sz R par dep n) v) (BF_lt hb) (BF_inj hb)]
    exact ct_congr (fun v _ => by rw [BF_im hb v])
  rw [hct] at h
  have key : ∀ f i, i + f = cnt → wp_X9_heavyPaths_L15 pp (fun (V8 : Mm) (x9 : Int32) (x10 : Int32) => post x9 V8) (f + 1) V (nI (ct (fun i => ord i = r ∨ ¬ hvp R r par (sz R par dep n) (ord i)) i)) (nI i) := by
    intro f
    induction f with
    | zero =>
      intro i hi
      have : i = cnt := by omega
      subst this
      rw [wp_X9_heavyPaths_L15, RP_c (RT_rp T), mb_t (Int32.le_refl _)]
      exact h
    | succ f ih =>
      intro i hi
      have hic : i < cnt := by omega
      have hRi := BF_Ro hb hic
      have ih := ih (i + 1) (by omega)
      rw [wp_X9_heavyPaths_L15, RP_c (RT_rp T), mb_f (fun z => absurd ((nI_leI (by omega) (by omega)).mp z) (by omega)), nI_clamp (by omega), RP_o (RT_rp T) i hic, f_isHead T h20 hRi, nI_1, nI_1, Int32.add_zero]
      refine ⟨nI_in (by omega) (by omega), ?_⟩
      by_cases q : ord i = r ∨ ¬ hvp R r par (sz R par dep n) (ord i)
      · rw [bI_t q, mb_f (by decide)]; rw [ct_y q] at ih; exact ih
      · rw [bI_f q, mb_t rfl]; rw [ct_n q] at ih; exact ih
  exact ⟨cnt + 1, key cnt 0 (by omega)⟩
theorem sm_im {p : Nat → Prop} {g : Nat → Int32} {ord : Nat → Nat} {n : Nat} : ∀ {c : Nat}, (∀ i, i < c → ord i < n) → (∀ i j, i < j → j < c → ord i ≠ ord j) → sm (fun v => (∃ i, i < c ∧ ord i = v) ∧ p v) g n = sm (fun i => p (ord i)) (fun i => g (ord i)) c
  | 0, _, _ => sm_0 (fun i _ q => q.1.elim fun j q => absurd q.1 (Nat.not_lt_zero _))
  | c + 1, h, hi => by
    have ih := sm_im (p := p) (g := g) (c := c) (fun i q => h i (by omega)) (fun i j q q2 => hi i j q (by omega))
    by_cases hp : p (ord c)
    · rw [sm_y (p := fun i => p (ord i)) hp, ← ih]
      refine sm_ins (e := ord c) (h c (by omega)) (fun q => q.1.elim fun i q => hi i c q.1 (by omega) q.2) (fun v _ => ?_)
      constructor
      · rintro ⟨⟨i, h1, h2⟩, h3⟩
        rcases lt_or_eq1 h1 with q | q
        · exact Or.inl ⟨⟨i, q, h2⟩, h3⟩
        · right; rw [← h2, q]
      · rintro (⟨⟨i, h1, h2⟩, h3⟩ | q)
        · exact ⟨⟨i, by omega, h2⟩, h3⟩
        · exact ⟨⟨c, by omega, q.symm⟩, by rw [q]; exact hp⟩
    · rw [sm_n (p := fun i => p (ord i)) hp, ← ih]
      refine sm_congr (fun v _ => ?_) (fun _ _ _ => rfl)
      constructor
      · rintro ⟨⟨i, h1, h2⟩, h3⟩
        rcases lt_or_eq1 h1 with q | q
        · exact ⟨⟨i, q, h2⟩, h3⟩
        · rw [← h2, q] at h3; exact absurd h3 hp
      · rintro ⟨⟨i, h1, h2⟩, h3⟩
        exact ⟨⟨i, by omega, h2⟩, h3⟩
theorem f_subtreeSum (T : RT V n a b S r cnt ord par dep pe R) (h20 : n ≤ 20) (hv : R v) (h : post (sm (bel R par dep v) (V 58) n) V) : ∃ m : Nat, wp_X9_subtreeSum_L16 (nI v) pp (fun (V10 : Mm) (x11 : Int32) (x12 : Int32) => post x11 V10) m V 0 0 := by
  have hb := RT_bf T
  have hcn := BF_le hb
  have hvn := RT_lt T hv
  have hsm : sm (bel R par dep v) (V 58) n = sm (fun i => anc par dep v (ord i)) (fun i => V 58 (ord i)) cnt := by
    rw [← sm_im (p := fun x => anc par dep v x) (BF_lt hb) (BF_inj hb)]
    exact sm_congr (fun x _ => by unfold bel; rw [BF_im hb x]) (fun _ _ _ => rfl)
  rw [hsm] at h
  have climb : ∀ (y1 y2 : Int32) (kx : Mm → Int32 → Prop) f u, R u → dep u = f → (∀ x, (x = nI v ↔ anc par dep v u) → kx V x) → wp_X9_subtreeSum_L34 (nI v) y1 y2 pp kx (f + 2) V (nI u) := by
    intro y1 y2 kx f
    induction f with
    | zero =>
      intro u hu hd hk
      have hr := rt_dep0 (RT_rt T) hu hd
      have h1 := RT_lt T hu
      rw [wp_X9_subtreeSum_L34, mb_f (fun z => (nI_neg (by omega)).mp z)]
      by_cases huv : u = v
      · rw [huv, mb_t rfl]
        exact hk _ (by rw [huv]; exact ⟨fun _ => anc_self, fun _ => rfl⟩)
      · rw [mb_f (fun z => huv ((nI_eq (by omega) (by omega)).mp z)), nI_clamp (by omega), hr, RT_r T, wp_X9_subtreeSum_L34, mb_t rfl, ← hr]
        refine ⟨nI_in (by omega) (by omega), hk _ ⟨fun z => ((neg_nI (by omega)).mp z).elim, fun z => ?_⟩⟩
        rw [hr, anc_of_root (RT_rt T)] at z
        exact absurd (hr.trans z.symm) huv
    | succ f ih =>
      intro u hu hd hk
      have hr : u ≠ r := fun q => by rw [q, (RT_rt T).2.1] at hd; omega
      obtain ⟨g1, g2, -⟩ := (RT_rt T).2.2.1 u hu hr
      have h1 := RT_lt T hu
      rw [wp_X9_subtreeSum_L34, mb_f (fun z => (nI_neg (by omega)).mp z)]
      by_cases huv : u = v
      · rw [huv, mb_t rfl]
        exact hk _ (by rw [huv]; exact ⟨fun _ => anc_self, fun _ => rfl⟩)
      · rw [mb_f (fun z => huv ((nI_eq (by omega) (by omega)).mp z)), nI_clamp (by omega), RT_par T hu hr]
        refine ⟨nI_in (by omega) (by omega), ih (par u) g1 (by omega) (fun x hx => hk x ?_)⟩
        rw [hx, anc_step (RT_rt T) hu hr]
        exact ⟨Or.inr, fun z => z.elim (fun z => absurd z.symm huv) id⟩
  have key : ∀ f i, i + f = cnt → wp_X9_subtreeSum_L16 (nI v) pp (fun (V10 : Mm) (x11 : Int32) (x12 : Int32) => post x11 V10) (f + 1) V (sm (fun i => anc par dep v (ord i)) (fun i => V 58 (ord i)) i) (nI i) := by
    intro f
    induction f with
    | zero =>
      intro i hi
      have : i = cnt := by omega
      subst this
      rw [wp_X9_subtreeSum_L16, RP_c (RT_rp T), mb_t (Int32.le_refl _)]
      exact h
    | succ f ih =>
      intro i hi
      have hic : i < cnt := by omega
      have hRi := BF_Ro hb hic
      have h3 := RT_lt T hRi
      have ih := ih (i + 1) (by omega)
      rw [wp_X9_subtreeSum_L16, RP_c (RT_rp T), mb_f (fun z => absurd ((nI_leI (by omega) (by omega)).mp z) (by omega)), nI_clamp (by omega), RP_o (RT_rp T) i hic]
      refine ⟨nI_in (by omega) (by omega), _, climb _ _ _ _ _ hRi rfl (fun x hx => ?_)⟩
      rw [RP_o (RT_rp T) i hic, nI_clamp (by omega), nI_1, Int32.add_zero]
      by_cases q : anc par dep v (ord i)
      · rw [mb_t (hx.mpr q)]
        rw [sm_y (p := fun i => anc par dep v (ord i)) q] at ih
        exact ⟨nI_in (by omega) (by omega), nI_in (by omega) (by omega), ih⟩
      · rw [mb_f (fun z => q (hx.mp z))]
        rw [sm_n (p := fun i => anc par dep v (ord i)) q] at ih
        exact ih
  exact ⟨cnt + 1, key cnt 0 (by omega)⟩
theorem f_addOnPath (T : RT V n a b S r cnt ord par dep pe R) (h20 : n ≤ 20) (hv : R v) {y1 : Int32} (h : ∀ V' : Mm, (∀ c, c ≠ 58 → V' c = V c) → V' 58 = ad (fun y => anc par dep y v) (V 58) x → (vp_in y1 20 ∧ post ((V' 68 (Int32.toNatClampNeg y1)) + 1) V')) : ∃ m : Nat, wp_X9_addOnPath_L73 y1 x pp (fun (V17 : Mm) (x18 : Int32) => (vp_in y1 20 ∧ post ((V17 68 (Int32.toNatClampNeg y1)) + 1) V17)) m V (nI v) := by
  have hdv := RT_d T hv
  have key : ∀ f i (V' : Mm), i + f = dep v → (∀ c, c ≠ 58 → V' c = V c) → V' 58 = ad (fun y => ∃ j, j < i ∧ up par j v = y) (V 58) x → wp_X9_addOnPath_L73 y1 x pp (fun (V17 : Mm) (x18 : Int32) => (vp_in y1 20 ∧ post ((V17 68 (Int32.toNatClampNeg y1)) + 1) V17)) (f + 2) V' (nI (up par i v)) := by
    have stepv : ∀ i (V' : Mm), i ≤ dep v → V' 58 = ad (fun y => ∃ j, j < i ∧ up par j v = y) (V 58) x → wr V' 58 (up par i v) (V' 58 (up par i v) + x) 58 = ad (fun y => ∃ j, j < i + 1 ∧ up par j v = y) (V 58) x := by
      intro i V' hi hx
      rw [wr_eq, hx]
      refine ad_up ?_ (fun z => ⟨fun ⟨j, q1, q2⟩ => ?_, fun q => ?_⟩)
      · rintro ⟨j, q1, q2⟩
        have := up_inj (RT_rt T) hv (show j ≤ dep v by omega) hi q2
        omega
      · rcases Nat.lt_or_ge j i with q | q
        · exact Or.inl ⟨j, q, q2⟩
        · right; rw [← q2, show j = i by omega]
      · rcases q with ⟨j, q1, q2⟩ | q
        · exact ⟨j, by omega, q2⟩
        · exact ⟨i, by omega, q.symm⟩
    intro f
    induction f with
    | zero =>
      intro i V' hi hf hx
      have hii : i = dep v := by omega
      have hs := stepv i V' (by omega) hx
      have hup : up par i v = r := by rw [hii]; exact rt_top (RT_rt T) hv
      have hrn := RT_lt T (RT_rt T).1
      rw [hup] at hs ⊢
      rw [wp_X9_addOnPath_L73, mb_f (fun z => (nI_neg (by omega)).mp z), nI_clamp (by omega), forall_eq, wr_ne _ _ _ (show 67 ≠ 58 by decide), hf 67 (by decide), RT_r T, wp_X9_addOnPath_L73, mb_t rfl]
      refine ⟨nI_in (by omega) (by omega), nI_in (by omega) (by omega), nI_in (by omega) (by omega), h _ (fun c hc => by rw [wr_ne _ _ _ hc, hf c hc]) ?_⟩
      rw [hs]
      exact congrArg (fun p => ad p (V 58) x) (funext fun y => propext ⟨fun ⟨j, q1, q2⟩ => ⟨j, by omega, q2⟩, fun ⟨j, q1, q2⟩ => ⟨j, by omega, q2⟩⟩)
    | succ f ih =>
      intro i V' hi hf hx
      obtain ⟨g1, g2, g3⟩ := up_lt (RT_rt T) hv (show i < dep v by omega)
      have g4 := RT_lt T g1
      have hs := stepv i V' (by omega) hx
      rw [wp_X9_addOnPath_L73, mb_f (fun z => (nI_neg (by omega)).mp z), nI_clamp (by omega), forall_eq, wr_ne _ _ _ (show 67 ≠ 58 by decide), hf 67 (by decide), RT_par T g1 g2, ← up_succ par i v]
      exact ⟨nI_in (by omega) (by omega), nI_in (by omega) (by omega), nI_in (by omega) (by omega), ih (i + 1) _ (by omega) (fun c hc => by rw [wr_ne _ _ _ hc, hf c hc]) hs⟩
  exact ⟨dep v + 2, key (dep v) 0 V (by omega) (fun _ _ => rfl) (ad_0 (fun y q => q.elim fun j q => absurd q.1 (Nat.not_lt_zero _))).symm⟩
end REFTREE
