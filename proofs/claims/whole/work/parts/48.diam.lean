section DIAM
variable {n k : Nat} {a b w : Nat → Nat} {pr F S : Nat → Prop} {gr : Nat → Nat} {V V1 V2 : Mm} {post : Int32 → Mm → Prop} {px : String → Mm → Prop} {r u v x m m' cnt cnt' : Nat} {ord par dep pe lp ord' par' dep' pe' : Nat → Nat} {R R' : Nat → Prop} {o : Nat → Int64} {D : Nat → UInt64} {a1 a2 a3 : Int32}
/-- m is the greatest distance between two vertices of x's tree -/
def dmx (a b : Nat → Nat) (S : Nat → Prop) (k x m : Nat) : Prop := (∃ p q, cn a b S x p ∧ cn a b S x q ∧ ct (prt a b S p q) k = m) ∧ ∀ p q, cn a b S x p → cn a b S x q → ct (prt a b S p q) k ≤ m
theorem dmx_uni (h : dmx a b S k x m) (h' : dmx a b S k x m') : m = m' := by
  obtain ⟨⟨p, q, h1, h2, h3⟩, h4⟩ := h
  obtain ⟨⟨p', q', g1, g2, g3⟩, g4⟩ := h'
  have := h4 p' q' g1 g2
  have := g4 p q h1 h2
  omega
theorem BF_far (h : BF n a b S r cnt ord par dep pe R) (hv : R v) : dep v ≤ dep (ord (cnt - 1)) := by
  obtain ⟨i, h1, h2⟩ := (BF_im h v).mp hv
  rw [← h2]; exact BF_mo h i (cnt - 1) (by omega) (by omega)
theorem BF_end (h : BF n a b S r cnt ord par dep pe R) : R (ord (cnt - 1)) := BF_Ro h (by have := (BF_o0 h).1; omega)
/-- the double sweep: what is farthest from any vertex is one end of a longest path -/
theorem sweep (hA : acy a b S) (hk : ∀ e, S e → e < k) (T : rt a b S x R par dep pe) (B : BF n a b S x cnt ord par dep pe R) (T' : rt a b S (ord (cnt - 1)) R' par' dep' pe') (B' : BF n a b S (ord (cnt - 1)) cnt' ord' par' dep' pe' R') : dmx a b S k x (dep' (ord' (cnt' - 1))) := by
  have hu : cn a b S x (ord (cnt - 1)) := (rt_cn T).mp (BF_end B)
  have hRv : R' (ord' (cnt' - 1)) := BF_end B'
  have hv := (rt_cn T').mp hRv
  refine ⟨⟨_, _, hu, cn_trans hu hv, (rt_ct hA hk T' _ hRv).symm⟩, fun p q hp hq => ?_⟩
  have far : ∀ y, cn a b S x y → ct (prt a b S x y) k ≤ ct (prt a b S x (ord (cnt - 1))) k := fun y hy => by
    have hy := (rt_cn T).mpr hy
    rw [← rt_ct hA hk T y hy, ← rt_ct hA hk T _ ((rt_cn T).mpr hu)]
    exact BF_far B hy
  have far' : ∀ y, cn a b S x y → ct (prt a b S (ord (cnt - 1)) y) k ≤ dep' (ord' (cnt' - 1)) := fun y hy => by
    have hy := (rt_cn T').mpr (cn_trans (cn_symm hu) hy)
    rw [← rt_ct hA hk T' y hy]
    exact BF_far B' hy
  have f1 := far p hp
  have f2 := far q hq
  have f3 := far' p hp
  have f4 := far' q hq
  rcases four_pt (k := k) hA hu hp hq with z | z <;> omega
theorem f_diameter (H : ST V n k a b w pr F gr) (hv : v < n) (hm : dmx a b F k v m) (h : ∀ V', SF V V' → V' 57 0 = 0 → post (nI m) V') : wp_X9_diameter V (nI v) post := by
  have h20 := GV_n20 (ST_g H)
  unfold wp_X9_diameter
  refine f_isApart H hv hv (fun _ V1 hs1 h01 cnt1 ord1 par1 dep1 pe1 R1 T1 hR1 => ?_) (fun q => absurd (cn_refl _ _) q)
  have H1 := ST_sf H hs1
  have c1 := (BF_o0 (RT_bf T1)).1
  have l1 := BF_le (RT_bf T1)
  have hu := BF_lt (RT_bf T1) (cnt1 - 1) (by omega)
  rw [mb_t rfl, RP_c (RT_rp T1), nI_sub1 c1, nI_clamp (by omega), RP_o (RT_rp T1) _ (by omega)]
  refine ⟨nI_in (by omega) (by omega), f_rootsF H1 hu (fun V2 hf2 cnt2 ord2 par2 dep2 pe2 R2 T2 => ?_)⟩
  have c2 := (BF_o0 (RT_bf T2)).1
  have l2 := BF_le (RT_bf T2)
  have hu2 := BF_lt (RT_bf T2) (cnt2 - 1) (by omega)
  have hm2 := sweep (FV_ac (ST_f H)) (FV_fk (ST_f H)) (RT_rt T1) (RT_bf T1) (RT_rt T2) (RT_bf T2)
  rw [RP_c (RT_rp T2), nI_sub1 c2, nI_clamp (by omega), RP_o (RT_rp T2) _ (by omega), nI_clamp (by omega), RT_dep T2 (BF_end (RT_bf T2)), dmx_uni hm2 hm]
  exact ⟨nI_in (by omega) (by omega), nI_in (by omega) (by omega), h _ (SF_tr hs1 (SF_r hf2)) (by rw [RFr_g hf2 0 (by decide), h01])⟩
theorem j_43 (hJ : JJ V) : wpc_43 V o D a1 a2 a3 JJ := by
  obtain ⟨n, k, a, b, w, pr, F, gr, H⟩ := hJ
  have h20 := GV_n20 (ST_g H)
  unfold wpc_43 wp_L_diameter wp_X8_diameter
  refine s_requireVertex (ST_g H) (fun v hv e1 => ?_) (fun hb => ⟨rfl, ?_⟩)
  · rw [e1]
    refine s_plantF H hv (fun V1 hf1 cnt1 ord1 par1 dep1 pe1 lp1 R1 T1 => ?_)
    have H1 := ST_sf H (SF_cl (fun c hc => hf1 c (by omega)))
    have c1 := (BF_o0 (TV_bf T1)).1
    have hu := BF_lt (TV_bf T1) (cnt1 - 1) (by omega)
    rw [e_deepest (ST_g H1) T1]
    refine s_plantF H1 hu (fun V2 hf2 cnt2 ord2 par2 dep2 pe2 lp2 R2 T2 => ?_)
    have H2 := ST_sf H1 (SF_cl (fun c hc => hf2 c (by omega)))
    rw [e_deepest (ST_g H2) T2, e_depthR (ST_g H2) T2 (BF_end (TV_bf T2))]
    have hm := sweep (FV_ac (ST_f H)) (FV_fk (ST_f H)) (TV_rt T1) (TV_bf T1) (TV_rt T2) (TV_bf T2)
    show wp_X9_diameter V2 (nI v) (fun r5 V6 => fin JJ (vp_updL o 0 (nI (dep2 (ord2 (cnt2 - 1)))).toInt64) 0 r5 V6)
    exact f_diameter H2 hv hm (fun V6 hs h0 => fin_ok h0 rfl (JJ_sf H2 hs))
  · show wp_X9_diameter V a1 (fun r5 V6 => fin JJ o 1 r5 V6)
    unfold wp_X9_diameter
    refine f_isApart_bad H (Or.inl hb) (fun V2 hs h0 => ?_)
    rw [mb_f (by decide)]
    exact fin_no h0 (by decide) (JJ_sf H hs)
theorem e_vertexCount (H : GV V n k a b w pr) : wp_X3_vertexCount V post = post (nI n) V := by
  unfold wp_X3_vertexCount
  rw [GV_n H]
theorem s_greatestDepth (H : GV V n k a b w pr) (T : TV V n a b w S r cnt ord par dep pe lp R) (h : ∀ m, (∀ v, R v → dep v ≤ m) → (∃ v, R v ∧ dep v = m) → post (nI m) V) : wp_X8_greatestDepth V post := by
  have h20 := GV_n20 H
  have key : ∀ f i m, i + f = n → (∀ v, v < i → R v → dep v ≤ m) → (∃ v, R v ∧ dep v = m) → wp_X8_greatestDepth_L4 post (fun (V9 : Mm) (x10 : Int32) (x11 : Int32) => post x10 V9) (f + 1) V (nI m) (nI i) := by
    intro f
    induction f with
    | zero =>
      intro i m hi h1 h2
      have : i = n := by omega
      subst this
      rw [wp_X8_greatestDepth_L4, e_vertexCount H, mb_t (Int32.le_refl _)]
      exact h m (fun v hv => h1 v (TV_lt T hv) hv) h2
    | succ f ih =>
      intro i m hi h1 h2
      have hin : i < n := by omega
      have hm : m < n := by
        obtain ⟨v, q1, q2⟩ := h2
        rw [← q2]; exact TV_d T q1
      rw [wp_X8_greatestDepth_L4, e_vertexCount H, mb_f (fun z => absurd ((nI_leI (by omega) (by omega)).mp z) (by omega)), e_holds7 H T hin, nI_1]
      by_cases q : R i
      · rw [bI_t q, mb_f (by decide), e_depthR H T q]
        have := TV_d T q
        by_cases z : m < dep i
        · rw [if_pos ((nI_ltI (by omega) (by omega)).mpr z)]
          exact ih (i + 1) (dep i) (by omega) (fun v hv hR => (lt_or_eq1 hv).elim (fun t => by have := h1 v t hR; omega) (fun t => by rw [t]; exact Nat.le_refl _)) ⟨i, q, rfl⟩
        · rw [if_neg (fun y => z ((nI_ltI (by omega) (by omega)).mp y))]
          exact ih (i + 1) m (by omega) (fun v hv hR => (lt_or_eq1 hv).elim (fun t => h1 v t hR) (fun t => by rw [t]; omega)) h2
      · rw [bI_f q, mb_t rfl]
        exact ih (i + 1) m (by omega) (fun v hv hR => (lt_or_eq1 hv).elim (fun t => h1 v t hR) (fun t => by rw [t] at hR; exact absurd hR q)) h2
  unfold wp_X8_greatestDepth
  exact ⟨n + 1, key n 0 0 (by omega) (fun v hv => absurd hv (Nat.not_lt_zero _)) ⟨r, (TV_rt T).1, (TV_rt T).2.1⟩⟩
theorem s_diameterByTrying (H : ST V n k a b w pr F gr) (hv : v < n) (h : ∀ V' m, ST V' n k a b w pr F gr → dmx a b F k v m → post (nI m) V') : ∃ m9 : Nat, wp_X8_diameterByTrying_L9 (nI v) post px (fun (V11 : Mm) (x12 : Int32) (x13 : Int32) => post x12 V11) m9 V 0 0 := by
  have h20 := GV_n20 (ST_g H)
  have h60 := GV_k60 (ST_g H)
  have hA := FV_ac (ST_f H)
  have hFk := FV_fk (ST_f H)
  have inn : ∀ p, cn a b F v p → p < n := fun p hp => hp (fun x => x < n) hv (fun e he => ⟨fun _ => GV_bn (ST_g H) e (hFk e he), fun _ => GV_an (ST_g H) e (hFk e he)⟩)
  have key : ∀ f i m V', i + f = n → ST V' n k a b w pr F gr → (∀ p, p < i → cn a b F v p → ∀ q, cn a b F v q → ct (prt a b F p q) k ≤ m) → (∃ p q, cn a b F v p ∧ cn a b F v q ∧ ct (prt a b F p q) k = m) → wp_X8_diameterByTrying_L9 (nI v) post px (fun (V11 : Mm) (x12 : Int32) (x13 : Int32) => post x12 V11) (f + 1) V' (nI m) (nI i) := by
    intro f
    induction f with
    | zero =>
      intro i m V' hi H' h1 h2
      have : i = n := by omega
      subst this
      rw [wp_X8_diameterByTrying_L9, e_vertexCount (ST_g H'), mb_t (Int32.le_refl _)]
      exact h V' m H' ⟨h2, fun p q hp hq => h1 p (inn p hp) hp q hq⟩
    | succ f ih =>
      intro i m V' hi H' h1 h2
      have hin : i < n := by omega
      have hm : m ≤ 60 := by
        obtain ⟨p, q, -, -, q3⟩ := h2
        have := ct_le (p := prt a b F p q) k
        omega
      rw [wp_X8_diameterByTrying_L9, e_vertexCount (ST_g H'), mb_f (fun z => absurd ((nI_leI (by omega) (by omega)).mp z) (by omega))]
      refine s_plantF H' hin (fun V1 hf1 cnt1 ord1 par1 dep1 pe1 lp1 R1 T1 => ?_)
      have H1 := ST_sf H' (SF_cl (fun c hc => hf1 c (by omega)))
      rw [e_holds7 (ST_g H1) T1 hv]
      by_cases q : R1 v
      · have hc := (rt_cn (TV_rt T1)).mp q
        rw [bI_t q, mb_f (by decide)]
        refine s_greatestDepth (ST_g H1) T1 (fun g hg1 hg2 => ?_)
        obtain ⟨t, ht1, ht2⟩ := hg2
        have := TV_d T1 ht1
        have all : ∀ y, cn a b F v y → ct (prt a b F i y) k ≤ g := fun y hy => by
          have hR := (rt_cn (TV_rt T1)).mpr (cn_trans hc hy)
          rw [← rt_ct hA hFk (TV_rt T1) y hR]
          exact hg1 y hR
        rw [nI_1]
        by_cases z : m < g
        · rw [if_pos ((nI_ltI (by omega) (by omega)).mpr z)]
          refine ih (i + 1) g V1 (by omega) H1 (fun p hp hcp y hy => (lt_or_eq1 hp).elim (fun t => by have := h1 p t hcp y hy; omega) (fun t => by rw [t]; exact all y hy)) ⟨i, t, cn_symm hc, cn_trans (cn_symm hc) ((rt_cn (TV_rt T1)).mp ht1), ?_⟩
          rw [← rt_ct hA hFk (TV_rt T1) t ht1, ht2]
        · rw [if_neg (fun y => z ((nI_ltI (by omega) (by omega)).mp y))]
          exact ih (i + 1) m V1 (by omega) H1 (fun p hp hcp y hy => (lt_or_eq1 hp).elim (fun t => h1 p t hcp y hy) (fun t => by rw [t]; have := all y hy; omega)) h2
      · rw [bI_f q, mb_t rfl, nI_1]
        exact ih (i + 1) m V1 (by omega) H1 (fun p hp hcp y hy => (lt_or_eq1 hp).elim (fun t => h1 p t hcp y hy) (fun t => by rw [t] at hcp; exact absurd ((rt_cn (TV_rt T1)).mpr (cn_symm hcp)) q)) h2
  exact ⟨n + 1, key n 0 0 V (by omega) H (fun p hp => absurd hp (Nat.not_lt_zero _)) ⟨v, v, cn_refl _ _, cn_refl _ _, ct_0 (fun i _ q => q.2 (cn_refl _ _))⟩⟩
theorem j_44 (hJ : JJ V) : wpc_44 V o D a1 a2 a3 JJ := by
  obtain ⟨n, k, a, b, w, pr, F, gr, H⟩ := hJ
  have h20 := GV_n20 (ST_g H)
  unfold wpc_44 wp_L_diameterByTrying wp_X8_diameterByTrying wp_X9_diameterByTrying
  refine s_requireVertex (ST_g H) (fun v hv e1 => ?_) (fun hb => ⟨rfl, ?_⟩)
  · rw [e1]
    refine s_diameterByTrying H hv (fun V2 m H2 hm => ?_)
    show wp_X9_diameter V2 (nI v) (fun r5 V6 => fin JJ (vp_updL o 0 (nI m).toInt64) 0 r5 V6)
    exact f_diameter H2 hv hm (fun V6 hs h0 => fin_ok h0 rfl (JJ_sf H2 hs))
  · show wp_X9_diameter V a1 (fun r5 V6 => fin JJ o 1 r5 V6)
    unfold wp_X9_diameter
    refine f_isApart_bad H (Or.inl hb) (fun V2 hs h0 => ?_)
    rw [mb_f (by decide)]
    exact fin_no h0 (by decide) (JJ_sf H hs)
end DIAM
