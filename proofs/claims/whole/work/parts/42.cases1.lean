section CASES1
variable {V : Mm} {o : Nat → Int64} {D : Nat → UInt64} {a1 a2 a3 : Int32}
theorem ps_both {n : Nat} {a b : Nat → Nat} {F : Nat → Prop} {u v : Nat} {R R' : Nat → Prop} {par dep pe par' dep' pe' : Nat → Nat} (g : Nat → Int32) (hA : acy a b F) (h : rt a b F u R par dep pe) (h' : rt a b F v R' par' dep' pe') (hn : ∀ x, R x → x < n) (hn' : ∀ x, R' x → x < n) (hv : R v) : ps g par (dep v) v = ps g par' (dep' u) u := by
  have hc := (rt_cn h).mp hv
  have hu : R' u := (rt_cn h').mpr (cn_symm hc)
  rw [ps_sm h hn g v hv, ps_sm h' hn' g u hu]
  refine sm_congr (fun x _ => ?_) (fun _ _ _ => rfl)
  rw [anc_onp hA h hv, anc_onp hA h' hu]
  exact ⟨onp_symm hc, onp_symm (cn_symm hc)⟩
theorem ps_congr {g g' : Nat → Int32} {n : Nat} {a b : Nat → Nat} {F : Nat → Prop} {u : Nat} {R : Nat → Prop} {par dep pe : Nat → Nat} (h : rt a b F u R par dep pe) (hn : ∀ x, R x → x < n) (hg : ∀ x, x < n → g x = g' x) {v : Nat} (hv : R v) : ps g par (dep v) v = ps g' par (dep v) v := by
  rw [ps_sm h hn g v hv, ps_sm h hn g' v hv]
  exact sm_congr (fun _ _ => Iff.rfl) (fun x hx _ => hg x hx)
theorem ST_inj {n k : Nat} {a b w : Nat → Nat} {pr F : Nat → Prop} {gr : Nat → Nat} (H : ST V n k a b w pr F gr) : ∀ x y, F x → F y → ky w x = ky w y → x = y := fun x y hx hy q => by
  have := FV_fk (ST_f H) x hx
  have := FV_fk (ST_f H) y hy
  have := GV_k60 (ST_g H)
  exact ky_inj (by omega) (by omega) q
theorem j_23 (hJ : JJ V) : wpc_23 V o D a1 a2 a3 JJ := by
  obtain ⟨n, k, a, b, w, pr, F, gr, H⟩ := hJ
  have h20 := GV_n20 (ST_g H)
  unfold wpc_23 wp_L_pathVertices wp_X8_pathVertices
  refine s_requireVertices (ST_g H) (fun u v hu hv e1 e2 => ?_) (fun hb => Or.inl ⟨rfl, ?_⟩)
  · rw [e1, e2]
    refine s_plantHolding H hu hv (fun hc V1 hf H1 cnt ord par dep pe lp R T hR => ?_) (fun hc V1 hs => Or.inr ⟨rfl, ?_⟩)
    · have hA := FV_ac (ST_f H1)
      rw [e_depthR (ST_g H1) T hR]
      show wp_X9_pathVertices V1 (nI u) (nI v) (fun r5 V6 => fin JJ (vp_updL o 0 (nI (dep v) + 1).toInt64) 0 r5 V6)
      unfold wp_X9_pathVertices
      refine f_isApart H1 hv hu (fun _ V2 hs2 h0 cnt2 ord2 par2 dep2 pe2 R2 T2 hR2 => ?_) (fun q => absurd (cn_symm hc) q)
      rw [mb_t rfl, nI_clamp (by omega), RT_dep T2 hR2, ← rt_dep_symm hA (FV_fk (ST_f H1)) (TV_rt T) (RT_rt T2) hR]
      exact ⟨nI_in (by omega) (by omega), fin_ok h0 rfl (JJ_sf H1 hs2)⟩
    · show wp_X9_pathVertices V1 (nI u) (nI v) (fun r5 V6 => fin JJ o 2 r5 V6)
      unfold wp_X9_pathVertices
      refine f_isApart (ST_sf H hs) hv hu (fun q => absurd (cn_symm q) hc) (fun _ V2 hs2 h0 => ?_)
      rw [mb_f (by decide)]
      exact fin_no h0 (by decide) (JJ_sf (ST_sf H hs) hs2)
  · show wp_X9_pathVertices V a1 a2 (fun r5 V6 => fin JJ o 1 r5 V6)
    unfold wp_X9_pathVertices
    refine f_isApart_bad H hb.symm (fun V2 hs h0 => ?_)
    rw [mb_f (by decide)]
    exact fin_no h0 (by decide) (JJ_sf H hs)
theorem j_25 (hJ : JJ V) : wpc_25 V o D a1 a2 a3 JJ := by
  obtain ⟨n, k, a, b, w, pr, F, gr, H⟩ := hJ
  have h20 := GV_n20 (ST_g H)
  unfold wpc_25 wp_L_pathSum wp_X8_pathSum
  refine s_requireVertices (ST_g H) (fun u v hu hv e1 e2 => ?_) (fun hb => Or.inl ⟨rfl, ?_⟩)
  · rw [e1, e2]
    refine s_plantHolding H hu hv (fun hc V1 hf H1 cnt ord par dep pe lp R T hR => ?_) (fun hc V1 hs => Or.inr ⟨rfl, ?_⟩)
    · have hA := FV_ac (ST_f H1)
      rw [e_sumFromRoot (ST_g H1) T hR]
      show wp_X9_pathSum V1 (nI u) (nI v) (fun r5 V6 => fin JJ (vp_updL o 0 (ps (V1 2) par (dep v) v).toInt64) 0 r5 V6)
      unfold wp_X9_pathSum
      refine f_isApart H1 hv hu (fun _ V2 hs2 h0 cnt2 ord2 par2 dep2 pe2 R2 T2 hR2 => ?_) (fun q => absurd (cn_symm hc) q)
      have hps : ps (V2 58) par2 (dep2 u) u = ps (V1 2) par (dep v) v := by
        rw [ps_both (V1 2) hA (TV_rt T) (RT_rt T2) (fun x => TV_lt T) (fun x => RT_lt T2) hR]
        exact ps_congr (RT_rt T2) (fun x => RT_lt T2) (fun x hx => by rw [SF_f hs2 58 (by omega), ST_v H1 x hx]) hR2
      rw [mb_t rfl]
      exact f_pathSum T2 h20 hR2 (post := fun r5 V6 => fin JJ (vp_updL o 0 (ps (V1 2) par (dep v) v).toInt64) 0 r5 V6) (fin_ok h0 hps (JJ_sf H1 hs2))
    · show wp_X9_pathSum V1 (nI u) (nI v) (fun r5 V6 => fin JJ o 2 r5 V6)
      unfold wp_X9_pathSum
      refine f_isApart (ST_sf H hs) hv hu (fun q => absurd (cn_symm q) hc) (fun _ V2 hs2 h0 => ?_)
      rw [mb_f (by decide)]
      exact fin_no h0 (by decide) (JJ_sf (ST_sf H hs) hs2)
  · show wp_X9_pathSum V a1 a2 (fun r5 V6 => fin JJ o 1 r5 V6)
    unfold wp_X9_pathSum
    refine f_isApart_bad H hb.symm (fun V2 hs h0 => ?_)
    rw [mb_f (by decide)]
    exact fin_no h0 (by decide) (JJ_sf H hs)
theorem j_27 (hJ : JJ V) : wpc_27 V o D a1 a2 a3 JJ := by
  obtain ⟨n, k, a, b, w, pr, F, gr, H⟩ := hJ
  have h20 := GV_n20 (ST_g H)
  unfold wpc_27 wp_L_pathSumByWalk wp_X8_pathSumByWalk
  refine s_requireVertices (ST_g H) (fun u v hu hv e1 e2 => ?_) (fun hb => Or.inl ⟨rfl, ?_⟩)
  · rw [e1, e2]
    refine s_plantHolding H hv hu (fun hc V1 hf H1 cnt ord par dep pe lp R T hR => ?_) (fun hc V1 hs => Or.inr ⟨rfl, ?_⟩)
    · have hA := FV_ac (ST_f H1)
      refine s_sumByClimbing (ST_g H1) T hR ?_
      show wp_X9_pathSumByWalk V1 (nI u) (nI v) (fun r5 V6 => fin JJ (vp_updL o 0 (ps (V1 2) par (dep u) u).toInt64) 0 r5 V6)
      unfold wp_X9_pathSumByWalk wp_X9_pathSum
      refine f_isApart H1 hv hu (fun _ V2 hs2 h0 cnt2 ord2 par2 dep2 pe2 R2 T2 hR2 => ?_) (fun q => absurd hc q)
      have T3 := RT_to hA (TV_rt T) T2
      have hps : ps (V2 58) par2 (dep2 u) u = ps (V1 2) par (dep u) u := by
        have e := ps_congr (RT_rt T3) (fun x => RT_lt T3) (g := V2 58) (g' := V1 2) (fun x hx => by rw [SF_f hs2 58 (by omega), ST_v H1 x hx]) hR
        rw [← e, ps_sm (RT_rt T2) (fun x => RT_lt T2) _ u hR2, ps_sm (TV_rt T) (fun x => TV_lt T) _ u hR]
        exact sm_congr (fun x _ => anc_uni hA (TV_rt T) (RT_rt T2) hR) (fun _ _ _ => rfl)
      rw [mb_t rfl]
      exact f_pathSum T2 h20 hR2 (post := fun r5 V6 => fin JJ (vp_updL o 0 (ps (V1 2) par (dep u) u).toInt64) 0 r5 V6) (fin_ok h0 hps (JJ_sf H1 hs2))
    · show wp_X9_pathSumByWalk V1 (nI u) (nI v) (fun r5 V6 => fin JJ o 2 r5 V6)
      unfold wp_X9_pathSumByWalk wp_X9_pathSum
      refine f_isApart (ST_sf H hs) hv hu (fun q => absurd q hc) (fun _ V2 hs2 h0 => ?_)
      rw [mb_f (by decide)]
      exact fin_no h0 (by decide) (JJ_sf (ST_sf H hs) hs2)
  · show wp_X9_pathSumByWalk V a1 a2 (fun r5 V6 => fin JJ o 1 r5 V6)
    unfold wp_X9_pathSumByWalk wp_X9_pathSum
    refine f_isApart_bad H hb.symm (fun V2 hs h0 => ?_)
    rw [mb_f (by decide)]
    exact fin_no h0 (by decide) (JJ_sf H hs)
theorem j_26 (hJ : JJ V) : wpc_26 V o D a1 a2 a3 JJ := by
  obtain ⟨n, k, a, b, w, pr, F, gr, H⟩ := hJ
  have h20 := GV_n20 (ST_g H)
  unfold wpc_26 wp_L_pathSumByHeavyPaths wp_X8_pathSumByHeavyPaths
  refine s_requireVertices (ST_g H) (fun u v hu hv e1 e2 => ?_) (fun hb => Or.inl ⟨rfl, ?_⟩)
  · rw [e1, e2]
    refine s_plantHolding H hu hv (fun hc V1 hf H1 cnt ord par dep pe lp R T hR => ?_) (fun hc V1 hs => Or.inr ⟨rfl, ?_⟩)
    · have hA := FV_ac (ST_f H1)
      refine s_build5 (ST_g H1) T (fun V3 hf3 B => ?_)
      have hs3 : SF V1 V3 := SF_cl (fun c hc => hf3 c (by omega))
      have H3 := ST_sf H1 hs3
      have T0 : TV V3 n a b w F u cnt ord par dep pe lp R := TV_fr T (fun c hc => hf3 c (by omega))
      refine s_sumToRoot (ST_g H3) T0 B hR ?_
      show wp_X9_pathSumByHeavyPaths V3 (nI u) (nI v) (fun r5 V6 => fin JJ (vp_updL o 0 (ps (V3 2) par (dep v) v).toInt64) 0 r5 V6)
      unfold wp_X9_pathSumByHeavyPaths wp_X9_pathSum
      refine f_isApart H3 hv hu (fun _ V2 hs2 h0 cnt2 ord2 par2 dep2 pe2 R2 T2 hR2 => ?_) (fun q => absurd (cn_symm hc) q)
      have hps : ps (V2 58) par2 (dep2 u) u = ps (V3 2) par (dep v) v := by
        rw [ps_both (V3 2) hA (TV_rt T) (RT_rt T2) (fun x => TV_lt T) (fun x => RT_lt T2) hR]
        exact ps_congr (RT_rt T2) (fun x => RT_lt T2) (fun x hx => by rw [SF_f hs2 58 (by omega), ST_v H3 x hx]) hR2
      rw [mb_t rfl]
      exact f_pathSum T2 h20 hR2 (post := fun r5 V6 => fin JJ (vp_updL o 0 (ps (V3 2) par (dep v) v).toInt64) 0 r5 V6) (fin_ok h0 hps (JJ_sf H3 hs2))
    · show wp_X9_pathSumByHeavyPaths V1 (nI u) (nI v) (fun r5 V6 => fin JJ o 2 r5 V6)
      unfold wp_X9_pathSumByHeavyPaths wp_X9_pathSum
      refine f_isApart (ST_sf H hs) hv hu (fun q => absurd (cn_symm q) hc) (fun _ V2 hs2 h0 => ?_)
      rw [mb_f (by decide)]
      exact fin_no h0 (by decide) (JJ_sf (ST_sf H hs) hs2)
  · show wp_X9_pathSumByHeavyPaths V a1 a2 (fun r5 V6 => fin JJ o 1 r5 V6)
    unfold wp_X9_pathSumByHeavyPaths wp_X9_pathSum
    refine f_isApart_bad H hb.symm (fun V2 hs h0 => ?_)
    rw [mb_f (by decide)]
    exact fin_no h0 (by decide) (JJ_sf H hs)
theorem j_32 (hJ : JJ V) : wpc_32 V o D a1 a2 a3 JJ := by
  obtain ⟨n, k, a, b, w, pr, F, gr, H⟩ := hJ
  have h20 := GV_n20 (ST_g H)
  unfold wpc_32 wp_L_depth wp_X8_depth
  refine s_requireVertices (ST_g H) (fun u v hu hv e1 e2 => ?_) (fun hb => Or.inl ⟨rfl, ?_⟩)
  · rw [e1, e2]
    refine s_plantHolding H hu hv (fun hc V1 hf H1 cnt ord par dep pe lp R T hR => ?_) (fun hc V1 hs => Or.inr ⟨rfl, ?_⟩)
    · have hA := FV_ac (ST_f H1)
      rw [e_depthR (ST_g H1) T hR]
      show wp_X9_depth V1 (nI u) (nI v) (fun r5 V6 => fin JJ (vp_updL o 0 (nI (dep v)).toInt64) 0 r5 V6)
      unfold wp_X9_depth
      refine f_isApart H1 hu hv (fun _ V2 hs2 h0 cnt2 ord2 par2 dep2 pe2 R2 T2 hR2 => ?_) (fun q => absurd hc q)
      have T3 := RT_to hA (TV_rt T) T2
      rw [mb_t rfl, nI_clamp (by omega), RT_dep T3 hR]
      exact ⟨nI_in (by omega) (by omega), fin_ok h0 rfl (JJ_sf H1 hs2)⟩
    · show wp_X9_depth V1 (nI u) (nI v) (fun r5 V6 => fin JJ o 2 r5 V6)
      unfold wp_X9_depth
      refine f_isApart (ST_sf H hs) hu hv (fun q => absurd q hc) (fun _ V2 hs2 h0 => ?_)
      rw [mb_f (by decide)]
      exact fin_no h0 (by decide) (JJ_sf (ST_sf H hs) hs2)
  · show wp_X9_depth V a1 a2 (fun r5 V6 => fin JJ o 1 r5 V6)
    unfold wp_X9_depth
    refine f_isApart_bad H hb (fun V2 hs h0 => ?_)
    rw [mb_f (by decide)]
    exact fin_no h0 (by decide) (JJ_sf H hs)
theorem j_37 (hJ : JJ V) : wpc_37 V o D a1 a2 a3 JJ := by
  obtain ⟨n, k, a, b, w, pr, F, gr, H⟩ := hJ
  have h20 := GV_n20 (ST_g H)
  unfold wpc_37 wp_L_subtreeSize wp_X8_subtreeSize
  refine s_requireVertices (ST_g H) (fun u v hu hv e1 e2 => ?_) (fun hb => Or.inl ⟨rfl, ?_⟩)
  · rw [e1, e2]
    refine s_plantHolding H hu hv (fun hc V1 hf H1 cnt ord par dep pe lp R T hR => ?_) (fun hc V1 hs => Or.inr ⟨rfl, ?_⟩)
    · have hA := FV_ac (ST_f H1)
      refine s_build5 (ST_g H1) T (fun V3 hf3 B => ?_)
      have hs3 : SF V1 V3 := SF_cl (fun c hc => hf3 c (by omega))
      have H3 := ST_sf H1 hs3
      have T0 : TV V3 n a b w F u cnt ord par dep pe lp R := TV_fr T (fun c hc => hf3 c (by omega))
      rw [e_sizeBelow (ST_g H3) hv, HB_z B v hR]
      show wp_X9_subtreeSize V3 (nI u) (nI v) (fun r5 V6 => fin JJ (vp_updL o 0 (nI (sz R par dep n v)).toInt64) 0 r5 V6)
      unfold wp_X9_subtreeSize
      refine f_isApart H3 hu hv (fun _ V2 hs2 h0 cnt2 ord2 par2 dep2 pe2 R2 T2 hR2 => ?_) (fun q => absurd hc q)
      have T3 := RT_to hA (TV_rt T) T2
      rw [mb_t rfl, nI_clamp (by omega), RT_z T3 v hR]
      exact ⟨nI_in (by omega) (by omega), fin_ok h0 rfl (JJ_sf H3 hs2)⟩
    · show wp_X9_subtreeSize V1 (nI u) (nI v) (fun r5 V6 => fin JJ o 2 r5 V6)
      unfold wp_X9_subtreeSize
      refine f_isApart (ST_sf H hs) hu hv (fun q => absurd q hc) (fun _ V2 hs2 h0 => ?_)
      rw [mb_f (by decide)]
      exact fin_no h0 (by decide) (JJ_sf (ST_sf H hs) hs2)
  · show wp_X9_subtreeSize V a1 a2 (fun r5 V6 => fin JJ o 1 r5 V6)
    unfold wp_X9_subtreeSize
    refine f_isApart_bad H hb (fun V2 hs h0 => ?_)
    rw [mb_f (by decide)]
    exact fin_no h0 (by decide) (JJ_sf H hs)
theorem j_38 (hJ : JJ V) : wpc_38 V o D a1 a2 a3 JJ := by
  obtain ⟨n, k, a, b, w, pr, F, gr, H⟩ := hJ
  have h20 := GV_n20 (ST_g H)
  unfold wpc_38 wp_L_subtreeSum wp_X8_subtreeSum
  refine s_requireVertices (ST_g H) (fun u v hu hv e1 e2 => ?_) (fun hb => Or.inl ⟨rfl, ?_⟩)
  · rw [e1, e2]
    refine s_plantHolding H hu hv (fun hc V1 hf H1 cnt ord par dep pe lp R T hR => ?_) (fun hc V1 hs => Or.inr ⟨rfl, ?_⟩)
    · have hA := FV_ac (ST_f H1)
      refine s_build5 (ST_g H1) T (fun V3 hf3 B => ?_)
      have hs3 : SF V1 V3 := SF_cl (fun c hc => hf3 c (by omega))
      have H3 := ST_sf H1 hs3
      have T0 : TV V3 n a b w F u cnt ord par dep pe lp R := TV_fr T (fun c hc => hf3 c (by omega))
      rw [e_sumBelow (ST_g H3) hv, HB_s B v hR]
      show wp_X9_subtreeSum V3 (nI u) (nI v) (fun r5 V6 => fin JJ (vp_updL o 0 (sm (bel R par dep v) (V3 2) n).toInt64) 0 r5 V6)
      unfold wp_X9_subtreeSum
      refine f_isApart H3 hu hv (fun _ V2 hs2 h0 cnt2 ord2 par2 dep2 pe2 R2 T2 hR2 => ?_) (fun q => absurd hc q)
      have T3 := RT_to hA (TV_rt T) T2
      rw [mb_t rfl]
      exact f_subtreeSum T3 h20 hR (post := fun r5 V6 => fin JJ (vp_updL o 0 (sm (bel R par dep v) (V3 2) n).toInt64) 0 r5 V6) (fin_ok h0 (sm_congr (fun _ _ => Iff.rfl) (fun x hx _ => by rw [SF_f hs2 58 (by omega), ST_v H3 x hx])) (JJ_sf H3 hs2))
    · show wp_X9_subtreeSum V1 (nI u) (nI v) (fun r5 V6 => fin JJ o 2 r5 V6)
      unfold wp_X9_subtreeSum
      refine f_isApart (ST_sf H hs) hu hv (fun q => absurd q hc) (fun _ V2 hs2 h0 => ?_)
      rw [mb_f (by decide)]
      exact fin_no h0 (by decide) (JJ_sf (ST_sf H hs) hs2)
  · show wp_X9_subtreeSum V a1 a2 (fun r5 V6 => fin JJ o 1 r5 V6)
    unfold wp_X9_subtreeSum
    refine f_isApart_bad H hb (fun V2 hs h0 => ?_)
    rw [mb_f (by decide)]
    exact fin_no h0 (by decide) (JJ_sf H hs)
theorem j_40 (hJ : JJ V) : wpc_40 V o D a1 a2 a3 JJ := by
  obtain ⟨n, k, a, b, w, pr, F, gr, H⟩ := hJ
  have h20 := GV_n20 (ST_g H)
  unfold wpc_40 wp_L_head wp_X8_head
  refine s_requireVertices (ST_g H) (fun u v hu hv e1 e2 => ?_) (fun hb => Or.inl ⟨rfl, ?_⟩)
  · rw [e1, e2]
    refine s_plantHolding H hu hv (fun hc V1 hf H1 cnt ord par dep pe lp R T hR => ?_) (fun hc V1 hs => Or.inr ⟨rfl, ?_⟩)
    · have hA := FV_ac (ST_f H1)
      refine s_build5 (ST_g H1) T (fun V3 hf3 B => ?_)
      have hs3 : SF V1 V3 := SF_cl (fun c hc => hf3 c (by omega))
      have H3 := ST_sf H1 hs3
      have T0 : TV V3 n a b w F u cnt ord par dep pe lp R := TV_fr T (fun c hc => hf3 c (by omega))
      rw [e_headOf (ST_g H3) hv, HB_d B v hR]
      show wp_X9_head V3 (nI u) (nI v) (fun r5 V6 => fin JJ (vp_updL o 0 (nI (hdf (hvp R u par (sz R par dep n)) par (dep v) v)).toInt64) 0 r5 V6)
      unfold wp_X9_head
      refine f_isApart H3 hu hv (fun _ V2 hs2 h0 cnt2 ord2 par2 dep2 pe2 R2 T2 hR2 => ?_) (fun q => absurd hc q)
      have T3 := RT_to hA (TV_rt T) T2
      rw [mb_t rfl]
      exact f_head T3 h20 hR (post := fun r5 V6 => fin JJ (vp_updL o 0 (nI (hdf (hvp R u par (sz R par dep n)) par (dep v) v)).toInt64) 0 r5 V6) (fin_ok h0 rfl (JJ_sf H3 hs2))
    · show wp_X9_head V1 (nI u) (nI v) (fun r5 V6 => fin JJ o 2 r5 V6)
      unfold wp_X9_head
      refine f_isApart (ST_sf H hs) hu hv (fun q => absurd q hc) (fun _ V2 hs2 h0 => ?_)
      rw [mb_f (by decide)]
      exact fin_no h0 (by decide) (JJ_sf (ST_sf H hs) hs2)
  · show wp_X9_head V a1 a2 (fun r5 V6 => fin JJ o 1 r5 V6)
    unfold wp_X9_head
    refine f_isApart_bad H hb (fun V2 hs h0 => ?_)
    rw [mb_f (by decide)]
    exact fin_no h0 (by decide) (JJ_sf H hs)
theorem j_42 (hJ : JJ V) : wpc_42 V o D a1 a2 a3 JJ := by
  obtain ⟨n, k, a, b, w, pr, F, gr, H⟩ := hJ
  have h20 := GV_n20 (ST_g H)
  unfold wpc_42 wp_L_lightEdges wp_X8_lightEdges
  refine s_requireVertices (ST_g H) (fun u v hu hv e1 e2 => ?_) (fun hb => Or.inl ⟨rfl, ?_⟩)
  · rw [e1, e2]
    refine s_plantHolding H hu hv (fun hc V1 hf H1 cnt ord par dep pe lp R T hR => ?_) (fun hc V1 hs => Or.inr ⟨rfl, ?_⟩)
    · have hA := FV_ac (ST_f H1)
      refine s_build5 (ST_g H1) T (fun V3 hf3 B => ?_)
      have hs3 : SF V1 V3 := SF_cl (fun c hc => hf3 c (by omega))
      have H3 := ST_sf H1 hs3
      have T0 : TV V3 n a b w F u cnt ord par dep pe lp R := TV_fr T (fun c hc => hf3 c (by omega))
      rw [e_lightAbove (ST_g H3) hv, HB_l B v hR]
      show wp_X9_lightEdges V3 (nI u) (nI v) (fun r5 V6 => fin JJ (vp_updL o 0 (nI (lg (hvp R u par (sz R par dep n)) par (dep v) v)).toInt64) 0 r5 V6)
      unfold wp_X9_lightEdges
      refine f_isApart H3 hu hv (fun _ V2 hs2 h0 cnt2 ord2 par2 dep2 pe2 R2 T2 hR2 => ?_) (fun q => absurd hc q)
      have T3 := RT_to hA (TV_rt T) T2
      rw [mb_t rfl]
      exact f_lightEdges T3 h20 hR (post := fun r5 V6 => fin JJ (vp_updL o 0 (nI (lg (hvp R u par (sz R par dep n)) par (dep v) v)).toInt64) 0 r5 V6) (fin_ok h0 rfl (JJ_sf H3 hs2))
    · show wp_X9_lightEdges V1 (nI u) (nI v) (fun r5 V6 => fin JJ o 2 r5 V6)
      unfold wp_X9_lightEdges
      refine f_isApart (ST_sf H hs) hu hv (fun q => absurd q hc) (fun _ V2 hs2 h0 => ?_)
      rw [mb_f (by decide)]
      exact fin_no h0 (by decide) (JJ_sf (ST_sf H hs) hs2)
  · show wp_X9_lightEdges V a1 a2 (fun r5 V6 => fin JJ o 1 r5 V6)
    unfold wp_X9_lightEdges
    refine f_isApart_bad H hb (fun V2 hs h0 => ?_)
    rw [mb_f (by decide)]
    exact fin_no h0 (by decide) (JJ_sf H hs)
end CASES1
