section CASES2
variable {V : Mm} {o : Nat → Int64} {D : Nat → UInt64} {a1 a2 a3 : Int32}
theorem j_24 (hJ : JJ V) : wpc_24 V o D a1 a2 a3 JJ := by
  obtain ⟨n, k, a, b, w, pr, F, gr, H⟩ := hJ
  have h20 := GV_n20 (ST_g H)
  unfold wpc_24 wp_L_pathVertex wp_X8_pathVertex
  refine s_requireVertices (ST_g H) (fun u v hu hv e1 e2 => ?_) (fun hb => Or.inl ⟨rfl, ?_⟩)
  · rw [e1, e2]
    refine s_plantHolding H hv hu (fun hc V1 hf H1 cnt ord par dep pe lp R T hR => ?_) (fun hc V1 hs => Or.inr (Or.inl ⟨rfl, ?_⟩))
    · have hA := FV_ac (ST_f H1)
      rw [e_depthR (ST_g H1) T hR, e_bet]
      have hlt := TV_lt T hR
      have hdl := TV_d T hR
      by_cases hB : isB a3 0 (nI (dep u))
      · obtain ⟨d, hd, e3⟩ := isB_nI (by omega) hB
        rw [bI_t hB, mb_f (by decide)]
        have e3b := e3
        rw [e3]
        refine s_climb (ST_g H1) T hR hd ?_
        rw [← e3]
        show wp_X9_pathVertex V1 (nI u) (nI v) a3 (fun r5 V6 => fin JJ (vp_updL o 0 (nI (up par d u)).toInt64) 0 r5 V6)
        unfold wp_X9_pathVertex
        refine f_isApart H1 hv hu (fun _ V2 hs2 h0 cnt2 ord2 par2 dep2 pe2 R2 T2 hR2 => ?_) (fun q => absurd hc q)
        have T3 := RT_to hA (TV_rt T) T2
        rw [mb_t rfl, nI_clamp (by omega), RT_dep T3 hR, f_isB, bI_t hB, mb_f (by decide), e3]
        exact ⟨nI_in (by omega) (by omega), f_climb_pathVertex T3 h20 hR hd (post := fun r5 V6 => fin JJ (vp_updL o 0 (nI (up par d u)).toInt64) 0 r5 V6) (fin_ok h0 rfl (JJ_sf H1 hs2))⟩
      · rw [bI_f hB, mb_t rfl]
        refine Or.inr (Or.inr ⟨rfl, ?_⟩)
        show wp_X9_pathVertex V1 (nI u) (nI v) a3 (fun r5 V6 => fin JJ o 3 r5 V6)
        unfold wp_X9_pathVertex
        refine f_isApart H1 hv hu (fun _ V2 hs2 h0 cnt2 ord2 par2 dep2 pe2 R2 T2 hR2 => ?_) (fun q => absurd hc q)
        have T3 := RT_to hA (TV_rt T) T2
        rw [mb_t rfl, nI_clamp (by omega), RT_dep T3 hR, f_isB, bI_f hB, mb_t rfl, f_fails]
        exact ⟨nI_in (by omega) (by omega), fin_no (by rw [wr_eq, upd_eq]) (by decide) (JJ_sf H1 (SF_tr hs2 (SF_0 (by decide))))⟩
    · show wp_X9_pathVertex V1 (nI u) (nI v) a3 (fun r5 V6 => fin JJ o 2 r5 V6)
      unfold wp_X9_pathVertex
      refine f_isApart (ST_sf H hs) hv hu (fun q => absurd q hc) (fun _ V2 hs2 h0 => ?_)
      rw [mb_f (by decide)]
      exact fin_no h0 (by decide) (JJ_sf (ST_sf H hs) hs2)
  · show wp_X9_pathVertex V a1 a2 a3 (fun r5 V6 => fin JJ o 1 r5 V6)
    unfold wp_X9_pathVertex
    refine f_isApart_bad H hb.symm (fun V2 hs h0 => ?_)
    rw [mb_f (by decide)]
    exact fin_no h0 (by decide) (JJ_sf H hs)
theorem j_34 (hJ : JJ V) : wpc_34 V o D a1 a2 a3 JJ := by
  obtain ⟨n, k, a, b, w, pr, F, gr, H⟩ := hJ
  have h20 := GV_n20 (ST_g H)
  unfold wpc_34 wp_L_ancestorByWalk wp_X8_ancestorByWalk
  refine s_requireVertices (ST_g H) (fun u v hu hv e1 e2 => ?_) (fun hb => Or.inl ⟨rfl, ?_⟩)
  · rw [e1, e2]
    refine s_plantHolding H hu hv (fun hc V1 hf H1 cnt ord par dep pe lp R T hR => ?_) (fun hc V1 hs => Or.inr (Or.inl ⟨rfl, ?_⟩))
    · have hA := FV_ac (ST_f H1)
      unfold wp_X8_requireDistance
      rw [e_depthR (ST_g H1) T hR, e_bet]
      have hlt := TV_lt T hR
      have hdl := TV_d T hR
      by_cases hB : isB a3 0 (nI (dep v))
      · obtain ⟨d, hd, e3⟩ := isB_nI (by omega) hB
        rw [bI_t hB, mb_f (by decide)]
        have e3b := e3
        rw [e3]
        refine s_climb (ST_g H1) T hR hd ?_
        rw [← e3]
        show wp_X9_ancestorByWalk V1 (nI u) (nI v) a3 (fun r5 V6 => fin JJ (vp_updL o 0 (nI (up par d v)).toInt64) 0 r5 V6)
        unfold wp_X9_ancestorByWalk wp_X9_ancestor
        refine f_isApart H1 hu hv (fun _ V2 hs2 h0 cnt2 ord2 par2 dep2 pe2 R2 T2 hR2 => ?_) (fun q => absurd hc q)
        have T3 := RT_to hA (TV_rt T) T2
        rw [mb_t rfl, nI_clamp (by omega), RT_dep T3 hR, f_isB, bI_t hB, mb_f (by decide), e3]
        exact ⟨nI_in (by omega) (by omega), f_climb_ancestor T3 h20 hR hd (post := fun r5 V6 => fin JJ (vp_updL o 0 (nI (up par d v)).toInt64) 0 r5 V6) (fin_ok h0 rfl (JJ_sf H1 hs2))⟩
      · rw [bI_f hB, mb_t rfl]
        refine Or.inr (Or.inr ⟨rfl, ?_⟩)
        show wp_X9_ancestorByWalk V1 (nI u) (nI v) a3 (fun r5 V6 => fin JJ o 3 r5 V6)
        unfold wp_X9_ancestorByWalk wp_X9_ancestor
        refine f_isApart H1 hu hv (fun _ V2 hs2 h0 cnt2 ord2 par2 dep2 pe2 R2 T2 hR2 => ?_) (fun q => absurd hc q)
        have T3 := RT_to hA (TV_rt T) T2
        rw [mb_t rfl, nI_clamp (by omega), RT_dep T3 hR, f_isB, bI_f hB, mb_t rfl, f_fails]
        exact ⟨nI_in (by omega) (by omega), fin_no (by rw [wr_eq, upd_eq]) (by decide) (JJ_sf H1 (SF_tr hs2 (SF_0 (by decide))))⟩
    · show wp_X9_ancestorByWalk V1 (nI u) (nI v) a3 (fun r5 V6 => fin JJ o 2 r5 V6)
      unfold wp_X9_ancestorByWalk wp_X9_ancestor
      refine f_isApart (ST_sf H hs) hu hv (fun q => absurd q hc) (fun _ V2 hs2 h0 => ?_)
      rw [mb_f (by decide)]
      exact fin_no h0 (by decide) (JJ_sf (ST_sf H hs) hs2)
  · show wp_X9_ancestorByWalk V a1 a2 a3 (fun r5 V6 => fin JJ o 1 r5 V6)
    unfold wp_X9_ancestorByWalk wp_X9_ancestor
    refine f_isApart_bad H hb (fun V2 hs h0 => ?_)
    rw [mb_f (by decide)]
    exact fin_no h0 (by decide) (JJ_sf H hs)
theorem j_33 (hJ : JJ V) : wpc_33 V o D a1 a2 a3 JJ := by
  obtain ⟨n, k, a, b, w, pr, F, gr, H⟩ := hJ
  have h20 := GV_n20 (ST_g H)
  unfold wpc_33 wp_L_ancestor wp_X8_ancestor
  refine s_requireVertices (ST_g H) (fun u v hu hv e1 e2 => ?_) (fun hb => Or.inl ⟨rfl, ?_⟩)
  · rw [e1, e2]
    refine s_plantHolding H hu hv (fun hc V1 hf H1 cnt ord par dep pe lp R T hR => ?_) (fun hc V1 hs => Or.inr (Or.inl ⟨rfl, ?_⟩))
    · have hA := FV_ac (ST_f H1)
      unfold wp_X8_requireDistance
      rw [e_depthR (ST_g H1) T hR, e_bet]
      have hlt := TV_lt T hR
      have hdl := TV_d T hR
      by_cases hB : isB a3 0 (nI (dep v))
      · obtain ⟨d, hd, e3⟩ := isB_nI (by omega) hB
        rw [bI_t hB, mb_f (by decide)]
        refine s_build6 (ST_g H1) T (fun V3 hf3 B => ?_)
        have hs3 : SF V1 V3 := SF_cl (fun c hc => hf3 c (by omega))
        have H3 := ST_sf H1 hs3
        have T0 : TV V3 n a b w F u cnt ord par dep pe lp R := TV_fr T (fun c hc => hf3 c (by omega))
        have e3b := e3
        rw [e3]
        refine s_climb6 (ST_g H3) T0 B hR hd ?_
        rw [← e3]
        show wp_X9_ancestor V3 (nI u) (nI v) a3 (fun r5 V6 => fin JJ (vp_updL o 0 (nI (up par d v)).toInt64) 0 r5 V6)
        unfold wp_X9_ancestor
        refine f_isApart H3 hu hv (fun _ V2 hs2 h0 cnt2 ord2 par2 dep2 pe2 R2 T2 hR2 => ?_) (fun q => absurd hc q)
        have T3 := RT_to hA (TV_rt T) T2
        rw [mb_t rfl, nI_clamp (by omega), RT_dep T3 hR, f_isB, bI_t hB, mb_f (by decide), e3]
        exact ⟨nI_in (by omega) (by omega), f_climb_ancestor T3 h20 hR hd (post := fun r5 V6 => fin JJ (vp_updL o 0 (nI (up par d v)).toInt64) 0 r5 V6) (fin_ok h0 rfl (JJ_sf H3 hs2))⟩
      · rw [bI_f hB, mb_t rfl]
        refine Or.inr (Or.inr ⟨rfl, ?_⟩)
        show wp_X9_ancestor V1 (nI u) (nI v) a3 (fun r5 V6 => fin JJ o 3 r5 V6)
        unfold wp_X9_ancestor
        refine f_isApart H1 hu hv (fun _ V2 hs2 h0 cnt2 ord2 par2 dep2 pe2 R2 T2 hR2 => ?_) (fun q => absurd hc q)
        have T3 := RT_to hA (TV_rt T) T2
        rw [mb_t rfl, nI_clamp (by omega), RT_dep T3 hR, f_isB, bI_f hB, mb_t rfl, f_fails]
        exact ⟨nI_in (by omega) (by omega), fin_no (by rw [wr_eq, upd_eq]) (by decide) (JJ_sf H1 (SF_tr hs2 (SF_0 (by decide))))⟩
    · show wp_X9_ancestor V1 (nI u) (nI v) a3 (fun r5 V6 => fin JJ o 2 r5 V6)
      unfold wp_X9_ancestor
      refine f_isApart (ST_sf H hs) hu hv (fun q => absurd q hc) (fun _ V2 hs2 h0 => ?_)
      rw [mb_f (by decide)]
      exact fin_no h0 (by decide) (JJ_sf (ST_sf H hs) hs2)
  · show wp_X9_ancestor V a1 a2 a3 (fun r5 V6 => fin JJ o 1 r5 V6)
    unfold wp_X9_ancestor
    refine f_isApart_bad H hb (fun V2 hs h0 => ?_)
    rw [mb_f (by decide)]
    exact fin_no h0 (by decide) (JJ_sf H hs)
theorem j_28 (hJ : JJ V) : wpc_28 V o D a1 a2 a3 JJ := by
  obtain ⟨n, k, a, b, w, pr, F, gr, H⟩ := hJ
  have h20 := GV_n20 (ST_g H)
  unfold wpc_28 wp_L_last wp_X8_last
  refine s_requireVertices (ST_g H) (fun u v hu hv e1 e2 => ?_) (fun hb => Or.inl ⟨rfl, ?_⟩)
  · rw [e1, e2]
    refine s_plantHolding H hu hv (fun hc V1 hf H1 cnt ord par dep pe lp R T hR => ?_) (fun hc V1 hs => Or.inr (Or.inl ⟨rfl, ?_⟩))
    · have hA := FV_ac (ST_f H1)
      unfold wp_X8_requireDifferent
      have hlt := TV_lt T hR
      refine ⟨fun q => Or.inr (Or.inr ⟨rfl, ?_⟩), fun q => ?_⟩
      · show wp_X9_last V1 (nI u) (nI v) (fun r5 V6 => fin JJ o 3 r5 V6)
        unfold wp_X9_last
        refine f_isApart H1 hv hu (fun _ V2 hs2 h0 cnt2 ord2 par2 dep2 pe2 R2 T2 hR2 => ?_) (fun q => absurd (cn_symm hc) q)
        rw [mb_t rfl, mb_t q, f_fails]
        exact fin_no (by rw [wr_eq, upd_eq]) (by decide) (JJ_sf H1 (SF_tr hs2 (SF_0 (by decide))))
      · have hne : u ≠ v := fun z => q (by rw [z])
        show wp_X7_lastFromRoot V1 (nI v) _
        rw [e_lastFromRoot (ST_g H1) T hR, (TP_p (TV_tp T) v hR (Ne.symm hne)).2.2.1]
        show wp_X9_last V1 (nI u) (nI v) (fun r5 V6 => fin JJ (vp_updL o 0 (nI (lp v)).toInt64) 0 r5 V6)
        unfold wp_X9_last
        refine f_isApart H1 hv hu (fun _ V2 hs2 h0 cnt2 ord2 par2 dep2 pe2 R2 T2 hR2 => ?_) (fun q => absurd (cn_symm hc) q)
        rw [mb_t rfl, mb_f q]
        refine f_last (ST_r (ST_sf H1 hs2)) (ST_i (ST_sf H1 hs2)) (FV_fk (ST_f H1)) hA T2 hR2 hne (post := fun r5 V6 => fin JJ (vp_updL o 0 (nI (lp v)).toInt64) 0 r5 V6) (fun f hl => fin_ok h0 ?_ (JJ_sf H1 hs2))
        rw [lst_uni (lst_symm hl) (TV_lst hA T v hR (Ne.symm hne)) (ST_inj H1)]
    · show wp_X9_last V1 (nI u) (nI v) (fun r5 V6 => fin JJ o 2 r5 V6)
      unfold wp_X9_last
      refine f_isApart (ST_sf H hs) hv hu (fun q => absurd (cn_symm q) hc) (fun _ V2 hs2 h0 => ?_)
      rw [mb_f (by decide)]
      exact fin_no h0 (by decide) (JJ_sf (ST_sf H hs) hs2)
  · show wp_X9_last V a1 a2 (fun r5 V6 => fin JJ o 1 r5 V6)
    unfold wp_X9_last
    refine f_isApart_bad H hb.symm (fun V2 hs h0 => ?_)
    rw [mb_f (by decide)]
    exact fin_no h0 (by decide) (JJ_sf H hs)
theorem j_29 (hJ : JJ V) : wpc_29 V o D a1 a2 a3 JJ := by
  obtain ⟨n, k, a, b, w, pr, F, gr, H⟩ := hJ
  have h20 := GV_n20 (ST_g H)
  unfold wpc_29 wp_L_lastByWalk wp_X8_lastByWalk
  refine s_requireVertices (ST_g H) (fun u v hu hv e1 e2 => ?_) (fun hb => Or.inl ⟨rfl, ?_⟩)
  · rw [e1, e2]
    refine s_plantHolding H hv hu (fun hc V1 hf H1 cnt ord par dep pe lp R T hR => ?_) (fun hc V1 hs => Or.inr (Or.inl ⟨rfl, ?_⟩))
    · have hA := FV_ac (ST_f H1)
      unfold wp_X8_requireDifferent
      have hlt := TV_lt T hR
      refine ⟨fun q => Or.inr (Or.inr ⟨rfl, ?_⟩), fun q => ?_⟩
      · show wp_X9_lastByWalk V1 (nI u) (nI v) (fun r5 V6 => fin JJ o 3 r5 V6)
        unfold wp_X9_lastByWalk wp_X9_last
        refine f_isApart H1 hv hu (fun _ V2 hs2 h0 cnt2 ord2 par2 dep2 pe2 R2 T2 hR2 => ?_) (fun q => absurd hc q)
        rw [mb_t rfl, mb_t q, f_fails]
        exact fin_no (by rw [wr_eq, upd_eq]) (by decide) (JJ_sf H1 (SF_tr hs2 (SF_0 (by decide))))
      · have hne : u ≠ v := fun z => q (by rw [z])
        refine s_lastByClimbing (ST_g H1) (ST_f H1) (fun _ z => z) T hR hne (fun f0 hl0 => ?_)
        show wp_X9_lastByWalk V1 (nI u) (nI v) (fun r5 V6 => fin JJ (vp_updL o 0 (nI f0).toInt64) 0 r5 V6)
        unfold wp_X9_lastByWalk wp_X9_last
        refine f_isApart H1 hv hu (fun _ V2 hs2 h0 cnt2 ord2 par2 dep2 pe2 R2 T2 hR2 => ?_) (fun q => absurd hc q)
        rw [mb_t rfl, mb_f q]
        refine f_last (ST_r (ST_sf H1 hs2)) (ST_i (ST_sf H1 hs2)) (FV_fk (ST_f H1)) hA T2 hR2 hne (post := fun r5 V6 => fin JJ (vp_updL o 0 (nI f0).toInt64) 0 r5 V6) (fun f hl => fin_ok h0 ?_ (JJ_sf H1 hs2))
        rw [lst_uni hl hl0 (ST_inj H1)]
    · show wp_X9_lastByWalk V1 (nI u) (nI v) (fun r5 V6 => fin JJ o 2 r5 V6)
      unfold wp_X9_lastByWalk wp_X9_last
      refine f_isApart (ST_sf H hs) hv hu (fun q => absurd q hc) (fun _ V2 hs2 h0 => ?_)
      rw [mb_f (by decide)]
      exact fin_no h0 (by decide) (JJ_sf (ST_sf H hs) hs2)
  · show wp_X9_lastByWalk V a1 a2 (fun r5 V6 => fin JJ o 1 r5 V6)
    unfold wp_X9_lastByWalk wp_X9_last
    refine f_isApart_bad H hb.symm (fun V2 hs h0 => ?_)
    rw [mb_f (by decide)]
    exact fin_no h0 (by decide) (JJ_sf H hs)
theorem j_31 (hJ : JJ V) : wpc_31 V o D a1 a2 a3 JJ := by
  obtain ⟨n, k, a, b, w, pr, F, gr, H⟩ := hJ
  have h20 := GV_n20 (ST_g H)
  unfold wpc_31 wp_L_parent wp_X8_parent
  refine s_requireVertices (ST_g H) (fun u v hu hv e1 e2 => ?_) (fun hb => Or.inl ⟨rfl, ?_⟩)
  · rw [e1, e2]
    refine s_plantHolding H hu hv (fun hc V1 hf H1 cnt ord par dep pe lp R T hR => ?_) (fun hc V1 hs => Or.inr (Or.inl ⟨rfl, ?_⟩))
    · have hA := FV_ac (ST_f H1)
      have hlt := TV_lt T hR
      refine ⟨fun q => Or.inr (Or.inr ⟨rfl, ?_⟩), fun q => ?_⟩
      · show wp_X9_parent V1 (nI u) (nI v) (fun r5 V6 => fin JJ o 3 r5 V6)
        unfold wp_X9_parent
        refine f_isApart H1 hu hv (fun _ V2 hs2 h0 cnt2 ord2 par2 dep2 pe2 R2 T2 hR2 => ?_) (fun q => absurd hc q)
        rw [mb_t rfl, mb_t q.symm, f_fails]
        exact fin_no (by rw [wr_eq, upd_eq]) (by decide) (JJ_sf H1 (SF_tr hs2 (SF_0 (by decide))))
      · have hne : v ≠ u := fun z => q (by rw [z])
        rw [e_aboveR (ST_g H1) T hR hne]
        show wp_X9_parent V1 (nI u) (nI v) (fun r5 V6 => fin JJ (vp_updL o 0 (nI (par v)).toInt64) 0 r5 V6)
        unfold wp_X9_parent
        refine f_isApart H1 hu hv (fun _ V2 hs2 h0 cnt2 ord2 par2 dep2 pe2 R2 T2 hR2 => ?_) (fun q => absurd hc q)
        have T3 := RT_to hA (TV_rt T) T2
        rw [mb_t rfl, mb_f (Ne.symm q), nI_clamp (by omega), RT_par T3 hR hne]
        exact ⟨nI_in (by omega) (by omega), fin_ok h0 rfl (JJ_sf H1 hs2)⟩
    · show wp_X9_parent V1 (nI u) (nI v) (fun r5 V6 => fin JJ o 2 r5 V6)
      unfold wp_X9_parent
      refine f_isApart (ST_sf H hs) hu hv (fun q => absurd q hc) (fun _ V2 hs2 h0 => ?_)
      rw [mb_f (by decide)]
      exact fin_no h0 (by decide) (JJ_sf (ST_sf H hs) hs2)
  · show wp_X9_parent V a1 a2 (fun r5 V6 => fin JJ o 1 r5 V6)
    unfold wp_X9_parent
    refine f_isApart_bad H hb (fun V2 hs h0 => ?_)
    rw [mb_f (by decide)]
    exact fin_no h0 (by decide) (JJ_sf H hs)
theorem j_39 (hJ : JJ V) : wpc_39 V o D a1 a2 a3 JJ := by
  obtain ⟨n, k, a, b, w, pr, F, gr, H⟩ := hJ
  have h20 := GV_n20 (ST_g H)
  unfold wpc_39 wp_L_heavyChild wp_X8_heavyChild
  refine s_requireVertices (ST_g H) (fun u v hu hv e1 e2 => ?_) (fun hb => Or.inl ⟨rfl, ?_⟩)
  · rw [e1, e2]
    refine s_plantHolding H hu hv (fun hc V1 hf H1 cnt ord par dep pe lp R T hR => ?_) (fun hc V1 hs => Or.inr (Or.inl ⟨rfl, ?_⟩))
    · have hA := FV_ac (ST_f H1)
      have hlt := TV_lt T hR
      refine s_build5 (ST_g H1) T (fun V3 hf3 B => ?_)
      have hs3 : SF V1 V3 := SF_cl (fun c hc => hf3 c (by omega))
      have H3 := ST_sf H1 hs3
      have T0 : TV V3 n a b w F u cnt ord par dep pe lp R := TV_fr T (fun c hc => hf3 c (by omega))
      rw [e_heavyBelow (ST_g H3) hv]
      have hh := HB_h B v hR
      refine ⟨fun q => Or.inr (Or.inr ⟨rfl, ?_⟩), fun q => ?_⟩
      · show wp_X9_heavyChild V3 (nI u) (nI v) (fun r5 V6 => fin JJ o 3 r5 V6)
        unfold wp_X9_heavyChild
        refine f_isApart H3 hu hv (fun _ V2 hs2 h0 cnt2 ord2 par2 dep2 pe2 R2 T2 hR2 => ?_) (fun q => absurd hc q)
        have T3 := RT_to hA (TV_rt T) T2
        rw [mb_t rfl, nI_clamp (by omega), hvD_uni (RT_h T3 v hR) hh, q, mb_f (by decide), f_fails]
        exact ⟨nI_in (by omega) (by omega), fin_no (by rw [wr_eq, upd_eq]) (by decide) (JJ_sf H3 (SF_tr hs2 (SF_0 (by decide))))⟩
      · show wp_X9_heavyChild V3 (nI u) (nI v) (fun r5 V6 => fin JJ (vp_updL o 0 (V3 46 v).toInt64) 0 r5 V6)
        unfold wp_X9_heavyChild
        refine f_isApart H3 hu hv (fun _ V2 hs2 h0 cnt2 ord2 par2 dep2 pe2 R2 T2 hR2 => ?_) (fun q => absurd hc q)
        have T3 := RT_to hA (TV_rt T) T2
        have h46 : 0 ≤ V3 46 v := by
          rcases hh with ⟨z, _⟩ | ⟨c, z1, _, z3, _⟩
          · exact absurd z q
          · rw [z3]; exact nI_pos' (by have := TV_lt T z1.1; omega)
        rw [mb_t rfl, nI_clamp (by omega), hvD_uni (RT_h T3 v hR) hh, mb_t h46]
        exact ⟨nI_in (by omega) (by omega), nI_in (by omega) (by omega), fin_ok h0 rfl (JJ_sf H3 hs2)⟩
    · show wp_X9_heavyChild V1 (nI u) (nI v) (fun r5 V6 => fin JJ o 2 r5 V6)
      unfold wp_X9_heavyChild
      refine f_isApart (ST_sf H hs) hu hv (fun q => absurd q hc) (fun _ V2 hs2 h0 => ?_)
      rw [mb_f (by decide)]
      exact fin_no h0 (by decide) (JJ_sf (ST_sf H hs) hs2)
  · show wp_X9_heavyChild V a1 a2 (fun r5 V6 => fin JJ o 1 r5 V6)
    unfold wp_X9_heavyChild
    refine f_isApart_bad H hb (fun V2 hs h0 => ?_)
    rw [mb_f (by decide)]
    exact fin_no h0 (by decide) (JJ_sf H hs)
theorem f_common_bad {n k : Nat} {a b w : Nat → Nat} {pr F : Nat → Prop} {gr : Nat → Nat} {post : Int32 → Mm → Prop} {x y z : Int32} (H : ST V n k a b w pr F gr) (hb : bad n x ∨ bad n y ∨ bad n z) (h : ∀ V', SF V V' → V' 57 0 = 1 → post 0 V') : wp_X9_common V x y z post := by
  have hn := GV_n20 (ST_g H)
  have h0 : SF V (wr V 57 0 0) := SF_0 (by decide)
  have H1 := RG_sf (ST_r H) h0
  have hp : post 0 (wr (wr V 57 0 0) 57 0 1) := h _ (SF_tr h0 (SF_0 (by decide))) (by rw [wr_eq, upd_eq])
  have nb : ∀ v, v < n → ¬ bad n (nI v) := fun v hv q => by
    rcases q with q | ⟨-, q⟩
    · exact nI_pos (by omega) q
    · exact absurd ((nI_leI (by omega) (by omega)).mp q) (by omega)
  unfold wp_X9_common
  rw [forall_eq]
  rcases iv_cases x n (by omega) with ⟨u, hu, q⟩ | q
  · rw [q, f_isVertex H1 hu, mb_f (by decide)]
    rcases iv_cases y n (by omega) with ⟨v, hv, q2⟩ | q2
    · rw [q2, f_isVertex H1 hv, mb_f (by decide)]
      have hz : bad n z := hb.elim (fun t => absurd (by rw [q] at t; exact t) (nb u hu)) (fun t => t.elim (fun t => absurd (by rw [q2] at t; exact t) (nb v hv)) id)
      rw [f_isVertexX H1 hz, mb_t rfl, f_fails]; exact hp
    · rw [f_isVertexX H1 q2, mb_t rfl, f_fails]; exact hp
  · rw [f_isVertexX H1 q, mb_t rfl, f_fails]; exact hp
theorem f_common_ok {n k : Nat} {a b w : Nat → Nat} {pr F : Nat → Prop} {gr : Nat → Nat} {post : Int32 → Mm → Prop} {r u v : Nat} (H : ST V n k a b w pr F gr) (hr : r < n) (hu : u < n) (hv : v < n) (h : cn a b F r u → cn a b F r v → ∀ V' : Mm, SF V V' → V' 57 0 = 0 → ∀ cnt ord par dep pe R, RT V' n a b F r cnt ord par dep pe R → R u → R v → ∀ m, lca par dep m u v → post (nI m) V') (h2 : ¬ (cn a b F r u ∧ cn a b F r v) → ∀ V' : Mm, SF V V' → V' 57 0 = 2 → post 0 V') : wp_X9_common V (nI r) (nI u) (nI v) post := by
  have hn := GV_n20 (ST_g H)
  have h0 : SF V (wr V 57 0 0) := SF_0 (by decide)
  have H1 := ST_sf H h0
  unfold wp_X9_common
  rw [forall_eq, f_isVertex (ST_r H1) hr, mb_f (by decide), f_isVertex (ST_r H1) hu, mb_f (by decide), f_isVertex (ST_r H1) hv, mb_f (by decide)]
  refine f_rootsF H1 hr (fun V2 hf cnt ord par dep pe R T => ?_)
  have h02 : V2 57 0 = 0 := by rw [RFr_g hf 0 (by decide), wr_eq, upd_eq]
  have hs := SF_tr h0 (SF_r hf)
  have hp2 : ¬ (cn a b F r u ∧ cn a b F r v) → post 0 (wr V2 57 0 2) := fun q => h2 q _ (SF_tr hs (SF_0 (by decide))) (by rw [wr_eq, upd_eq])
  have hne : ∀ x, R x → ¬ V2 67 x = -2 := fun x hx => by
    by_cases hxr : x = r
    · rw [hxr, RT_r T]; decide
    · have := RT_lt T ((RT_rt T).2.2.1 x hx hxr).1
      rw [RT_par T hx hxr]
      intro z
      have z2 := congrArg Int32.toInt z
      rw [nI_toInt (by omega), show (-2 : Int32).toInt = -2 by decide] at z2
      omega
  rw [nI_clamp (by omega), nI_clamp (by omega)]
  refine ⟨nI_in (by omega) (by omega), ?_⟩
  by_cases hR : R u
  · rw [mb_f (hne u hR)]
    refine ⟨nI_in (by omega) (by omega), ?_⟩
    by_cases hR2 : R v
    · rw [mb_f (hne v hR2)]
      exact f_common T hn hR hR2 (h ((rt_cn (RT_rt T)).mp hR) ((rt_cn (RT_rt T)).mp hR2) V2 hs h02 cnt ord par dep pe R T hR hR2)
    · rw [RP_z (RT_rp T) v hv hR2, mb_t rfl, f_fails]
      exact hp2 (fun q => hR2 ((rt_cn (RT_rt T)).mpr q.2))
  · rw [RP_z (RT_rp T) u hu hR, mb_t rfl, f_fails]
    exact hp2 (fun q => hR ((rt_cn (RT_rt T)).mpr q.1))
theorem j_35 (hJ : JJ V) : wpc_35 V o D a1 a2 a3 JJ := by
  obtain ⟨n, k, a, b, w, pr, F, gr, H⟩ := hJ
  have h20 := GV_n20 (ST_g H)
  unfold wpc_35 wp_L_common wp_X8_common
  refine s_requireVertex (ST_g H) (fun r hr e0 => ?_) (fun hb => Or.inl ⟨rfl, ?_⟩)
  · rw [e0]
    refine s_requireVertices (ST_g H) (fun u v hu hv e1 e2 => ?_) (fun hb => Or.inl ⟨rfl, ?_⟩)
    · rw [e1, e2]
      refine s_plantHolding H hr hu (fun hc V1 hf H1 cnt ord par dep pe lp R T hR => ?_) (fun hc V1 hs => Or.inr ⟨rfl, ?_⟩)
      · have hA := FV_ac (ST_f H1)
        refine s_inTree H1 T hv (fun hR2 => ?_) (fun hR2 => Or.inr ⟨rfl, ?_⟩)
        · skip
          refine s_build6 (ST_g H1) T (fun V3 hf3 B => ?_)
          have hs3 : SF V1 V3 := SF_cl (fun c hc => hf3 c (by omega))
          have H3 := ST_sf H1 hs3
          have T0 : TV V3 n a b w F r cnt ord par dep pe lp R := TV_fr T (fun c hc => hf3 c (by omega))
          refine s_meet (ST_g H3) T0 B hR hR2 (fun m hm => ?_)
          show wp_X9_common V3 (nI r) (nI u) (nI v) (fun r5 V6 => fin JJ (vp_updL o 0 (nI m).toInt64) 0 r5 V6)
          refine f_common_ok H3 hr hu hv (fun _ _ V2 hs2 h0 cnt2 ord2 par2 dep2 pe2 R2 T2 g1 g2 m2 hm2 => ?_) (fun q => absurd ⟨hc, (rt_cn (TV_rt T)).mp hR2⟩ q)
          have e : m2 = m := by
            refine lca_uni (TV_rt T) hR ?_ hm
            exact ⟨⟨(anc_uni hA (TV_rt T) (RT_rt T2) hR).mp hm2.1.1, (anc_uni hA (TV_rt T) (RT_rt T2) hR2).mp hm2.1.2⟩, fun x hx => (anc_uni hA (TV_rt T) (RT_rt T2) ((anc_R (TV_rt T) hR ((anc_uni hA (TV_rt T) (RT_rt T2) hR).mp hm2.1.1)).1)).mp (hm2.2 x ⟨(anc_uni hA (TV_rt T) (RT_rt T2) hR).mpr hx.1, (anc_uni hA (TV_rt T) (RT_rt T2) hR2).mpr hx.2⟩)⟩
          rw [e]
          exact fin_ok h0 rfl (JJ_sf H3 hs2)
        · show wp_X9_common V1 (nI r) (nI u) (nI v) (fun r5 V6 => fin JJ o 2 r5 V6)
          refine f_common_ok H1 hr hu hv (fun _ q => absurd ((rt_cn (TV_rt T)).mpr q) hR2) (fun _ V2 hs2 h0 => fin_no h0 (by decide) (JJ_sf H1 hs2))
      · show wp_X9_common V1 (nI r) (nI u) (nI v) (fun r5 V6 => fin JJ o 2 r5 V6)
        refine f_common_ok (ST_sf H hs) hr hu hv (fun q => absurd q hc) (fun _ V2 hs2 h0 => fin_no h0 (by decide) (JJ_sf (ST_sf H hs) hs2))
    · show wp_X9_common V (nI r) a2 a3 (fun r5 V6 => fin JJ o 1 r5 V6)
      exact f_common_bad H (Or.inr hb) (fun V2 hs h0 => fin_no h0 (by decide) (JJ_sf H hs))
  · show wp_X9_common V a1 a2 a3 (fun r5 V6 => fin JJ o 1 r5 V6)
    exact f_common_bad H (Or.inl hb) (fun V2 hs h0 => fin_no h0 (by decide) (JJ_sf H hs))
theorem j_36 (hJ : JJ V) : wpc_36 V o D a1 a2 a3 JJ := by
  obtain ⟨n, k, a, b, w, pr, F, gr, H⟩ := hJ
  have h20 := GV_n20 (ST_g H)
  unfold wpc_36 wp_L_commonByWalk wp_X8_commonByWalk
  refine s_requireVertex (ST_g H) (fun r hr e0 => ?_) (fun hb => Or.inl ⟨rfl, ?_⟩)
  · rw [e0]
    refine s_requireVertices (ST_g H) (fun u v hu hv e1 e2 => ?_) (fun hb => Or.inl ⟨rfl, ?_⟩)
    · rw [e1, e2]
      refine s_plantHolding H hr hu (fun hc V1 hf H1 cnt ord par dep pe lp R T hR => ?_) (fun hc V1 hs => Or.inr ⟨rfl, ?_⟩)
      · have hA := FV_ac (ST_f H1)
        refine s_inTree H1 T hv (fun hR2 => ?_) (fun hR2 => Or.inr ⟨rfl, ?_⟩)
        · skip
          refine s_meetByClimbing (ST_g H1) T hR hR2 (fun m hm => ?_)
          show wp_X9_commonByWalk V1 (nI r) (nI u) (nI v) (fun r5 V6 => fin JJ (vp_updL o 0 (nI m).toInt64) 0 r5 V6)
          unfold wp_X9_commonByWalk
          refine f_common_ok H1 hr hu hv (fun _ _ V2 hs2 h0 cnt2 ord2 par2 dep2 pe2 R2 T2 g1 g2 m2 hm2 => ?_) (fun q => absurd ⟨hc, (rt_cn (TV_rt T)).mp hR2⟩ q)
          have e : m2 = m := by
            refine lca_uni (TV_rt T) hR ?_ hm
            exact ⟨⟨(anc_uni hA (TV_rt T) (RT_rt T2) hR).mp hm2.1.1, (anc_uni hA (TV_rt T) (RT_rt T2) hR2).mp hm2.1.2⟩, fun x hx => (anc_uni hA (TV_rt T) (RT_rt T2) ((anc_R (TV_rt T) hR ((anc_uni hA (TV_rt T) (RT_rt T2) hR).mp hm2.1.1)).1)).mp (hm2.2 x ⟨(anc_uni hA (TV_rt T) (RT_rt T2) hR).mpr hx.1, (anc_uni hA (TV_rt T) (RT_rt T2) hR2).mpr hx.2⟩)⟩
          rw [e]
          exact fin_ok h0 rfl (JJ_sf H1 hs2)
        · show wp_X9_commonByWalk V1 (nI r) (nI u) (nI v) (fun r5 V6 => fin JJ o 2 r5 V6)
          unfold wp_X9_commonByWalk
          refine f_common_ok H1 hr hu hv (fun _ q => absurd ((rt_cn (TV_rt T)).mpr q) hR2) (fun _ V2 hs2 h0 => fin_no h0 (by decide) (JJ_sf H1 hs2))
      · show wp_X9_commonByWalk V1 (nI r) (nI u) (nI v) (fun r5 V6 => fin JJ o 2 r5 V6)
        unfold wp_X9_commonByWalk
        refine f_common_ok (ST_sf H hs) hr hu hv (fun q => absurd q hc) (fun _ V2 hs2 h0 => fin_no h0 (by decide) (JJ_sf (ST_sf H hs) hs2))
    · show wp_X9_commonByWalk V (nI r) a2 a3 (fun r5 V6 => fin JJ o 1 r5 V6)
      unfold wp_X9_commonByWalk
      exact f_common_bad H (Or.inr hb) (fun V2 hs h0 => fin_no h0 (by decide) (JJ_sf H hs))
  · show wp_X9_commonByWalk V a1 a2 a3 (fun r5 V6 => fin JJ o 1 r5 V6)
    unfold wp_X9_commonByWalk
    exact f_common_bad H (Or.inl hb) (fun V2 hs h0 => fin_no h0 (by decide) (JJ_sf H hs))
theorem j_41 (hJ : JJ V) : wpc_41 V o D a1 a2 a3 JJ := by
  obtain ⟨n, k, a, b, w, pr, F, gr, H⟩ := hJ
  have h20 := GV_n20 (ST_g H)
  unfold wpc_41 wp_L_heavyPaths wp_X8_heavyPaths
  refine s_requireVertex (ST_g H) (fun u hu e1 => ?_) (fun hb => ⟨rfl, ?_⟩)
  · rw [e1]
    refine s_plantF H hu (fun V1 hf cnt ord par dep pe lp R T => ?_)
    have H1 := ST_sf H (SF_cl (fun c hc => hf c (by omega)))
    have hA := FV_ac (ST_f H1)
    refine s_build5 (ST_g H1) T (fun V3 hf3 B => ?_)
    have hs3 : SF V1 V3 := SF_cl (fun c hc => hf3 c (by omega))
    have H3 := ST_sf H1 hs3
    have T0 : TV V3 n a b w F u cnt ord par dep pe lp R := TV_fr T (fun c hc => hf3 c (by omega))
    refine s_countPaths (ST_g H3) T0 B ?_
    show wp_X9_heavyPaths V3 (nI u) (fun r5 V6 => fin JJ (vp_updL o 0 (nI (ct (fun v => R v ∧ (v = u ∨ ¬ hvp R u par (sz R par dep n) v)) n)).toInt64) 0 r5 V6)
    unfold wp_X9_heavyPaths
    refine f_isApart H3 hu hu (fun _ V2 hs2 h0 cnt2 ord2 par2 dep2 pe2 R2 T2 hR2 => ?_) (fun q => absurd (cn_refl _ _) q)
    have T3 := RT_to hA (TV_rt T) T2
    rw [mb_t rfl]
    exact f_heavyPaths T3 h20 (post := fun r5 V6 => fin JJ (vp_updL o 0 (nI (ct (fun v => R v ∧ (v = u ∨ ¬ hvp R u par (sz R par dep n) v)) n)).toInt64) 0 r5 V6) (fin_ok h0 rfl (JJ_sf H3 hs2))
  · show wp_X9_heavyPaths V a1 (fun r5 V6 => fin JJ o 1 r5 V6)
    unfold wp_X9_heavyPaths
    refine f_isApart_bad H (Or.inl hb) (fun V2 hs h0 => ?_)
    rw [mb_f (by decide)]
    exact fin_no h0 (by decide) (JJ_sf H hs)
end CASES2
