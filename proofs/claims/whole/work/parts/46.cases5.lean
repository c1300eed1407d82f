section CASES5
variable {n k : Nat} {a b w a' b' w' K K' : Nat → Nat} {pr F C0 S : Nat → Prop} {gr : Nat → Nat} {V V' V0 V1 V2 : Mm} {post : Int32 → Mm → Prop} {pp : Int32 → Mm → Prop} {pos : Mm → Prop} {u v e r cnt d : Nat} {x y z : Int32} {o : Nat → Int64} {D : Nat → UInt64} {a1 a2 a3 : Int32} {J : Mm → Prop}
/-- the one edge that C0 has more than F, or -1 -/
def more (C0 F : Nat → Prop) (x : Int32) : Prop := (x = -1 ∧ ∀ g, C0 g → F g) ∨ ∃ m, C0 m ∧ ¬ F m ∧ x = nI m ∧ ∀ g, C0 g → ¬ F g → g = m
theorem rep_C (hk : k ≤ 60) (hpk : ∀ g, pr g → g < k) (hA : acy a b F) (hM : msf a b (ky w) pr F) (h1 : ¬ F e → x = -1) (h2 : F e → least (rv a b pr F e) (ky w) k x) : ∃ C0, msf a b (ky w) (fun g => pr g ∧ g ≠ e) C0 ∧ more C0 F x := by
  by_cases hF : F e
  · rcases h2 hF with ⟨q1, q2⟩ | ⟨m, q1, q2, q3, q4⟩
    · exact ⟨_, msf_cut hM hF (fun g hg hn => Classical.byContradiction fun z => q2 g (hpk g hg) ⟨hn, hg, z⟩), Or.inl ⟨q1, fun g hg => hg.1⟩⟩
    · refine ⟨_, msf_repl (K' := ky w) (pr' := fun g => pr g ∧ g ≠ e) (m := m) (fun x y hx hy => ky_inj (by have := hpk x hx.1; omega) (by have := hpk y hy.1; omega)) hM hF (fun _ _ => rfl) (fun g q => q.1) (fun g q z => ⟨q, z⟩) ⟨q2.2.1, q2.1⟩ q2.2.2 (fun g hg hX => q4 g (hpk g hg.1) ⟨hg.2, hg.1, hX⟩), Or.inr ⟨m, Or.inr rfl, fun z => rv_ne q2 ⟨z, q2.1⟩, q3, fun g hg hn => hg.elim (fun z => absurd z.1 hn) id⟩⟩
  · exact ⟨F, msf_drop hM hF, Or.inl ⟨h1 hF, fun _ z => z⟩⟩
theorem f_joining (H : RG V n k a b w pr) (hF : ∀ g, g < k → V 65 g = bI (F g)) (hM : msf a b (ky w) pr F) (hM2 : msf a b (ky w) (fun g => pr g ∧ g ≠ e) C0) (he : e < k) (hx : more C0 F x) (h : ∀ (V' : Mm) gr, (∀ c, c ≠ 62 → c ≠ 63 → c ≠ 65 → c ≠ 66 → V' c = V c) → (∀ e, e < k → V' 65 e = bI (F e)) → (∀ v, v < n → V' 63 v = nI (gr v)) → (∀ v, v < n → gr v < 20) → LB n a b gr F → post x V') : wp_X9_joining V (nI e) post := by
  have h60 := RG_k60 H
  unfold wp_X9_joining
  refine f_finds_66 H (fun V1 gr1 C hf1 hc hg1 hs1 hl1 hd => ?_)
  have hp : (fun g => pr g ∧ nI g ≠ nI e) = (fun g => pr g ∧ g ≠ e) := funext fun g => propext ⟨fun q => ⟨q.1, fun z => q.2 (by rw [z])⟩, fun q => ⟨q.1, fun z => q.2 (by have := RG_pk H g q.1; exact (nI_eq (by omega) (by omega)).mp z)⟩⟩
  rw [hp] at hd
  have hC : C = C0 := funext fun g => propext (dcp_uni hd (msf_doc hM2) g)
  subst hC
  have hCk : ∀ g, C g → g < k := fun g hg => RG_pk H g (hM2.1 g hg).1
  have H1 : RG V1 n k a b w pr := RG_62 H (fun c h1 h2 h3 h4 => hf1 c h1 h2 h4)
  have key : ∀ f i y, i + f = k → ((y = -1 ∧ ∀ g, g < i → C g → F g) ∨ ∃ m, m < i ∧ C m ∧ ¬ F m ∧ y = nI m) → wp_X9_joining_L13 post (fun (V5 : Mm) (x6 : Int32) (x7 : Int32) => (wp_X9_finds_ V5 (fun (V8 : Mm) => post x6 V8))) (f + 1) V1 y (nI i) := by
    intro f
    induction f with
    | zero =>
      intro i y hi hy
      have : i = k := by omega
      subst this
      rw [wp_X9_joining_L13, RG_k H1, mb_t (Int32.le_refl _)]
      have hyx : y = x := by
        rcases hy with ⟨y1, y2⟩ | ⟨m, m1, m2, m3, m4⟩
        · rcases hx with ⟨x1, x2⟩ | ⟨m', x1, x2, x3, x4⟩
          · rw [y1, x1]
          · exact absurd (y2 m' (hCk m' x1) x1) x2
        · rcases hx with ⟨x1, x2⟩ | ⟨m', x1, x2, x3, x4⟩
          · exact absurd (x2 m m2) m3
          · rw [m4, x3, x4 m m2 m3]
      rw [hyx]
      refine f_finds H1 hM (fun V2 gr2 hf2 hF2 hg2 hs2 hl2 => h V2 gr2 (fun c h1 h2 h3 h4 => by rw [hf2 c h1 h2 h3, hf1 c h1 h2 h4]) hF2 hg2 hs2 hl2)
    | succ f ih =>
      intro i y hi hy
      have hik : i < k := by omega
      have up : (C i → F i) → wp_X9_joining_L13 post (fun (V5 : Mm) (x6 : Int32) (x7 : Int32) => (wp_X9_finds_ V5 (fun (V8 : Mm) => post x6 V8))) (f + 1) V1 y (nI (i + 1)) := fun hci => by
        refine ih (i + 1) y (by omega) ?_
        rcases hy with ⟨y1, y2⟩ | ⟨m, m1, m2⟩
        · exact Or.inl ⟨y1, fun g hg hc2 => (lt_or_eq1 hg).elim (fun z => y2 g z hc2) (fun z => by rw [z] at hc2 ⊢; exact hci hc2)⟩
        · exact Or.inr ⟨m, by omega, m2⟩
      rw [wp_X9_joining_L13, RG_k H1, mb_f (fun z => absurd ((nI_leI (by omega) (by omega)).mp z) (by omega)), nI_clamp (by omega), hc i hik, hf1 65 (by decide) (by decide) (by decide), hF i hik, nI_1]
      refine ⟨nI_in (by omega) (by omega), ?_⟩
      by_cases q1 : C i
      · rw [bI_t q1, mb_f (by decide)]
        refine ⟨nI_in (by omega) (by omega), ?_⟩
        by_cases q2 : F i
        · rw [bI_t q2, mb_f (by decide)]
          exact up (fun _ => q2)
        · rw [bI_f q2, mb_t rfl]
          exact ih (i + 1) _ (by omega) (Or.inr ⟨i, by omega, q1, q2, rfl⟩)
      · rw [bI_f q1, mb_t rfl]
        exact up (fun z => absurd z q1)
  exact ⟨k + 1, key k 0 (-1) (by omega) (Or.inl ⟨rfl, fun g hg => absurd hg (Nat.not_lt_zero _)⟩)⟩
theorem more_neg (hk : k ≤ 60) (hC : ∀ g, C0 g → g < k) (h : more C0 F x) : 0 ≤ x ↔ ¬ x = -1 := by
  rcases h with ⟨h1, -⟩ | ⟨m, h1, -, h3, -⟩
  · rw [h1]; exact ⟨fun q => absurd q (by decide), fun q => absurd rfl q⟩
  · have := hC m h1
    rw [h3]; exact ⟨fun _ z => (nI_neg (by omega)).mp z, fun _ => nI_pos' (by omega)⟩
theorem RG_rm (H : RG V n k a b w pr) : RG (wr V 64 e 0) n k a b w (fun g => pr g ∧ g ≠ e) := by
  refine ⟨RG_n20 H, RG_k60 H, (show V 57 9 = nI n from RG_n H), (show V 57 10 = nI k from RG_k H), (show ∀ e, e < k → V 59 e = nI (a e) from RG_a H), (show ∀ e, e < k → V 60 e = nI (b e) from RG_b H), (show ∀ e, e < k → V 61 e = nI (w e) from RG_w H), fun g hg => ?_, RG_an H, RG_bn H, RG_ab H, RG_w1 H, fun g q => RG_pk H g q.1⟩
  rw [wr_eq, upd_at]
  by_cases q : g = e
  · rw [if_pos q, bI_f (fun z => z.2 q)]
  · rw [if_neg q, RG_p H g hg]
    exact bI_congr ⟨fun z => ⟨z, q⟩, fun z => z.1⟩
theorem RG_rw (H : RG V n k a b w pr) (hd : 1 ≤ d ∧ d ≤ 99) : RG (wr V 61 e (nI d)) n k a b (fun g => if g = e then d else w g) pr := by
  refine ⟨RG_n20 H, RG_k60 H, (show V 57 9 = nI n from RG_n H), (show V 57 10 = nI k from RG_k H), (show ∀ e, e < k → V 59 e = nI (a e) from RG_a H), (show ∀ e, e < k → V 60 e = nI (b e) from RG_b H), fun g hg => ?_, (show ∀ e, e < k → V 64 e = bI (pr e) from RG_p H), RG_an H, RG_bn H, RG_ab H, fun g hg => ?_, RG_pk H⟩
  · rw [wr_eq, upd_at]
    show (if g = e then nI d else V 61 g) = nI (if g = e then d else w g)
    by_cases q : g = e
    · rw [if_pos q, if_pos q]
    · rw [if_neg q, if_neg q, RG_w H g hg]
  · show 1 ≤ (if g = e then d else w g) ∧ (if g = e then d else w g) ≤ 99
    by_cases q : g = e
    · rw [if_pos q]; exact hd
    · rw [if_neg q]; exact RG_w1 H g hg
theorem RG_hi (H : RG V n k a b w pr) (hf : ∀ c, 34 < c → V' c = V c) : RG V' n k a b w pr := RG_fr H (by rw [hf 57 (by omega)]) (by rw [hf 57 (by omega)]) (hf 59 (by omega)) (hf 60 (by omega)) (hf 61 (by omega)) (hf 64 (by omega))
theorem j_3 (hJ : JJ V) : wpc_3 V o D a1 a2 a3 JJ := by
  obtain ⟨n, k, a, b, w, pr, F, gr, H⟩ := hJ
  have h60 := GV_k60 (ST_g H)
  have h0 : SF V (wr V 57 0 0) := SF_0 (by decide)
  have H1 := ST_sf H h0
  unfold wpc_3 wp_L_removeEdge wp_X8_removeEdge
  refine s_requireEdge (ST_g H) (fun e he e1 => ?_) (fun hb => Or.inl ⟨rfl, ?_⟩)
  · rw [e1]
    unfold wp_X8_requirePresent
    rw [e_isPresent (ST_g H) he]
    by_cases hp : pr e
    · rw [bI_t hp, mb_f (by decide)]
      refine s_release (ST_g H) (ST_f H) (ST_m H) he (fun V1 x F1 hf1 G1 I1 M1 hx1 hx2 => ?_)
      obtain ⟨C0, hM2, hmo⟩ := rep_C h60 (GV_pk (ST_g H)) (FV_ac (ST_f H)) (ST_m H) hx1 hx2
      show wp_X9_removeEdge V1 (nI e) (fun r5 V6 => fin JJ (vp_updL o 0 x.toInt64) 0 r5 V6)
      have R1 : RG (wr V1 57 0 0) n k a b w pr := RG_wr57 (RG_hi (ST_r H) (fun c hc => hf1 c (by omega))) (by decide)
      unfold wp_X9_removeEdge
      rw [forall_eq, f_isEdge R1 he, mb_f (by decide), nI_clamp (by omega), RG_p R1 e he, bI_t hp, mb_f (by decide)]
      refine ⟨nI_in (by omega) (by omega), f_joining R1 (fun g hg => by rw [wr_ne _ _ _ (by decide), hf1 65 (by omega), ST_i H g hg]) (ST_m H) hM2 he hmo (fun V3 gr3 hf3 hF3 hg3 hs3 hl3 => ⟨nI_in (by omega) (by omega), ?_⟩)⟩
      rw [forall_eq]
      have R3 := RG_rm (e := e) (RG_62 R1 hf3)
      refine f_finds R3 M1 (fun V4 gr4 hf4 hF4 hg4 hs4 hl4 => ?_)
      refine fin_ok ?_ rfl ⟨n, k, a, b, w, _, F1, gr4, ST_mk G1 I1 M1 (fun c hc => ?_) (RG_62 R3 (fun c h1 h2 h3 _ => hf4 c h1 h2 h3)) (fun v hv => ?_) hF4 hg4 hs4 hl4⟩
      · rw [hf4 57 (by decide) (by decide) (by decide), wr_ne _ _ _ (by decide), hf3 57 (by decide) (by decide) (by decide) (by decide), w0]
      · rw [hf4 c (by omega) (by omega) (by omega), wr_ne _ _ _ (by omega), hf3 c (by omega) (by omega) (by omega) (by omega), wr_ne _ _ _ (by omega)]
      · rw [hf4 58 (by decide) (by decide) (by decide), wr_ne _ _ _ (by decide), hf3 58 (by decide) (by decide) (by decide) (by decide), wr_ne _ _ _ (by decide), hf1 58 (by omega), hf1 2 (by omega), ST_v H v hv]
    · rw [bI_f hp, mb_t rfl]
      refine Or.inr ⟨rfl, ?_⟩
      show wp_X9_removeEdge V (nI e) (fun r5 V6 => fin JJ o 2 r5 V6)
      unfold wp_X9_removeEdge
      rw [forall_eq, f_isEdge (ST_r H1) he, mb_f (by decide), nI_clamp (by omega), RG_p (ST_r H1) e he, bI_f hp, mb_t rfl, f_fails]
      exact ⟨nI_in (by omega) (by omega), fin_no (by rw [wr_eq, upd_eq]) (by decide) (JJ_sf H1 (SF_0 (by decide)))⟩
  · show wp_X9_removeEdge V a1 (fun r5 V6 => fin JJ o 1 r5 V6)
    exact f_isE_bad H hb (fun V2 hs h0 => fin_no h0 (by decide) (JJ_sf H hs))
theorem j_4 (hJ : JJ V) : wpc_4 V o D a1 a2 a3 JJ := by
  obtain ⟨n, k, a, b, w, pr, F, gr, H⟩ := hJ
  have h60 := GV_k60 (ST_g H)
  have h0 : SF V (wr V 57 0 0) := SF_0 (by decide)
  have H1 := ST_sf H h0
  unfold wpc_4 wp_L_setWeight wp_X8_setWeight
  refine s_requireEdge (ST_g H) (fun e he e1 => ?_) (fun hb => Or.inl ⟨rfl, ?_⟩)
  · rw [e1]
    unfold wp_X8_requireWeight
    rw [e_bet]
    by_cases hB : isB a2 1 99
    · rw [bI_t hB, mb_f (by decide)]
      unfold wp_X8_requirePresent
      show wp_X3_isPresent V (nI e) _
      rw [e_isPresent (ST_g H) he]
      by_cases hp : pr e
      · rw [bI_t hp, mb_f (by decide)]
        show wp_X3_weightOf V (nI e) _
        rw [e_weightOf (ST_g H) he]
        obtain ⟨d, hd1, hd2, e3⟩ := isB_w hB
        rw [e3] at hB ⊢
        refine s_reweigh (ST_g H) (ST_f H) (ST_m H) he hp ⟨hd1, hd2⟩ (fun V1 F1 hf1 G1 I1 M1 => ?_)
        show wp_X9_setWeight V1 (nI e) (nI d) (fun r5 V6 => fin JJ (vp_updL o 0 (nI (w e)).toInt64) 0 r5 V6)
        have R1 : RG (wr V1 57 0 0) n k a b w pr := RG_wr57 (RG_hi (ST_r H) (fun c hc => hf1 c (by omega))) (by decide)
        unfold wp_X9_setWeight
        rw [forall_eq, f_isEdge R1 he, mb_f (by decide), f_isB, bI_t hB, mb_f (by decide), nI_clamp (by omega), RG_p R1 e he, bI_t hp, mb_f (by decide), forall_eq]
        have R3 := RG_rw (e := e) R1 ⟨hd1, hd2⟩
        refine ⟨nI_in (by omega) (by omega), nI_in (by omega) (by omega), nI_in (by omega) (by omega), f_finds R3 M1 (fun V4 gr4 hf4 hF4 hg4 hs4 hl4 => ?_)⟩
        refine fin_ok ?_ (RG_w R1 e he) ⟨n, k, a, b, _, pr, F1, gr4, ST_mk G1 I1 M1 (fun c hc => ?_) (RG_62 R3 (fun c h1 h2 h3 _ => hf4 c h1 h2 h3)) (fun v hv => ?_) hF4 hg4 hs4 hl4⟩
        · rw [hf4 57 (by decide) (by decide) (by decide), wr_ne _ _ _ (by decide), w0]
        · rw [hf4 c (by omega) (by omega) (by omega), wr_ne _ _ _ (by omega), wr_ne _ _ _ (by omega)]
        · rw [hf4 58 (by decide) (by decide) (by decide), wr_ne _ _ _ (by decide), wr_ne _ _ _ (by decide), hf1 58 (by omega), hf1 2 (by omega), ST_v H v hv]
      · rw [bI_f hp, mb_t rfl]
        refine Or.inr (Or.inr ⟨rfl, ?_⟩)
        show wp_X9_setWeight V (nI e) a2 (fun r5 V6 => fin JJ o 3 r5 V6)
        unfold wp_X9_setWeight
        rw [forall_eq, f_isEdge (ST_r H1) he, mb_f (by decide), f_isB, bI_t hB, mb_f (by decide), nI_clamp (by omega), RG_p (ST_r H1) e he, bI_f hp, mb_t rfl, f_fails]
        exact ⟨nI_in (by omega) (by omega), fin_no (by rw [wr_eq, upd_eq]) (by decide) (JJ_sf H1 (SF_0 (by decide)))⟩
    · rw [bI_f hB, mb_t rfl]
      refine Or.inr (Or.inl ⟨rfl, ?_⟩)
      show wp_X9_setWeight V (nI e) a2 (fun r5 V6 => fin JJ o 2 r5 V6)
      unfold wp_X9_setWeight
      rw [forall_eq, f_isEdge (ST_r H1) he, mb_f (by decide), f_isB, bI_f hB, mb_t rfl, f_fails]
      exact fin_no (by rw [wr_eq, upd_eq]) (by decide) (JJ_sf H1 (SF_0 (by decide)))
  · show wp_X9_setWeight V a1 a2 (fun r5 V6 => fin JJ o 1 r5 V6)
    exact f_isE_bad H hb (fun V2 hs h0 => fin_no h0 (by decide) (JJ_sf H hs))
theorem j_5 (hJ : JJ V) : wpc_5 V o D a1 a2 a3 JJ := by
  obtain ⟨n, k, a, b, w, pr, F, gr, H⟩ := hJ
  have h20 := GV_n20 (ST_g H)
  have h0 : SF V (wr V 57 0 0) := SF_0 (by decide)
  have H1 := ST_sf H h0
  have gl : ∀ v, v < n → gr v < 20 := ST_s H
  unfold wpc_5 wp_L_addOnPath wp_X8_addOnPath
  refine s_requireVertices (ST_g H) (fun u v hu hv e1 e2 => ?_) (fun hb => Or.inl ⟨rfl, ?_⟩)
  · rw [e1, e2, e_bet]
    have g1 := gl u hu
    have g2 := gl v hv
    by_cases hB : isB a3 (-9) 9
    · rw [bI_t hB, mb_f (by decide)]
      refine s_plantHolding H hv hu (fun hc V1 hf HH cnt ord par dep pe lp R T hR => ?_) (fun hc V1 hs => Or.inr (Or.inr ⟨rfl, ?_⟩))
      · have hA := FV_ac (ST_f HH)
        refine s_addOnWay (ST_g HH) T hR (fun V2 hf2 h2 => ?_)
        have G2 : GV V2 n k a b w pr := GV_fr (ST_g HH) (hf2 1 (by decide)) (hf2 3 (by decide)) (hf2 4 (by decide)) (hf2 5 (by decide)) (hf2 6 (by decide))
        have I2 : FV V2 k a b w F := FV_fr2 (ST_f HH) (fun c hc => hf2 c (by omega))
        have R2 : RG (wr V2 57 0 0) n k a b w pr := RG_wr57 (RG_fr (ST_r HH) (by rw [hf2 57 (by decide)]) (by rw [hf2 57 (by decide)]) (hf2 59 (by decide)) (hf2 60 (by decide)) (hf2 61 (by decide)) (hf2 64 (by decide))) (by decide)
        rw [e_depthOf G2 hu, hf2 31 (by decide), TP_y (TV_tp T) u hR]
        show wp_X9_addOnPath V2 (nI u) (nI v) a3 (fun r5 V6 => fin JJ (vp_updL o 0 (nI (dep u) + 1).toInt64) 0 r5 V6)
        unfold wp_X9_addOnPath
        have l1 : (wr V2 57 0 0) 63 u = nI (gr u) := by rw [wr_ne _ _ _ (by decide), hf2 63 (by decide), ST_l HH u hu]
        have l2 : (wr V2 57 0 0) 63 v = nI (gr v) := by rw [wr_ne _ _ _ (by decide), hf2 63 (by decide), ST_l HH v hv]
        rw [forall_eq, f_isVertex R2 hu, mb_f (by decide), f_isVertex R2 hv, mb_f (by decide), f_isB, bI_t hB, mb_f (by decide), nI_clamp (by omega), nI_clamp (by omega), l1, l2, mb_t (by rw [(ST_lb H u v hu hv).mpr (cn_symm hc)])]
        refine ⟨nI_in (by omega) (by omega), nI_in (by omega) (by omega), ?_⟩
        refine f_roots R2 (F := F) (fun e he => by rw [wr_ne _ _ _ (by decide), hf2 65 (by decide), ST_i HH e he]) (FV_fk I2) hv (fun V3 hf3 cnt3 ord3 par3 dep3 pe3 R3 T3 => ?_)
        have T4 := RT_to hA (TV_rt T) T3
        have hn3 : V3 57 0 = 0 := by rw [RFr_g hf3 0 (by decide), w0]
        have key := f_addOnPath T4 h20 hR (x := a3) (y1 := nI u) (pp := fun r5 V6 => fin JJ (vp_updL o 0 (nI (dep u) + 1).toInt64) 0 r5 V6) (post := fun r5 V6 => fin JJ (vp_updL o 0 (nI (dep u) + 1).toInt64) 0 r5 V6) (fun V4 hf4 h58 => ⟨nI_in (by omega) (by omega), ?_⟩)
        · rw [show Int32.toNatClampNeg (nI u) = u from nI_clamp (by omega)] at key
          exact key
        · rw [nI_clamp (by omega), hf4 68 (by decide), RT_dep T4 hR]
          refine fin_ok (by rw [hf4 57 (by decide), hn3]) rfl ⟨n, k, a, b, w, pr, F, gr, ST_mk G2 I2 (ST_m H) (fun c hc => ?_) ?_ (fun x hx => ?_) (fun e he => ?_) (fun x hx => ?_) (ST_s H) (ST_lb H)⟩
          · rw [hf4 c (by omega), RFr_f hf3 c (by omega) (by omega), wr_ne _ _ _ (by omega)]
          · have R3' := RG_rf R2 hf3
            exact RG_fr R3' (by rw [hf4 57 (by decide)]) (by rw [hf4 57 (by decide)]) (hf4 59 (by decide)) (hf4 60 (by decide)) (hf4 61 (by decide)) (hf4 64 (by decide))
          · have e58 : V3 58 x = V1 2 x := by rw [RFr_f hf3 58 (by decide) (by decide), wr_ne _ _ _ (by decide), hf2 58 (by decide), ST_v HH x hx]
            rw [h58, h2]
            by_cases q : anc par dep x u
            · rw [ad_y (p := fun y => anc par dep y u) q, ad_y (p := fun y => anc par dep y u) q, e58]
            · rw [ad_n (p := fun y => anc par dep y u) q, ad_n (p := fun y => anc par dep y u) q, e58]
          · rw [hf4 65 (by decide), RFr_f hf3 65 (by decide) (by decide), wr_ne _ _ _ (by decide), hf2 65 (by decide), ST_i HH e he]
          · rw [hf4 63 (by decide), RFr_f hf3 63 (by decide) (by decide), wr_ne _ _ _ (by decide), hf2 63 (by decide), ST_l HH x hx]
      · have H2 := ST_sf H hs
        have H3 := ST_sf H2 (SF_0 (x := 0) (j := 0) (by decide))
        show wp_X9_addOnPath V1 (nI u) (nI v) a3 (fun r5 V6 => fin JJ o 3 r5 V6)
        unfold wp_X9_addOnPath
        rw [forall_eq, f_isVertex (ST_r H3) hu, mb_f (by decide), f_isVertex (ST_r H3) hv, mb_f (by decide), f_isB, bI_t hB, mb_f (by decide), nI_clamp (by omega), nI_clamp (by omega), ST_l H3 u hu, ST_l H3 v hv, mb_f (fun z => hc (cn_symm ((ST_lb H u v hu hv).mp ((nI_eq (by omega) (by omega)).mp z)))), f_fails]
        exact ⟨nI_in (by omega) (by omega), nI_in (by omega) (by omega), fin_no (by rw [wr_eq, upd_eq]) (by decide) (JJ_sf H3 (SF_0 (by decide)))⟩
    · rw [bI_f hB, mb_t rfl]
      refine Or.inr (Or.inl ⟨rfl, ?_⟩)
      show wp_X9_addOnPath V (nI u) (nI v) a3 (fun r5 V6 => fin JJ o 2 r5 V6)
      unfold wp_X9_addOnPath
      rw [forall_eq, f_isVertex (ST_r H1) hu, mb_f (by decide), f_isVertex (ST_r H1) hv, mb_f (by decide), f_isB, bI_f hB, mb_t rfl, f_fails]
      exact fin_no (by rw [wr_eq, upd_eq]) (by decide) (JJ_sf H1 (SF_0 (by decide)))
  · show wp_X9_addOnPath V a1 a2 a3 (fun r5 V6 => fin JJ o 1 r5 V6)
    exact f_isV_bad H hb (fun V2 hs h0 => fin_no h0 (by decide) (JJ_sf H hs))
theorem f_replacement (H : ST V n k a b w pr F gr) (he : e < k) (hF : F e) (hM2 : msf a b (ky w) (fun g => pr g ∧ g ≠ e) C0) (hmo : more C0 F x) (h : ¬ x = -1 → ∀ V', JJ V' → V' 57 0 = 0 → post x V') (h2 : x = -1 → ∀ V', JJ V' → V' 57 0 = 3 → post 0 V') : wp_X9_replacement V (nI e) post := by
  have h60 := GV_k60 (ST_g H)
  have h0 : SF V (wr V 57 0 0) := SF_0 (by decide)
  have H1 := ST_sf H h0
  have hn := more_neg h60 (fun g hg => GV_pk (ST_g H) g (hM2.1 g hg).1) hmo
  unfold wp_X9_replacement
  rw [forall_eq, f_isEdge (ST_r H1) he, mb_f (by decide), nI_clamp (by omega), ST_i H1 e he, bI_t hF, mb_f (by decide)]
  refine ⟨nI_in (by omega) (by omega), f_joining (ST_r H1) (ST_i H1) (ST_m H) hM2 he hmo (fun V3 gr3 hf3 hF3 hg3 hs3 hl3 => ?_)⟩
  have S3 : ST V3 n k a b w pr F gr3 := ST_mk (ST_g H1) (ST_f H1) (ST_m H) (fun c hc => hf3 c (by omega) (by omega) (by omega) (by omega)) (RG_62 (ST_r H1) hf3) (fun v hv => by rw [hf3 58 (by decide) (by decide) (by decide) (by decide), ST_v H1 v hv]) hF3 hg3 hs3 hl3
  by_cases q : x = -1
  · rw [mb_f (fun z => (hn.mp z) q), f_fails]
    exact h2 q _ (JJ_sf S3 (SF_0 (by decide))) (by rw [wr_eq, upd_eq])
  · rw [mb_t (hn.mpr q)]
    exact h q _ ⟨_, _, _, _, _, _, _, _, S3⟩ (by rw [hf3 57 (by decide) (by decide) (by decide) (by decide), w0])
theorem f_replacement_no (H : ST V n k a b w pr F gr) (he : e < k) (hF : ¬ F e) (h : ∀ V', JJ V' → V' 57 0 = 2 → post 0 V') : wp_X9_replacement V (nI e) post := by
  have h60 := GV_k60 (ST_g H)
  have h0 : SF V (wr V 57 0 0) := SF_0 (by decide)
  have H1 := ST_sf H h0
  unfold wp_X9_replacement
  rw [forall_eq, f_isEdge (ST_r H1) he, mb_f (by decide), nI_clamp (by omega), ST_i H1 e he, bI_f hF, mb_t rfl, f_fails]
  exact ⟨nI_in (by omega) (by omega), h _ (JJ_sf H1 (SF_0 (by decide))) (by rw [wr_eq, upd_eq])⟩
theorem j_21 (hJ : JJ V) : wpc_21 V o D a1 a2 a3 JJ := by
  obtain ⟨n, k, a, b, w, pr, F, gr, H⟩ := hJ
  have h60 := GV_k60 (ST_g H)
  unfold wpc_21 wp_L_replacement wp_X8_replacement
  refine s_requireEdge (ST_g H) (fun e he e1 => ?_) (fun hb => Or.inl ⟨rfl, ?_⟩)
  · rw [e1]
    unfold wp_X8_requireInForest
    rw [e_holds (ST_g H) (ST_f H) he]
    by_cases hF : F e
    · rw [bI_t hF, mb_f (by decide)]
      refine s_findReplacement (ST_g H) (ST_f H) hF (fun V1 x hf hl => ?_)
      have H1 := ST_sf H (SF_cl (fun c hc => hf c (by omega)))
      obtain ⟨C0, hM2, hmo⟩ := rep_C h60 (GV_pk (ST_g H)) (FV_ac (ST_f H)) (ST_m H) (fun z => absurd hF z) (fun _ => hl)
      unfold wp_X8_requireReplacement
      refine ⟨fun q => Or.inr (Or.inr ⟨rfl, ?_⟩), fun q => ?_⟩
      · show wp_X9_replacement V1 (nI e) (fun r5 V6 => fin JJ o 3 r5 V6)
        exact f_replacement H1 he hF hM2 hmo (fun z => absurd q z) (fun _ V' hJ h0 => fin_no h0 (by decide) hJ)
      · show wp_X9_replacement V1 (nI e) (fun r5 V6 => fin JJ (vp_updL o 0 x.toInt64) 0 r5 V6)
        exact f_replacement H1 he hF hM2 hmo (fun _ V' hJ h0 => fin_ok h0 rfl hJ) (fun z => absurd z q)
    · rw [bI_f hF, mb_t rfl]
      refine Or.inr (Or.inl ⟨rfl, ?_⟩)
      show wp_X9_replacement V (nI e) (fun r5 V6 => fin JJ o 2 r5 V6)
      exact f_replacement_no H he hF (fun V' hJ h0 => fin_no h0 (by decide) hJ)
  · show wp_X9_replacement V a1 (fun r5 V6 => fin JJ o 1 r5 V6)
    exact f_isE_bad H hb (fun V2 hs h0 => fin_no h0 (by decide) (JJ_sf H hs))
theorem j_22 (hJ : JJ V) : wpc_22 V o D a1 a2 a3 JJ := by
  obtain ⟨n, k, a, b, w, pr, F, gr, H⟩ := hJ
  have h60 := GV_k60 (ST_g H)
  unfold wpc_22 wp_L_replacementAnew wp_X8_replacementAnew wp_X9_replacementAnew
  refine s_requireEdge (ST_g H) (fun e he e1 => ?_) (fun hb => Or.inl ⟨rfl, ?_⟩)
  · rw [e1]
    unfold wp_X8_requireInForest
    rw [e_holds (ST_g H) (ST_f H) he]
    by_cases hF : F e
    · rw [bI_t hF, mb_f (by decide)]
      refine s_build1 (ST_g H) (fun V1 C hf hc hs hd => ?_)
      have H1 := ST_sf H (SF_cl (fun c hc => hf c (by omega)))
      have hp : (fun g => pr g ∧ nI g ≠ nI e) = (fun g => pr g ∧ g ≠ e) := funext fun g => propext ⟨fun q => ⟨q.1, fun z => q.2 (by rw [z])⟩, fun q => ⟨q.1, fun z => q.2 (by have := GV_pk (ST_g H) g q.1; exact (nI_eq (by omega) (by omega)).mp z)⟩⟩
      rw [hp] at hd
      have hCk : ∀ g, C g → g < k := fun g hg => GV_pk (ST_g H) g (hd.1 g hg).1
      refine s_firstChosen (ST_g H1) (ST_f H1) hc hCk (fun x hl => ?_)
      -- the forest without e, and what it has more
      have hex : ∃ y, least (rv a b pr F e) (ky w) k y := by
        have : ∀ i, ∃ y, least (rv a b pr F e) (ky w) i y := fun i => by
          induction i with
          | zero => exact ⟨-1, least_0 _ _⟩
          | succ i ih =>
            obtain ⟨y, hy⟩ := ih
            by_cases q : rv a b pr F e i
            · rcases hy with ⟨y1, y2⟩ | ⟨m, m1, m2, m3, m4⟩
              · exact ⟨nI i, Or.inr ⟨i, by omega, q, rfl, fun g hg z => (lt_or_eq1 hg).elim (fun t => absurd z (y2 g t)) (fun t => by rw [t]; exact Nat.le_refl _)⟩⟩
              · by_cases hK : ky w i < ky w m
                · exact ⟨nI i, Or.inr ⟨i, by omega, q, rfl, fun g hg z => (lt_or_eq1 hg).elim (fun t => by have := m4 g t z; omega) (fun t => by rw [t]; exact Nat.le_refl _)⟩⟩
                · exact ⟨y, Or.inr ⟨m, by omega, m2, m3, fun g hg z => (lt_or_eq1 hg).elim (fun t => m4 g t z) (fun t => by rw [t]; omega)⟩⟩
            · exact ⟨y, least_skip hy q⟩
        exact this k
      obtain ⟨y, hy⟩ := hex
      obtain ⟨C0, hM2, hmo⟩ := rep_C h60 (GV_pk (ST_g H)) (FV_ac (ST_f H)) (ST_m H) (fun z => absurd hF z) (fun _ => hy)
      have hC : C = C0 := funext fun g => propext (dcp_uni hd (msf_doc hM2) g)
      subst hC
      have hmo : more C F x := by
        rcases hl with ⟨l1, l2⟩ | ⟨m, l1, l2, l3, l4⟩
        · exact Or.inl ⟨l1, fun g hg => Classical.byContradiction fun z => l2 g (by have := hCk g hg; omega) ⟨hg, z⟩⟩
        · refine Or.inr ⟨m, l2.1, l2.2, l3, fun g hg hn => ?_⟩
          rcases hmo with ⟨x1, x2⟩ | ⟨m', x1, x2, x3, x4⟩
          · exact absurd (x2 g hg) hn
          · rw [x4 g hg hn, x4 m l2.1 l2.2]
      unfold wp_X8_requireReplacement
      refine ⟨fun q => Or.inr (Or.inr ⟨rfl, ?_⟩), fun q => ?_⟩
      · show wp_X9_replacement V1 (nI e) (fun r5 V6 => fin JJ o 3 r5 V6)
        exact f_replacement H1 he hF hM2 hmo (fun z => absurd q z) (fun _ V' hJ h0 => fin_no h0 (by decide) hJ)
      · show wp_X9_replacement V1 (nI e) (fun r5 V6 => fin JJ (vp_updL o 0 x.toInt64) 0 r5 V6)
        exact f_replacement H1 he hF hM2 hmo (fun _ V' hJ h0 => fin_ok h0 rfl hJ) (fun z => absurd z q)
    · rw [bI_f hF, mb_t rfl]
      refine Or.inr (Or.inl ⟨rfl, ?_⟩)
      show wp_X9_replacement V (nI e) (fun r5 V6 => fin JJ o 2 r5 V6)
      exact f_replacement_no H he hF (fun V' hJ h0 => fin_no h0 (by decide) hJ)
  · show wp_X9_replacement V a1 (fun r5 V6 => fin JJ o 1 r5 V6)
    exact f_isE_bad H hb (fun V2 hs h0 => fin_no h0 (by decide) (JJ_sf H hs))
end CASES5
