section CASES4
variable {n k : Nat} {a b w a' b' w' K K' : Nat → Nat} {pr F C0 S : Nat → Prop} {gr : Nat → Nat} {V V' V0 V1 V2 : Mm} {post : Int32 → Mm → Prop} {pp : Int32 → Mm → Prop} {pos : Mm → Prop} {u v e r cnt d : Nat} {x y z : Int32} {o : Nat → Int64} {D : Nat → UInt64} {a1 a2 a3 : Int32} {J : Mm → Prop}
theorem cn_ab (h : ∀ e, S e → a' e = a e ∧ b' e = b e) (q : cn a b S u v) : cn a' b' S u v := fun P hu hS => q P hu (fun e he => by have := hS e he; rwa [(h e he).1, (h e he).2] at this)
theorem msf_ab (h : ∀ e, pr e → a' e = a e ∧ b' e = b e ∧ K' e = K e) (hM : msf a b K pr F) : msf a' b' K' pr F := by
  have hr : ∀ e, pr e → a e = a' e ∧ b e = b' e := fun e he => ⟨(h e he).1.symm, (h e he).2.1.symm⟩
  refine ⟨hM.1, fun e he q => hM.2.1 e he ?_, fun e he hn => ?_⟩
  · rw [(h e (hM.1 e he)).1, (h e (hM.1 e he)).2.1] at q
    exact cn_ab (fun g hg => hr g (hM.1 g hg.1)) q
  · rw [(h e he).1, (h e he).2.1]
    refine cn_ab (a := a) (b := b) (fun g hg => ⟨(h g (hM.1 g hg.1)).1, (h g (hM.1 g hg.1)).2.1⟩) (cn_mono (fun g hg => ⟨hg.1, ?_⟩) (hM.2.2 e he hn))
    rw [(h g (hM.1 g hg.1)).2.2, (h e he).2.2]; exact hg.2
theorem f_finds (H : RG V n k a b w pr) (hM : msf a b (ky w) pr F) (h : ∀ (V' : Mm) gr, (∀ c, c ≠ 62 → c ≠ 63 → c ≠ 65 → V' c = V c) → (∀ e, e < k → V' 65 e = bI (F e)) → (∀ v, v < n → V' 63 v = nI (gr v)) → (∀ v, v < n → gr v < 20) → LB n a b gr F → pos V') : wp_X9_finds_ V pos := by
  unfold wp_X9_finds_
  refine f_finds_65 H (fun V' gr C hf hc hg hs hl hd => ?_)
  have hp : (fun g => pr g ∧ nI g ≠ -1) = pr := funext fun g => propext ⟨fun q => q.1, fun q => ⟨q, fun z => (nI_neg (by have := RG_pk H g q; have := RG_k60 H; omega)).mp z⟩⟩
  rw [hp] at hd
  have hCF : C = F := funext fun e => propext (dcp_uni hd (msf_doc hM) e)
  subst hCF
  exact h V' gr hf hc hg hs hl
theorem RG_62 (H : RG V n k a b w pr) (hf : ∀ c, c ≠ 62 → c ≠ 63 → c ≠ 65 → c ≠ 66 → V' c = V c) : RG V' n k a b w pr := RG_fr H (by rw [hf 57 (by decide) (by decide) (by decide) (by decide)]) (by rw [hf 57 (by decide) (by decide) (by decide) (by decide)]) (hf 59 (by decide) (by decide) (by decide) (by decide)) (hf 60 (by decide) (by decide) (by decide) (by decide)) (hf 61 (by decide) (by decide) (by decide) (by decide)) (hf 64 (by decide) (by decide) (by decide) (by decide))
/-- a state after a change: the class's cells lie low, the reference's high -/
theorem ST_mk (G : GV V1 n k a b w pr) (I : FV V1 k a b w F) (hM : msf a b (ky w) pr F) (hlo : ∀ c, c < 29 → V2 c = V1 c) (R : RG V2 n k a b w pr) (hv : ∀ v, v < n → V2 58 v = V1 2 v) (hF : ∀ e, e < k → V2 65 e = bI (F e)) (hg : ∀ v, v < n → V2 63 v = nI (gr v)) (hs : ∀ v, v < n → gr v < 20) (hl : LB n a b gr F) : ST V2 n k a b w pr F gr :=
  ⟨GV_fr G (hlo 1 (by decide)) (hlo 3 (by decide)) (hlo 4 (by decide)) (hlo 5 (by decide)) (hlo 6 (by decide)), R, FV_fr2 I (fun c hc => hlo c (by omega)), hM, by rw [hlo 2 (by decide)]; exact hv, hF, hg, hs, hl⟩
theorem j_1 (hJ : JJ V) : wpc_1 V o D a1 a2 a3 JJ := by
  obtain ⟨n, k, a, b, w, pr, F, gr, H⟩ := hJ
  have h20 := GV_n20 (ST_g H)
  have h0 : SF V (wr V 57 0 0) := SF_0 (by decide)
  have H1 := ST_sf H h0
  unfold wpc_1 wp_L_setValue wp_X8_setValue
  refine s_requireVertex (ST_g H) (fun u hu e1 => ?_) (fun hb => Or.inl ⟨rfl, ?_⟩)
  · rw [e1]
    unfold wp_X8_requireValue
    rw [e_bet]
    by_cases hB : isB a2 (-99) 99
    · rw [bI_t hB, mb_f (by decide)]
      show wp_X3_valueOf V (nI u) _
      rw [e_valueOf (ST_g H) hu, e_putValue (ST_g H) hu]
      show wp_X9_setValue (wr V 2 u a2) (nI u) a2 (fun r5 V6 => fin JJ (vp_updL o 0 (V 2 u).toInt64) 0 r5 V6)
      have G2 : GV (wr V 2 u a2) n k a b w pr := GV_wr (ST_g H) (by decide)
      have R2 : RG (wr (wr V 2 u a2) 57 0 0) n k a b w pr := RG_wr57 (RG_wr (ST_r H) (by decide)) (by decide)
      unfold wp_X9_setValue
      rw [forall_eq, f_isVertex R2 hu, mb_f (by decide), f_isB, bI_t hB, mb_f (by decide), nI_clamp (by omega), forall_eq]
      refine ⟨nI_in (by omega) (by omega), nI_in (by omega) (by omega), fin_ok ?_ ?_ ⟨n, k, a, b, w, pr, F, gr, ST_mk G2 (FV_wr (ST_f H) (by decide)) (ST_m H) (fun c hc => ?_) (RG_wr R2 (by decide)) (fun v hv => ?_) (fun e he => ?_) (fun v hv => ?_) (ST_s H) (ST_lb H)⟩⟩
      · rw [wr_ne _ _ _ (by decide), w0]
      · rw [wr_ne _ _ _ (by decide), wr_ne _ _ _ (by decide), ST_v H u hu]
      · rw [wr_ne _ _ _ (by omega), wr_ne _ _ _ (by omega)]
      · rw [wr_eq, wr_eq, upd_at, upd_at, wr_ne _ _ _ (by decide), wr_ne _ _ _ (by decide)]
        by_cases q : v = u
        · rw [if_pos q, if_pos q]
        · rw [if_neg q, if_neg q, ST_v H v hv]
      · rw [wr_ne _ _ _ (by decide), wr_ne _ _ _ (by decide), wr_ne _ _ _ (by decide), ST_i H e he]
      · rw [wr_ne _ _ _ (by decide), wr_ne _ _ _ (by decide), wr_ne _ _ _ (by decide), ST_l H v hv]
    · rw [bI_f hB, mb_t rfl]
      refine Or.inr ⟨rfl, ?_⟩
      show wp_X9_setValue V (nI u) a2 (fun r5 V6 => fin JJ o 2 r5 V6)
      unfold wp_X9_setValue
      rw [forall_eq, f_isVertex (ST_r H1) hu, mb_f (by decide), f_isB, bI_f hB, mb_t rfl, f_fails]
      exact fin_no (by rw [wr_eq, upd_eq]) (by decide) (JJ_sf H1 (SF_0 (by decide)))
  · show wp_X9_setValue V a1 a2 (fun r5 V6 => fin JJ o 1 r5 V6)
    exact f_isV1_bad H hb (fun V2 hs h0 => fin_no h0 (by decide) (JJ_sf H hs))
theorem ne20 (hn : n < 20) : ¬ nI n = 20 := fun z => absurd ((nI_eq (b := 20) (by omega) (by decide)).mp z) (by omega)
theorem ne60 (hn : n < 60) : ¬ nI n = 60 := fun z => absurd ((nI_eq (b := 60) (by omega) (by decide)).mp z) (by omega)
theorem GV_addV (H : GV V n k a b w pr) (hn : n < 20) : GV (wr (wr V 2 n x) 1 5 (nI (n + 1))) (n + 1) k a b w pr :=
  ⟨hn, GV_k60 H, by rw [wr_eq, upd_eq], by rw [wr_eq, upd_ne _ _ (by decide), wr_ne _ _ _ (by decide)]; exact GV_k H, (show ∀ e, e < k → V 3 e = nI (a e) from GV_a H), (show ∀ e, e < k → V 4 e = nI (b e) from GV_b H), (show ∀ e, e < k → V 5 e = nI (w e) from GV_w H), (show ∀ e, e < k → V 6 e = bI (pr e) from GV_p H), fun e he => Nat.lt_succ_of_lt (GV_an H e he), fun e he => Nat.lt_succ_of_lt (GV_bn H e he), GV_ab H, GV_w1 H, GV_pk H⟩
theorem RG_addV (H : RG V n k a b w pr) (hn : n < 20) : RG (wr (wr V 58 n x) 57 9 (nI (n + 1))) (n + 1) k a b w pr :=
  ⟨hn, RG_k60 H, by rw [wr_eq, upd_eq], by rw [wr_eq, upd_ne _ _ (by decide), wr_ne _ _ _ (by decide)]; exact RG_k H, (show ∀ e, e < k → V 59 e = nI (a e) from RG_a H), (show ∀ e, e < k → V 60 e = nI (b e) from RG_b H), (show ∀ e, e < k → V 61 e = nI (w e) from RG_w H), (show ∀ e, e < k → V 64 e = bI (pr e) from RG_p H), fun e he => Nat.lt_succ_of_lt (RG_an H e he), fun e he => Nat.lt_succ_of_lt (RG_bn H e he), RG_ab H, RG_w1 H, RG_pk H⟩
theorem j_0 (hJ : JJ V) : wpc_0 V o D a1 a2 a3 JJ := by
  obtain ⟨n, k, a, b, w, pr, F, gr, H⟩ := hJ
  have h20 := GV_n20 (ST_g H)
  have h0 : SF V (wr V 57 0 0) := SF_0 (by decide)
  have H1 := ST_sf H h0
  unfold wpc_0 wp_L_addVertex wp_X8_addVertex wp_X8_requireValue
  rw [e_bet]
  by_cases hB : isB a1 (-99) 99
  · rw [bI_t hB, mb_f (by decide)]
    unfold wp_X3_vertexCount
    by_cases hn : n < 20
    · refine ⟨fun _ => ?_, fun q => absurd (by rw [GV_n (ST_g H)]; exact (nI_lt20 (by omega)).mpr hn) q⟩
      rw [e_appendVertex (ST_g H) hn]
      show wp_X9_addVertex (wr (wr V 2 n a1) 1 5 (nI (n + 1))) a1 (fun r5 V6 => fin JJ (vp_updL o 0 (nI n).toInt64) 0 r5 V6)
      have G2 := GV_addV (x := a1) (ST_g H) hn
      have I2 : FV (wr (wr V 2 n a1) 1 5 (nI (n + 1))) k a b w F := FV_wr (FV_wr (ST_f H) (by decide)) (by decide)
      have hlo : ∀ c, c < 29 → (wr (wr V 2 n a1) 1 5 (nI (n + 1))) c = (wr (wr V 2 n a1) 1 5 (nI (n + 1))) c := fun _ _ => rfl
      have R0 : RG (wr (wr V 2 n a1) 1 5 (nI (n + 1))) n k a b w pr := RG_wr (RG_wr (ST_r H) (by decide)) (by decide)
      have f58 : (wr (wr V 2 n a1) 1 5 (nI (n + 1))) 58 = V 58 := rfl
      have f2 : (wr (wr V 2 n a1) 1 5 (nI (n + 1))) 2 = upd (V 2) n a1 := rfl
      generalize wr (wr V 2 n a1) 1 5 (nI (n + 1)) = W at *
      have R1 : RG (wr W 57 0 0) n k a b w pr := RG_wr57 R0 (by decide)
      unfold wp_X9_addVertex
      rw [forall_eq, f_isB, bI_t hB, mb_f (by decide), RG_n R1, mb_f (ne20 hn), nI_clamp (by omega), forall_eq, wr_ne _ _ _ (show 57 ≠ 58 by decide), RG_n R1, nI_1]
      refine ⟨nI_in (by omega) (by omega), ?_⟩
      rw [forall_eq]
      refine f_finds (RG_addV (x := a1) R1 hn) (ST_m H) (fun V3 gr3 hf hF hg hs hl => ?_)
      rw [hf 57 (by decide) (by decide) (by decide), wr_eq, upd_eq, nI_pred]
      refine fin_ok ?_ rfl ⟨n + 1, k, a, b, w, pr, F, gr3, ST_mk G2 I2 (ST_m H) (fun c hc => ?_) (RG_62 (RG_addV (x := a1) R1 hn) (fun c h1 h2 h3 _ => hf c h1 h2 h3)) (fun v hv => ?_) hF hg hs hl⟩
      · rw [hf 57 (by decide) (by decide) (by decide), wr_eq, upd_ne _ _ (by decide), wr_ne _ _ _ (by decide), w0]
      · rw [hf c (by omega) (by omega) (by omega), wr_ne _ _ _ (by omega), wr_ne _ _ _ (by omega), wr_ne _ _ _ (by omega)]
      · rw [hf 58 (by decide) (by decide) (by decide), wr_ne _ _ _ (by decide), wr_eq, upd_at, wr_ne _ _ _ (by decide), f58, f2, upd_at]
        by_cases q : v = n
        · rw [if_pos q, if_pos q]
        · rw [if_neg q, if_neg q, ST_v H v (by omega)]
    · have hn20 : n = 20 := by omega
      refine ⟨fun q => absurd ((nI_lt20 (by omega)).mp (by rw [← GV_n (ST_g H)]; exact q)) hn, fun _ => Or.inr ⟨rfl, ?_⟩⟩
      show wp_X9_addVertex V a1 (fun r5 V6 => fin JJ o 2 r5 V6)
      unfold wp_X9_addVertex
      rw [forall_eq, f_isB, bI_t hB, mb_f (by decide), RG_n (ST_r H1), mb_t (by rw [hn20]; rfl), f_fails]
      exact fin_no (by rw [wr_eq, upd_eq]) (by decide) (JJ_sf H1 (SF_0 (by decide)))
  · rw [bI_f hB, mb_t rfl]
    refine Or.inl ⟨rfl, ?_⟩
    show wp_X9_addVertex V a1 (fun r5 V6 => fin JJ o 1 r5 V6)
    unfold wp_X9_addVertex
    rw [forall_eq, f_isB, bI_f hB, mb_t rfl, f_fails]
    exact fin_no (by rw [wr_eq, upd_eq]) (by decide) (JJ_sf H1 (SF_0 (by decide)))
def at' (f : Nat → Nat) (k x : Nat) : Nat → Nat := fun e => if e = k then x else f e
theorem at_eq : at' a k u k = u := if_pos rfl
theorem at_ne (h : e ≠ k) : at' a k u e = a e := if_neg h
theorem GV_addE (H : GV V n k a b w pr) (hk : k < 60) (hu : u < n) (hv : v < n) (huv : u ≠ v) (hd : 1 ≤ d ∧ d ≤ 99) : GV (wr (wr (wr (wr (wr V 3 k (nI u)) 4 k (nI v)) 5 k (nI d)) 6 k 1) 1 6 (nI (k + 1))) n (k + 1) (at' a k u) (at' b k v) (at' w k d) (fun g => pr g ∨ g = k) := by
  refine ⟨GV_n20 H, hk, (show V 1 5 = nI n from GV_n H), by rw [wr_eq, upd_eq], fun e he => ?_, fun e he => ?_, fun e he => ?_, fun e he => ?_, fun e he => ?_, fun e he => ?_, fun e he => ?_, fun e he => ?_, fun e he => he.elim (fun z => Nat.lt_succ_of_lt (GV_pk H e z)) (fun z => by omega)⟩
  · show upd (V 3) k (nI u) e = _
    rw [upd_at]
    by_cases q : e = k
    · rw [if_pos q, q, at_eq]
    · rw [if_neg q, at_ne q]; exact GV_a H e (by omega)
  · show upd (V 4) k (nI v) e = _
    rw [upd_at]
    by_cases q : e = k
    · rw [if_pos q, q, at_eq]
    · rw [if_neg q, at_ne q]; exact GV_b H e (by omega)
  · show upd (V 5) k (nI d) e = _
    rw [upd_at]
    by_cases q : e = k
    · rw [if_pos q, q, at_eq]
    · rw [if_neg q, at_ne q]; exact GV_w H e (by omega)
  · show upd (V 6) k 1 e = _
    rw [upd_at]
    by_cases q : e = k
    · rw [if_pos q, bI_t (Or.inr q)]
    · rw [if_neg q, GV_p H e (by omega)]; exact bI_congr ⟨Or.inl, fun z => z.elim id (fun z => absurd z q)⟩
  · by_cases q : e = k
    · rw [q, at_eq]; exact hu
    · rw [at_ne q]; exact GV_an H e (by omega)
  · by_cases q : e = k
    · rw [q, at_eq]; exact hv
    · rw [at_ne q]; exact GV_bn H e (by omega)
  · by_cases q : e = k
    · rw [q, at_eq, at_eq]; exact huv
    · rw [at_ne q, at_ne q]; exact GV_ab H e (by omega)
  · by_cases q : e = k
    · rw [q, at_eq]; exact hd
    · rw [at_ne q]; exact GV_w1 H e (by omega)
theorem RG_addE (H : RG V n k a b w pr) (hk : k < 60) (hu : u < n) (hv : v < n) (huv : u ≠ v) (hd : 1 ≤ d ∧ d ≤ 99) : RG (wr (wr (wr (wr (wr V 59 k (nI u)) 60 k (nI v)) 61 k (nI d)) 64 k 1) 57 10 (nI (k + 1))) n (k + 1) (at' a k u) (at' b k v) (at' w k d) (fun g => pr g ∨ g = k) := by
  refine ⟨RG_n20 H, hk, (show V 57 9 = nI n from RG_n H), by rw [wr_eq, upd_eq], fun e he => ?_, fun e he => ?_, fun e he => ?_, fun e he => ?_, fun e he => ?_, fun e he => ?_, fun e he => ?_, fun e he => ?_, fun e he => he.elim (fun z => Nat.lt_succ_of_lt (RG_pk H e z)) (fun z => by omega)⟩
  · show upd (V 59) k (nI u) e = _
    rw [upd_at]
    by_cases q : e = k
    · rw [if_pos q, q, at_eq]
    · rw [if_neg q, at_ne q]; exact RG_a H e (by omega)
  · show upd (V 60) k (nI v) e = _
    rw [upd_at]
    by_cases q : e = k
    · rw [if_pos q, q, at_eq]
    · rw [if_neg q, at_ne q]; exact RG_b H e (by omega)
  · show upd (V 61) k (nI d) e = _
    rw [upd_at]
    by_cases q : e = k
    · rw [if_pos q, q, at_eq]
    · rw [if_neg q, at_ne q]; exact RG_w H e (by omega)
  · show upd (V 64) k 1 e = _
    rw [upd_at]
    by_cases q : e = k
    · rw [if_pos q, bI_t (Or.inr q)]
    · rw [if_neg q, RG_p H e (by omega)]; exact bI_congr ⟨Or.inl, fun z => z.elim id (fun z => absurd z q)⟩
  · by_cases q : e = k
    · rw [q, at_eq]; exact hu
    · rw [at_ne q]; exact RG_an H e (by omega)
  · by_cases q : e = k
    · rw [q, at_eq]; exact hv
    · rw [at_ne q]; exact RG_bn H e (by omega)
  · by_cases q : e = k
    · rw [q, at_eq, at_eq]; exact huv
    · rw [at_ne q, at_ne q]; exact RG_ab H e (by omega)
  · by_cases q : e = k
    · rw [q, at_eq]; exact hd
    · rw [at_ne q]; exact RG_w1 H e (by omega)
theorem jn_at (h : e ≠ k) {s t : Nat} : jn (at' a k u) (at' b k v) e s t ↔ jn a b e s t := by
  unfold jn; rw [at_ne h, at_ne h]
theorem FV_addE (I : FV V k a b w F) : FV V (k + 1) (at' a k u) (at' b k v) (at' w k d) F := by
  have hne : ∀ e, F e → e ≠ k := fun e he q => by have := FV_fk I e he; omega
  have hk : ¬ F k := fun q => hne k q rfl
  refine ⟨fun s t hs ht => ?_, ?_, ?_, fun e he => Nat.lt_succ_of_lt (FV_fk I e he), fun e he q => FV_ac I e he ?_⟩
  · rcases FV_row I s t hs ht with ⟨e, h1, h2, h3⟩ | ⟨h1, h2⟩
    · exact Or.inl ⟨e, h1, (jn_at (hne e h1)).mpr h2, h3⟩
    · exact Or.inr ⟨fun e he q => h1 e he ((jn_at (hne e he)).mp q), h2⟩
  · rw [FV_ws I, cs_n hk]
    exact congrArg nI (cs_congr (fun _ _ => Iff.rfl) (fun i hi _ => (at_ne (by omega)).symm))
  · rw [FV_es I, ct_n hk]
  · rw [at_ne (hne e he), at_ne (hne e he)] at q
    exact cn_ab (fun g hg => ⟨(at_ne (hne g hg.1)).symm, (at_ne (hne g hg.1)).symm⟩) q
theorem j_2 (hJ : JJ V) : wpc_2 V o D a1 a2 a3 JJ := by
  obtain ⟨n, k, a, b, w, pr, F, gr, H⟩ := hJ
  have h20 := GV_n20 (ST_g H)
  have h60 := GV_k60 (ST_g H)
  have h0 : SF V (wr V 57 0 0) := SF_0 (by decide)
  have H1 := ST_sf H h0
  unfold wpc_2 wp_L_addEdge wp_X8_addEdge
  refine s_requireVertices (ST_g H) (fun u v hu hv e1 e2 => ?_) (fun hb => Or.inl ⟨rfl, ?_⟩)
  · rw [e1, e2]
    unfold wp_X8_requireWeight
    rw [e_bet]
    by_cases hB : isB a3 1 99
    · rw [bI_t hB, mb_f (by decide)]
      unfold wp_X8_requireDifferent
      refine ⟨fun q => Or.inr (Or.inr (Or.inl ⟨rfl, ?_⟩)), fun q => ?_⟩
      · show wp_X9_addEdge V (nI u) (nI v) a3 (fun r5 V6 => fin JJ o 3 r5 V6)
        unfold wp_X9_addEdge
        rw [forall_eq, f_isVertex (ST_r H1) hu, mb_f (by decide), f_isVertex (ST_r H1) hv, mb_f (by decide), f_isB, bI_t hB, mb_f (by decide), mb_t q, f_fails]
        exact fin_no (by rw [wr_eq, upd_eq]) (by decide) (JJ_sf H1 (SF_0 (by decide)))
      · have huv : u ≠ v := fun z => q (by rw [z])
        unfold wp_X3_edgeCount
        by_cases hk : k < 60
        · refine ⟨fun _ => ?_, fun z => absurd (by rw [GV_k (ST_g H)]; exact (nI_lt60 (by omega)).mpr hk) z⟩
          rw [e_appendEdge (ST_g H) hk]
          obtain ⟨d, hd1, hd2, e3⟩ := isB_w hB
          rw [e3]
          have G2 := GV_addE (ST_g H) hk hu hv huv ⟨hd1, hd2⟩
          have I2 : FV (wr (wr (wr (wr (wr V 3 k (nI u)) 4 k (nI v)) 5 k (nI d)) 6 k 1) 1 6 (nI (k + 1))) (k + 1) (at' a k u) (at' b k v) (at' w k d) F := FV_addE (FV_wr (FV_wr (FV_wr (FV_wr (FV_wr (ST_f H) (by decide)) (by decide)) (by decide)) (by decide)) (by decide))
          have hlo : ∀ c, 6 < c → (wr (wr (wr (wr (wr V 3 k (nI u)) 4 k (nI v)) 5 k (nI d)) 6 k 1) 1 6 (nI (k + 1))) c = V c := fun c hc => by rw [wr_ne _ _ _ (by omega), wr_ne _ _ _ (by omega), wr_ne _ _ _ (by omega), wr_ne _ _ _ (by omega), wr_ne _ _ _ (by omega)]
          have h2 : (wr (wr (wr (wr (wr V 3 k (nI u)) 4 k (nI v)) 5 k (nI d)) 6 k 1) 1 6 (nI (k + 1))) 2 = V 2 := rfl
          generalize wr (wr (wr (wr (wr V 3 k (nI u)) 4 k (nI v)) 5 k (nI d)) 6 k 1) 1 6 (nI (k + 1)) = W at *
          have hM0 : msf (at' a k u) (at' b k v) (ky (at' w k d)) pr F := msf_ab (fun e he => by
            have hne : e ≠ k := fun q => by have := GV_pk (ST_g H) e he; omega
            exact ⟨at_ne hne, at_ne hne, by unfold ky; rw [at_ne hne]⟩) (ST_m H)
          have hFk : ¬ F k := fun q => by have := FV_fk (ST_f H) k q; omega
          refine s_admit G2 I2 (Nat.lt_succ_self k) hFk hM0 (fun g => Iff.rfl) (fun W2 F2 hf2 I3 hM3 => ?_)
          have G3 : GV W2 n (k + 1) (at' a k u) (at' b k v) (at' w k d) (fun g => pr g ∨ g = k) := GV_fr G2 (hf2 1 (by omega)) (hf2 3 (by omega)) (hf2 4 (by omega)) (hf2 5 (by omega)) (hf2 6 (by omega))
          have R0 : RG W2 n k a b w pr := RG_fr (ST_r H) (by rw [hf2 57 (by omega), hlo 57 (by decide)]) (by rw [hf2 57 (by omega), hlo 57 (by decide)]) (by rw [hf2 59 (by omega), hlo 59 (by decide)]) (by rw [hf2 60 (by omega), hlo 60 (by decide)]) (by rw [hf2 61 (by omega), hlo 61 (by decide)]) (by rw [hf2 64 (by omega), hlo 64 (by decide)])
          have f58 : W2 58 = V 58 := by rw [hf2 58 (by omega), hlo 58 (by decide)]
          have f2 : W2 2 = V 2 := by rw [hf2 2 (by omega), h2]
          show wp_X9_addEdge W2 (nI u) (nI v) (nI d) (fun r5 V6 => fin JJ (vp_updL o 0 (nI k).toInt64) 0 r5 V6)
          have R1 : RG (wr W2 57 0 0) n k a b w pr := RG_wr57 R0 (by decide)
          rw [e3] at hB
          unfold wp_X9_addEdge
          rw [forall_eq, f_isVertex R1 hu, mb_f (by decide), f_isVertex R1 hv, mb_f (by decide), f_isB, bI_t hB, mb_f (by decide), mb_f q, RG_k R1, mb_f (ne60 hk), nI_clamp (by omega), forall_eq, wr_ne _ _ _ (show 57 ≠ 59 by decide), RG_k R1, nI_clamp (by omega), forall_eq, wr_ne _ _ _ (show 57 ≠ 60 by decide), wr_ne _ _ _ (show 57 ≠ 59 by decide), RG_k R1, nI_clamp (by omega), forall_eq, wr_ne _ _ _ (show 57 ≠ 61 by decide), wr_ne _ _ _ (show 57 ≠ 60 by decide), wr_ne _ _ _ (show 57 ≠ 59 by decide), RG_k R1, nI_clamp (by omega), forall_eq, wr_ne _ _ _ (show 57 ≠ 64 by decide), wr_ne _ _ _ (show 57 ≠ 61 by decide), wr_ne _ _ _ (show 57 ≠ 60 by decide), wr_ne _ _ _ (show 57 ≠ 59 by decide), RG_k R1, nI_1, forall_eq]
          refine ⟨nI_in (by omega) (by omega), nI_in (by omega) (by omega), nI_in (by omega) (by omega), nI_in (by omega) (by omega), ?_⟩
          have R4 := RG_addE R1 hk hu hv huv ⟨hd1, hd2⟩
          refine f_finds R4 hM3 (fun V3 gr3 hf hF hg hs hl => ?_)
          rw [hf 57 (by decide) (by decide) (by decide), wr_eq, upd_eq, nI_pred]
          refine fin_ok ?_ rfl ⟨n, k + 1, _, _, _, _, F2, gr3, ST_mk G3 I3 hM3 (fun c hc => ?_) (RG_62 R4 (fun c h1 h2 h3 _ => hf c h1 h2 h3)) (fun v hv => ?_) hF hg hs hl⟩
          · rw [hf 57 (by decide) (by decide) (by decide), wr_eq, upd_ne _ _ (by decide), wr_ne _ _ _ (by decide), wr_ne _ _ _ (by decide), wr_ne _ _ _ (by decide), wr_ne _ _ _ (by decide), w0]
          · rw [hf c (by omega) (by omega) (by omega), wr_ne _ _ _ (by omega), wr_ne _ _ _ (by omega), wr_ne _ _ _ (by omega), wr_ne _ _ _ (by omega), wr_ne _ _ _ (by omega), wr_ne _ _ _ (by omega)]
          · rw [hf 58 (by decide) (by decide) (by decide), wr_ne _ _ _ (by decide), wr_ne _ _ _ (by decide), wr_ne _ _ _ (by decide), wr_ne _ _ _ (by decide), wr_ne _ _ _ (by decide), wr_ne _ _ _ (by decide), f58, f2, ST_v H v hv]
        · have hk60 : k = 60 := by omega
          refine ⟨fun z => absurd ((nI_lt60 (by omega)).mp (by rw [← GV_k (ST_g H)]; exact z)) hk, fun _ => Or.inr (Or.inr (Or.inr ⟨rfl, ?_⟩))⟩
          show wp_X9_addEdge V (nI u) (nI v) a3 (fun r5 V6 => fin JJ o 4 r5 V6)
          unfold wp_X9_addEdge
          rw [forall_eq, f_isVertex (ST_r H1) hu, mb_f (by decide), f_isVertex (ST_r H1) hv, mb_f (by decide), f_isB, bI_t hB, mb_f (by decide), mb_f q, RG_k (ST_r H1), mb_t (by rw [hk60]; rfl), f_fails]
          exact fin_no (by rw [wr_eq, upd_eq]) (by decide) (JJ_sf H1 (SF_0 (by decide)))
    · rw [bI_f hB, mb_t rfl]
      refine Or.inr (Or.inl ⟨rfl, ?_⟩)
      show wp_X9_addEdge V (nI u) (nI v) a3 (fun r5 V6 => fin JJ o 2 r5 V6)
      unfold wp_X9_addEdge
      rw [forall_eq, f_isVertex (ST_r H1) hu, mb_f (by decide), f_isVertex (ST_r H1) hv, mb_f (by decide), f_isB, bI_f hB, mb_t rfl, f_fails]
      exact fin_no (by rw [wr_eq, upd_eq]) (by decide) (JJ_sf H1 (SF_0 (by decide)))
  · show wp_X9_addEdge V a1 a2 a3 (fun r5 V6 => fin JJ o 1 r5 V6)
    exact f_isV_bad H hb (fun V2 hs h0 => fin_no h0 (by decide) (JJ_sf H hs))
end CASES4
