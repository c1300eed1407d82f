section STATE
def ST (V : Mm) (n k : Nat) (a b w : Nat → Nat) (pr F : Nat → Prop) (gr : Nat → Nat) : Prop := (GV V n k a b w pr) ∧ (RG V n k a b w pr) ∧ (FV V k a b w F) ∧ (msf a b (ky w) pr F) ∧ (∀ v, v < n → V 58 v = V 2 v) ∧ (∀ e, e < k → V 65 e = bI (F e)) ∧ (∀ v, v < n → V 63 v = nI (gr v)) ∧ (∀ v, v < n → gr v < 20) ∧ (LB n a b gr F)
theorem ST_g {V : Mm} {n k : Nat} {a b w : Nat → Nat} {pr F : Nat → Prop} {gr : Nat → Nat} (h : ST V n k a b w pr F gr) : GV V n k a b w pr := h.1
theorem ST_r {V : Mm} {n k : Nat} {a b w : Nat → Nat} {pr F : Nat → Prop} {gr : Nat → Nat} (h : ST V n k a b w pr F gr) : RG V n k a b w pr := h.2.1
theorem ST_f {V : Mm} {n k : Nat} {a b w : Nat → Nat} {pr F : Nat → Prop} {gr : Nat → Nat} (h : ST V n k a b w pr F gr) : FV V k a b w F := h.2.2.1
theorem ST_m {V : Mm} {n k : Nat} {a b w : Nat → Nat} {pr F : Nat → Prop} {gr : Nat → Nat} (h : ST V n k a b w pr F gr) : msf a b (ky w) pr F := h.2.2.2.1
theorem ST_v {V : Mm} {n k : Nat} {a b w : Nat → Nat} {pr F : Nat → Prop} {gr : Nat → Nat} (h : ST V n k a b w pr F gr) : ∀ v, v < n → V 58 v = V 2 v := h.2.2.2.2.1
theorem ST_i {V : Mm} {n k : Nat} {a b w : Nat → Nat} {pr F : Nat → Prop} {gr : Nat → Nat} (h : ST V n k a b w pr F gr) : ∀ e, e < k → V 65 e = bI (F e) := h.2.2.2.2.2.1
theorem ST_l {V : Mm} {n k : Nat} {a b w : Nat → Nat} {pr F : Nat → Prop} {gr : Nat → Nat} (h : ST V n k a b w pr F gr) : ∀ v, v < n → V 63 v = nI (gr v) := h.2.2.2.2.2.2.1
theorem ST_s {V : Mm} {n k : Nat} {a b w : Nat → Nat} {pr F : Nat → Prop} {gr : Nat → Nat} (h : ST V n k a b w pr F gr) : ∀ v, v < n → gr v < 20 := h.2.2.2.2.2.2.2.1
theorem ST_lb {V : Mm} {n k : Nat} {a b w : Nat → Nat} {pr F : Nat → Prop} {gr : Nat → Nat} (h : ST V n k a b w pr F gr) : LB n a b gr F := h.2.2.2.2.2.2.2.2
def JJ (V : Mm) : Prop := ∃ (n k : Nat) (a b w : Nat → Nat) (pr F : Nat → Prop) (gr : Nat → Nat), ST V n k a b w pr F gr
def SF (V V' : Mm) : Prop := (∀ c, c < 29 ∨ (57 < c ∧ c < 62) ∨ (62 < c ∧ c < 66) → V' c = V c) ∧ (V' 57 9 = V 57 9) ∧ (V' 57 10 = V 57 10)
theorem SF_f {V V' : Mm} (h : SF V V') : ∀ c, c < 29 ∨ (57 < c ∧ c < 62) ∨ (62 < c ∧ c < 66) → V' c = V c := h.1
theorem SF_n {V V' : Mm} (h : SF V V') : V' 57 9 = V 57 9 := h.2.1
theorem SF_k {V V' : Mm} (h : SF V V') : V' 57 10 = V 57 10 := h.2.2
variable {n k : Nat} {a b w : Nat → Nat} {pr F : Nat → Prop} {gr : Nat → Nat} {V V' V0 V1 V2 : Mm} {post : Int32 → Mm → Prop} {pos : Mm → Prop} {px : String → Mm → Prop} {u v e r cnt : Nat} {x y z lo hi : Int32} {ord par dep pe lp ord' par' dep' pe' : Nat → Nat} {R R' S : Nat → Prop} {J : Mm → Prop} {o : Nat → Int64} {kk r5 : Int32} {V6 : Mm}
theorem SF_rf : SF V V := ⟨fun _ _ => rfl, rfl, rfl⟩
theorem SF_tr (h : SF V V1) (h2 : SF V1 V2) : SF V V2 := ⟨fun c hc => by rw [SF_f h2 c hc, SF_f h c hc], by rw [SF_n h2, SF_n h], by rw [SF_k h2, SF_k h]⟩
theorem SF_cl (h : ∀ c, c < 29 ∨ 56 < c → V' c = V c) : SF V V' := ⟨fun c hc => h c (by omega), by rw [h 57 (by omega)], by rw [h 57 (by omega)]⟩
theorem SF_r (h : RFr V V') : SF V V' := ⟨fun c hc => RFr_f h c (by omega) (by omega), RFr_g h 9 (by decide), RFr_g h 10 (by decide)⟩
theorem SF_0 {j : Nat} (hj : j ≠ 9 ∧ j ≠ 10) : SF V (wr V 57 j x) := ⟨fun c hc => wr_ne _ _ _ (by omega), by rw [wr_eq, upd_ne _ _ (Ne.symm hj.1)], by rw [wr_eq, upd_ne _ _ (Ne.symm hj.2)]⟩
theorem GV_sf (H : GV V n k a b w pr) (h : SF V V') : GV V' n k a b w pr := GV_fr H (SF_f h 1 (by omega)) (SF_f h 3 (by omega)) (SF_f h 4 (by omega)) (SF_f h 5 (by omega)) (SF_f h 6 (by omega))
theorem RG_sf (H : RG V n k a b w pr) (h : SF V V') : RG V' n k a b w pr := RG_fr H (SF_n h) (SF_k h) (SF_f h 59 (by omega)) (SF_f h 60 (by omega)) (SF_f h 61 (by omega)) (SF_f h 64 (by omega))
theorem ST_sf (H : ST V n k a b w pr F gr) (h : SF V V') : ST V' n k a b w pr F gr :=
  ⟨GV_sf (ST_g H) h, RG_sf (ST_r H) h, FV_fr2 (ST_f H) (fun c hc => SF_f h c (by omega)), ST_m H, by rw [SF_f h 58 (by omega), SF_f h 2 (by omega)]; exact ST_v H, by rw [SF_f h 65 (by omega)]; exact ST_i H, by rw [SF_f h 63 (by omega)]; exact ST_l H, ST_s H, ST_lb H⟩
theorem JJ_sf (H : ST V n k a b w pr F gr) (h : SF V V') : JJ V' := ⟨n, k, a, b, w, pr, F, gr, ST_sf H h⟩
/-- the law's last test of a call -/
def fin (J : Mm → Prop) (o3 : Nat → Int64) (k1 r5 : Int32) (V6 : Mm) : Prop := wp_X9_thrown V6 (fun (r7 : Int32) (V8 : Mm) => ((r7 = k1 → ((k1 = 0 → (((lg_cmp ((o3 0)) ((r5).toInt64)) = 0 → J V8) ∧ (¬ (lg_cmp ((o3 0)) ((r5).toInt64)) = 0 → False))) ∧ (¬ k1 = 0 → J V8))) ∧ (¬ r7 = k1 → False)))
theorem lg_same (x : Int64) : lg_cmp x x = 0 := by
  unfold lg_cmp
  rw [if_neg (fun q => by rw [gt_iff_lt, Int64.lt_iff_toInt_lt] at q; omega), if_pos rfl]
theorem updL_eq (f : Nat → Int64) (x : Int64) : vp_updL f 0 x 0 = x := if_pos rfl
theorem fin_ok {r : Int32} (h0 : V6 57 0 = 0) (hr : r5 = r) (hJ : J V6) : fin J (vp_updL o 0 r.toInt64) 0 r5 V6 := by
  unfold fin wp_X9_thrown
  rw [h0, hr, updL_eq, lg_same]
  exact ⟨fun _ => ⟨fun _ => ⟨fun _ => hJ, fun q => absurd rfl q⟩, fun _ => hJ⟩, fun q => absurd rfl q⟩
theorem fin_no (h0 : V6 57 0 = kk) (hk : kk ≠ 0) (hJ : J V6) : fin J o kk r5 V6 := by
  unfold fin wp_X9_thrown
  rw [h0]
  exact ⟨fun _ => ⟨fun q => absurd q hk, fun _ => hJ⟩, fun q => absurd rfl q⟩
def bad (n : Nat) (x : Int32) : Prop := x < 0 ∨ (¬ x < 0 ∧ nI n ≤ x)
def isB (x lo hi : Int32) : Prop := ¬ x < lo ∧ ¬ hi < x
theorem e_bet : wp_X8_isBetween V x lo hi post = post (bI (isB x lo hi)) V := by
  unfold wp_X8_isBetween
  by_cases h1 : x < lo
  · rw [mb_t h1, bI_f (fun q => q.1 h1)]
  · rw [mb_f h1]
    by_cases h2 : hi < x
    · rw [mb_t h2, bI_f (fun q => q.2 h2)]
    · rw [mb_f h2, bI_t ⟨h1, h2⟩]
theorem f_isB : wp_X9_isBetween V x lo hi post = post (bI (isB x lo hi)) V := by
  unfold wp_X9_isBetween
  by_cases h1 : x < lo
  · rw [mb_t h1, bI_f (fun q => q.1 h1)]
  · rw [mb_f h1]
    by_cases h2 : hi < x
    · rw [mb_t h2, bI_f (fun q => q.2 h2)]
    · rw [mb_f h2, bI_t ⟨h1, h2⟩]
theorem isB_nI {m : Nat} (hm : m < 2 ^ 31) (h : isB x 0 (nI m)) : ∃ d, d ≤ m ∧ x = nI d := by
  obtain ⟨d, hd, rfl⟩ := nI_of h.1
  refine ⟨d, ?_, rfl⟩
  rcases Nat.lt_or_ge m d with q | q
  · exact absurd ((nI_ltI hm hd).mpr q) h.2
  · exact q
theorem isB_w (h : isB x 1 99) : ∃ d, 1 ≤ d ∧ d ≤ 99 ∧ x = nI d := by
  have h0 : ¬ x < 0 := fun q => h.1 (by
    rw [Int32.lt_iff_toInt_lt] at q ⊢
    have e1 : (0 : Int32).toInt = 0 := by decide
    have e2 : (1 : Int32).toInt = 1 := by decide
    omega)
  obtain ⟨d, hd, rfl⟩ := nI_of h0
  refine ⟨d, ?_, ?_, rfl⟩
  · rcases Nat.lt_or_ge d 1 with q | q
    · exact absurd ((nI_ltI (b := 1) hd (by decide)).mpr q) h.1
    · exact q
  · rcases Nat.lt_or_ge 99 d with q | q
    · exact absurd ((nI_ltI (a := 99) (by decide) hd).mpr q) h.2
    · exact q
theorem s_requireVertex (H : GV V n k a b w pr) (h : ∀ v, v < n → x = nI v → pos V) (h2 : bad n x → px "java/lang/IndexOutOfBoundsException" V) : wp_X8_requireVertex V x pos px := by
  have := GV_n20 H
  unfold wp_X8_requireVertex
  rcases iv_cases x n (by omega) with ⟨v, hv, q⟩ | q
  · rw [q, e_hasVertex H hv, mb_f (by decide)]; exact h v hv q
  · rw [e_hasVertexX H q, mb_t rfl]; exact h2 q
theorem s_requireVertices (H : GV V n k a b w pr) (h : ∀ u v, u < n → v < n → x = nI u → y = nI v → pos V) (h2 : bad n x ∨ bad n y → px "java/lang/IndexOutOfBoundsException" V) : wp_X8_requireVertices V x y pos px := by
  unfold wp_X8_requireVertices
  exact s_requireVertex H (fun u hu e1 => s_requireVertex H (fun v hv e2 => h u v hu hv e1 e2) (fun q => h2 (Or.inr q))) (fun q => h2 (Or.inl q))
theorem s_requireEdge (H : GV V n k a b w pr) (h : ∀ e, e < k → x = nI e → pos V) (h2 : bad k x → px "java/lang/IndexOutOfBoundsException" V) : wp_X8_requireEdge V x pos px := by
  have := GV_k60 H
  unfold wp_X8_requireEdge
  rcases iv_cases x k (by omega) with ⟨v, hv, q⟩ | q
  · rw [q, e_hasEdge H hv, mb_f (by decide)]; exact h v hv q
  · rw [e_hasEdgeX H q, mb_t rfl]; exact h2 q
theorem ST_S (H : ST V n k a b w pr F gr) : (fun g => F g ∧ nI g ≠ -1) = F := funext fun g => propext ⟨fun q => q.1, fun q => ⟨q, fun z => (nI_neg (by have := FV_fk (ST_f H) g q; have := GV_k60 (ST_g H); omega)).mp z⟩⟩
theorem s_plantF (H : ST V n k a b w pr F gr) (hu : u < n) (h : ∀ V' : Mm, (∀ c, c < 29 ∨ 34 < c → V' c = V c) → ∀ cnt ord par dep pe lp R, TV V' n a b w F u cnt ord par dep pe lp R → pos V') : wp_X7_plant V (nI u) (-1) pos :=
  s_plant (ST_g H) (ST_f H) hu (fun V' hf cnt ord par dep pe lp R T => h V' hf cnt ord par dep pe lp R (by rw [ST_S H] at T; exact T))
theorem s_plantHolding (H : ST V n k a b w pr F gr) (hu : u < n) (hv : v < n) (h : cn a b F u v → ∀ V' : Mm, (∀ c, c < 29 ∨ 34 < c → V' c = V c) → ST V' n k a b w pr F gr → ∀ cnt ord par dep pe lp R, TV V' n a b w F u cnt ord par dep pe lp R → R v → pos V') (h2 : ¬ cn a b F u v → ∀ V' : Mm, SF V V' → px "java/util/NoSuchElementException" V') : wp_X8_plantHolding V (nI u) (nI v) pos px := by
  unfold wp_X8_plantHolding
  refine s_plantF H hu (fun V1 hf cnt ord par dep pe lp R T => ?_)
  have hs : SF V V1 := SF_cl (fun c hc => hf c (by omega))
  have H1 := ST_sf H hs
  unfold wp_X8_requireInTree
  rw [e_holds7 (ST_g H1) T hv]
  by_cases hR : R v
  · rw [bI_t hR, mb_f (by decide)]
    exact h ((rt_cn (TV_rt T)).mp hR) V1 hf H1 cnt ord par dep pe lp R T hR
  · rw [bI_f hR, mb_t rfl]
    exact h2 (fun q => hR ((rt_cn (TV_rt T)).mpr q)) V1 hs
theorem s_inTree (H : ST V n k a b w pr F gr) (T : TV V n a b w F u cnt ord par dep pe lp R) (hv : v < n) (h : R v → pos V) (h2 : ¬ R v → px "java/util/NoSuchElementException" V) : wp_X8_requireInTree V (nI v) pos px := by
  unfold wp_X8_requireInTree
  rw [e_holds7 (ST_g H) T hv]
  by_cases hR : R v
  · rw [bI_t hR, mb_f (by decide)]; exact h hR
  · rw [bI_f hR, mb_t rfl]; exact h2 hR
theorem f_fails : wp_X9_fails V x post = post 0 (wr V 57 0 x) := by
  unfold wp_X9_fails
  rw [forall_eq]
theorem f_isApart_bad (H : ST V n k a b w pr F gr) (hb : bad n x ∨ bad n y) (h : ∀ V', SF V V' → V' 57 0 = 1 → post 1 V') : wp_X9_isApart V x y post := by
  have hn := GV_n20 (ST_g H)
  have h0 : SF V (wr V 57 0 0) := SF_0 (by decide)
  have H1 := RG_sf (ST_r H) h0
  have hp : post 1 (wr (wr V 57 0 0) 57 0 1) := h _ (SF_tr h0 (SF_0 (by decide))) (by rw [wr_eq, upd_eq])
  unfold wp_X9_isApart
  rw [forall_eq]
  rcases iv_cases x n (by omega) with ⟨v, hv, q⟩ | q
  · have hy : bad n y := hb.elim (fun z => by
      rcases z with z | ⟨-, z⟩
      · rw [q] at z; exact absurd z (nI_pos (by omega))
      · rw [q] at z; exact absurd ((nI_leI (by omega) (by omega)).mp z) (by omega)) id
    rw [q, f_isVertex H1 hv, mb_f (by decide), f_isVertexX H1 hy, mb_t rfl, f_fails]
    exact hp
  · rw [f_isVertexX H1 q, mb_t rfl, f_fails]
    exact hp
theorem f_rootsF (H : ST V n k a b w pr F gr) (hu : u < n) (h : ∀ V' : Mm, RFr V V' → ∀ cnt ord par dep pe R, RT V' n a b F u cnt ord par dep pe R → pos V') : wp_X9_roots V (nI u) pos :=
  f_roots (ST_r H) (ST_i H) (FV_fk (ST_f H)) hu h
theorem f_isApart (H : ST V n k a b w pr F gr) (hu : u < n) (hv : v < n) (h : cn a b F u v → ∀ V' : Mm, SF V V' → V' 57 0 = 0 → ∀ cnt ord par dep pe R, RT V' n a b F u cnt ord par dep pe R → R v → post 0 V') (h2 : ¬ cn a b F u v → ∀ V' : Mm, SF V V' → V' 57 0 = 2 → post 1 V') : wp_X9_isApart V (nI u) (nI v) post := by
  have hn := GV_n20 (ST_g H)
  have h0 : SF V (wr V 57 0 0) := SF_0 (by decide)
  have H1 := ST_sf H h0
  unfold wp_X9_isApart
  rw [forall_eq, f_isVertex (ST_r H1) hu, mb_f (by decide), f_isVertex (ST_r H1) hv, mb_f (by decide)]
  refine f_rootsF H1 hu (fun V2 hf cnt ord par dep pe R T => ?_)
  have h02 : V2 57 0 = 0 := by rw [RFr_g hf 0 (by decide), wr_eq, upd_eq]
  have hs := SF_tr h0 (SF_r hf)
  rw [nI_clamp (by omega)]
  refine ⟨nI_in hv (by omega) |> fun q => by exact nI_in (by omega) (by omega), ?_⟩
  by_cases hR : R v
  · have hne : ¬ V2 67 v = -2 := by
      by_cases hr : v = u
      · rw [hr, RP_r (RT_rp T)]; decide
      · have := BF_Rlt (RT_bf T) ((RT_rt T).2.2.1 v hR hr).1
        rw [RP_p (RT_rp T) v hR hr]
        intro z
        have z2 := congrArg Int32.toInt z
        rw [nI_toInt (by omega), show (-2 : Int32).toInt = -2 by decide] at z2
        omega
    rw [mb_f hne, h02, mb_t (by decide)]
    exact h ((rt_cn (RT_rt T)).mp hR) V2 hs h02 cnt ord par dep pe R T hR
  · rw [RP_z (RT_rp T) v hv hR, mb_t rfl, f_fails, wr_eq, upd_eq, mb_f (by decide)]
    exact h2 (fun q => hR ((rt_cn (RT_rt T)).mpr q)) _ (SF_tr hs (SF_0 (by decide))) (by rw [wr_eq, upd_eq])
theorem up_uni (hA : acy a b S) (h : rt a b S r R par dep pe) (h' : rt a b S r R' par' dep' pe') : ∀ i v, R v → i ≤ dep v → up par' i v = up par i v
  | 0, _, _, _ => rfl
  | i + 1, v, hv, hi => by
    have hne : v ≠ r := fun q => by rw [q, h.2.1] at hi; omega
    obtain ⟨g1, g2, -⟩ := h.2.2.1 v hv hne
    have e1 := ((rt_uni hA h h' v hv).2.2 hne).1
    show up par' i (par' v) = up par i (par v)
    rw [e1]
    exact up_uni hA h h' i (par v) g1 (by omega)
theorem anc_uni (hA : acy a b S) (h : rt a b S r R par dep pe) (h' : rt a b S r R' par' dep' pe') (hv : R v) {x : Nat} : anc par' dep' x v ↔ anc par dep x v := by
  have e1 := (rt_uni hA h h' v hv).2.1
  constructor
  · rintro ⟨i, hi, q⟩
    exact ⟨i, by omega, by rw [← up_uni hA h h' i v hv (by omega)]; exact q⟩
  · rintro ⟨i, hi, q⟩
    exact ⟨i, by omega, by rw [up_uni hA h h' i v hv hi]; exact q⟩
/-- the reference's tree, told by the class's parents and depths -/
theorem RT_to (hA : acy a b S) (h : rt a b S r R par dep pe) (T : RT V n a b S r cnt ord par' dep' pe' R') : RT V n a b S r cnt ord par dep pe R := by
  have U := rt_uni hA h (RT_rt T)
  have hR : R' = R := funext fun v => propext ⟨fun q => (rt_cn h).mpr ((rt_cn (RT_rt T)).mp q), fun q => (U v q).1⟩
  subst hR
  have hb := RT_bf T
  have hsz : sz R' par' dep' n = sz R' par dep n := funext fun v => ct_congr (fun x _ => ⟨fun q => ⟨q.1, (anc_uni hA h (RT_rt T) q.1).mp q.2⟩, fun q => ⟨q.1, (anc_uni hA h (RT_rt T) q.1).mpr q.2⟩⟩)
  have hch : ∀ v c, chd R' r par' v c ↔ chd R' r par v c := fun v c => ⟨fun q => ⟨q.1, q.2.1, by rw [← ((U c q.1).2.2 q.2.1).1]; exact q.2.2⟩, fun q => ⟨q.1, q.2.1, by rw [((U c q.1).2.2 q.2.1).1]; exact q.2.2⟩⟩
  refine ⟨h, ⟨BF_o0 hb, BF_lt hb, BF_im hb, BF_inj hb, h.2.1, h.2.2.1, fun i j hij hj => ?_⟩, ⟨RP_c (RT_rp T), RP_o (RT_rp T), fun v hv => by rw [RP_y (RT_rp T) v hv, (U v hv).2.1], RP_z (RT_rp T), fun v hv hr => by rw [RP_p (RT_rp T) v hv hr, ((U v hv).2.2 hr).1], RP_r (RT_rp T)⟩, fun v hv => by rw [RT_z T v hv, hsz], fun v hv => ?_⟩
  · rw [← (U _ (BF_Ro hb (show i < cnt by omega))).2.1, ← (U _ (BF_Ro hb hj)).2.1]; exact BF_mo hb i j hij hj
  · have q := RT_h T v hv
    rw [hsz] at q
    rcases q with ⟨q1, q2⟩ | ⟨c, q1, q2, q3, q4⟩
    · exact Or.inl ⟨q1, fun c hc => q2 c ((hch v c).mpr hc)⟩
    · exact Or.inr ⟨c, (hch v c).mp q1, q2, q3, fun d hd => q4 d ((hch v d).mpr hd)⟩
end STATE
