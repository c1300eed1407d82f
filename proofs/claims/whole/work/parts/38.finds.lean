section FINDS
variable {n k : Nat} {a b w K : Nat → Nat} {pr F Q C : Nat → Prop} {V V0 V' : Mm} {post : Int32 → Mm → Prop} {pos : Mm → Prop} {u v e f p m i q : Nat} {ms x y : Int32} {so gr : Nat → Nat}
theorem f_relab_65 {pp : Mm → Prop} (hn : V0 57 9 = nI n) (h20 : n ≤ 20) (hg : ∀ v, v < n → V0 63 v = nI (gr v)) (hl : ∀ v, v < n → gr v < 20) {s t : Nat} (ht : t < 20) (hs : s < 20) (h : ∀ V' : Mm, (∀ c, c ≠ 63 → V' c = V0 c) → (∀ v, v < n → V' 63 v = nI (if gr v = s then t else gr v)) → pos V') : ∀ f i (V : Mm), i + f = n → (∀ c, c ≠ 63 → V c = V0 c) → (∀ v, v < n → V 63 v = nI (if v < i then (if gr v = s then t else gr v) else gr v)) → wp_X9_finds_65_L118 x y (nI t) (nI s) pp (fun (V13 : Mm) (x14 : Int32) => pos V13) (f + 1) V (nI i) := by
  intro f
  induction f with
  | zero =>
    intro i V hi hf hv
    have : i = n := by omega
    subst this
    rw [wp_X9_finds_65_L118, hf 57 (by decide), hn, mb_t (Int32.le_refl _)]
    exact h V hf (fun v hv2 => by rw [hv v hv2, if_pos hv2])
  | succ f ih =>
    intro i V hi hf hv
    have hin : i < n := by omega
    have := hl i hin
    rw [wp_X9_finds_65_L118, hf 57 (by decide), hn, mb_f (fun z => absurd ((nI_leI (by omega) (by omega)).mp z) (by omega)), nI_clamp (by omega), hv i hin, if_neg (Nat.lt_irrefl _), nI_eq (by omega) (by omega), nI_1]
    refine ⟨nI_in (by omega) (by omega), ?_⟩
    by_cases hgi : gr i = s
    · rw [mb_t hgi]
      refine ⟨nI_in (by omega) (by omega), ?_⟩
      rw [forall_eq]
      refine ih (i + 1) _ (by omega) (fun c hc => by rw [wr_ne _ _ _ hc, hf c hc]) (fun v hv2 => ?_)
      rw [wr_eq, upd_at]
      by_cases z : v = i
      · rw [if_pos z, z, if_pos (by omega), if_pos hgi]
      · rw [if_neg z, hv v hv2]
        by_cases z2 : v < i
        · rw [if_pos z2, if_pos (show v < i + 1 by omega)]
        · rw [if_neg z2, if_neg (show ¬ v < i + 1 by omega)]
    · rw [mb_f hgi]
      refine ih (i + 1) _ (by omega) hf (fun v hv2 => ?_)
      rw [hv v hv2]
      by_cases z : v = i
      · rw [z, if_neg (Nat.lt_irrefl _), if_pos (by omega), if_neg hgi]
      · by_cases z2 : v < i
        · rw [if_pos z2, if_pos (show v < i + 1 by omega)]
        · rw [if_neg z2, if_neg (show ¬ v < i + 1 by omega)]
theorem f_finds_65 (H0 : RG V0 n k a b w pr) (h : ∀ (V' : Mm) gr C, (∀ c, c ≠ 62 → c ≠ 63 → c ≠ 65 → V' c = V0 c) → (∀ e, e < k → V' 65 e = bI (C e)) → (∀ v, v < n → V' 63 v = nI (gr v)) → (∀ v, v < n → gr v < 20) → LB n a b gr C → dcp a b (ky w) (fun g => pr g ∧ nI g ≠ ms) C → pos V') : wp_X9_finds_65 V0 ms pos := by
  have h20 := RG_n20 H0
  have h60 := RG_k60 H0
  unfold wp_X9_finds_65
  refine f_sorts H0 (fun V1 so hf1 h62 ho => ?_)
  have hso : ∀ i, i < k → so i < k := fun i hi => (SO_im ho (so i)).mpr ⟨i, hi, rfl⟩
  have main : ∀ f i (V : Mm) gr C, i + f = k → (∀ c, c ≠ 63 → c ≠ 65 → V c = V1 c) → (∀ j, j < i → V 65 (so j) = bI (C (so j))) → (∀ v, v < n → V 63 v = nI (gr v)) → (∀ v, v < n → gr v < 20) → KR n a b (ky w) (fun g => pr g ∧ nI g ≠ ms) so i gr C → wp_X9_finds_65_L29 ms pos (fun (V38 : Mm) (x39 : Int32) => pos V38) (f + 1) V (nI i) := by
    intro f
    induction f with
    | zero =>
      intro i V gr C hi hf hc hg hl hr
      have : i = k := by omega
      subst this
      rw [wp_X9_finds_65_L29, hf 57 (by decide) (by decide), hf1 57 (by decide), RG_k H0, mb_t (Int32.le_refl _)]
      refine h V gr C (fun c h1 h2 h3 => by rw [hf c h2 h3, hf1 c h1]) (fun e he => ?_) hg hl (KR_lb hr) (KR_fin hr (fun g hg2 => (SO_im ho g).mp (RG_pk H0 g hg2.1)))
      obtain ⟨j, j1, j2⟩ := (SO_im ho e).mp he
      rw [← j2]; exact hc j j1
    | succ f ih =>
      intro i V gr C hi hf hc hg hl hr
      have hik : i < k := by omega
      have hsi := hso i hik
      have ha := RG_an H0 _ hsi
      have hb := RG_bn H0 _ hsi
      have la := hl _ ha
      have lb := hl _ hb
      have f57 : V 57 10 = nI k := by rw [hf 57 (by decide) (by decide), hf1 57 (by decide), RG_k H0]
      have f62 : V 62 i = nI (so i) := by rw [hf 62 (by decide) (by decide), h62 i hik]
      have f59 : V 59 (so i) = nI (a (so i)) := by rw [hf 59 (by decide) (by decide), hf1 59 (by decide), RG_a H0 _ hsi]
      have f60 : V 60 (so i) = nI (b (so i)) := by rw [hf 60 (by decide) (by decide), hf1 60 (by decide), RG_b H0 _ hsi]
      have f64 : V 64 (so i) = bI (pr (so i)) := by rw [hf 64 (by decide) (by decide), hf1 64 (by decide), RG_p H0 _ hsi]
      have hm := SO_mo ho
      have hCi := KR_no hr hm hik
      have skip : ((pr (so i) ∧ nI (so i) ≠ ms) → cn a b C (a (so i)) (b (so i))) → wp_X9_finds_65_L29 ms pos (fun (V38 : Mm) (x39 : Int32) => pos V38) (f + 1) (wr V 65 (so i) 0) (nI (i + 1)) := fun hcn => by
        refine ih (i + 1) _ gr C (by omega) (fun c h1 h2 => by rw [wr_ne _ _ _ h2, hf c h1 h2]) (fun j hj => ?_) (fun v hv => by rw [wr_ne _ _ _ (by decide), hg v hv]) hl (KR_skip hr hm hik hcn)
        rw [wr_eq, upd_at]
        rcases lt_or_eq1 hj with z | z
        · have hne : so j ≠ so i := fun q => by have := hm j i z hik; rw [q] at this; omega
          rw [if_neg hne]; exact hc j z
        · rw [z, if_pos rfl, bI_f hCi]
      have take : pr (so i) → nI (so i) ≠ ms → gr (a (so i)) ≠ gr (b (so i)) → ∃ m118 : Nat, wp_X9_finds_65_L118 ms (nI i) (nI (gr (a (so i)))) (nI (gr (b (so i)))) pos (fun (V13 : Mm) (x14 : Int32) => wp_X9_finds_65_L29 ms pos (fun (V38 : Mm) (x39 : Int32) => pos V38) (f + 1) V13 (nI (i + 1))) m118 (wr V 65 (so i) 1) 0 := fun hp hms hne => by
        refine ⟨n + 1, ?_⟩
        have key := f_relab_65 (pp := pos) (V0 := wr V 65 (so i) 1) (x := ms) (y := nI i) (gr := gr) (n := n) (s := gr (b (so i))) (t := gr (a (so i))) (pos := fun V13 => wp_X9_finds_65_L29 ms pos (fun (V38 : Mm) (x39 : Int32) => pos V38) (f + 1) V13 (nI (i + 1))) (by rw [wr_ne _ _ _ (by decide), hf 57 (by decide) (by decide), hf1 57 (by decide), RG_n H0]) h20 (fun v hv => by rw [wr_ne _ _ _ (by decide), hg v hv]) hl la lb (fun V2 hf2 hg2 => ?_) n 0 (wr V 65 (so i) 1) (by omega) (fun _ _ => rfl) (fun v hv => by rw [wr_ne _ _ _ (by decide), hg v hv, if_neg (Nat.not_lt_zero _)])
        · exact key
        · refine ih (i + 1) V2 _ _ (by omega) (fun c h1 h2 => by rw [hf2 c h1, wr_ne _ _ _ h2, hf c h1 h2]) (fun j hj => ?_) hg2 (fun v hv => ?_) (KR_take hr hm hik ⟨hp, hms⟩ (fun g hg3 => ⟨RG_an H0 g (RG_pk H0 g (KR_ci hr g hg3).1.1), RG_bn H0 g (RG_pk H0 g (KR_ci hr g hg3).1.1)⟩) hb ha (Or.inr ⟨rfl, rfl⟩) (Ne.symm hne) (fun z _ => rfl))
          · rw [hf2 65 (by decide), wr_eq, upd_at]
            rcases lt_or_eq1 hj with z | z
            · have hne : so j ≠ so i := fun q => by have := hm j i z hik; rw [q] at this; omega
              rw [if_neg hne, hc j z]
              exact bI_congr ⟨Or.inl, fun y => y.elim id (fun y => absurd y hne)⟩
            · rw [z, if_pos rfl, bI_t (Or.inr rfl)]
          · by_cases z : gr v = gr (b (so i))
            · rw [if_pos z]; exact la
            · rw [if_neg z]; exact hl v hv
      rw [wp_X9_finds_65_L29]
      simp (disch := omega) only [f57, f62, f59, f60, f64, hg _ ha, hg _ hb, nI_leI, nI_inI, nI_clamp, nI_1, show ¬ k ≤ i by omega, wr_eq, upd_eq, nI_eq, bI_eq0, one_eqz, true_and, and_true, not_true_eq_false, not_false_eq_true, false_implies, true_implies, implies_true, forall_eq, false_and, and_false, or_false, false_or, or_true, true_or, iff_self, Classical.not_not, forall_const, ite_true, ite_false, reduceIte, eq_self]
      by_cases hp : pr (so i)
      · rw [mb_n hp]
        by_cases hms : nI (so i) = ms
        · rw [mb_t hms]; exact skip (fun z => absurd hms z.2)
        · rw [mb_f hms]
          by_cases hgg : gr (a (so i)) = gr (b (so i))
          · rw [mb_t hgg]; exact skip (fun _ => (KR_lb hr _ _ ha hb).mp hgg)
          · rw [mb_f hgg]; exact take hp hms hgg
      · rw [mb_o hp]; exact skip (fun z => absurd z.1 hp)
  have lab : ∀ f i (V : Mm), i + f = n → (∀ c, c ≠ 63 → V c = V1 c) → (∀ v, v < i → V 63 v = nI v) → wp_X9_finds_65_L6 ms pos (fun (V4 : Mm) (x5 : Int32) => (∃ m29 : Nat, wp_X9_finds_65_L29 ms pos (fun (V38 : Mm) (x39 : Int32) => pos V38) m29 (V4) (0))) (f + 1) V (nI i) := by
    intro f
    induction f with
    | zero =>
      intro i V hi hf hv
      have : i = n := by omega
      subst this
      rw [wp_X9_finds_65_L6, hf 57 (by decide), hf1 57 (by decide), RG_n H0, mb_t (Int32.le_refl _)]
      exact ⟨k + 1, main k 0 V id (fun _ => False) (by omega) (fun c h1 h2 => hf c h1) (fun j hj => absurd hj (Nat.not_lt_zero _)) hv (fun v hv2 => by show v < 20; omega) KR_0⟩
    | succ f ih =>
      intro i V hi hf hv
      rw [wp_X9_finds_65_L6, hf 57 (by decide), hf1 57 (by decide), RG_n H0, mb_f (fun z => absurd ((nI_leI (by omega) (by omega)).mp z) (by omega)), nI_clamp (by omega), forall_eq, nI_1]
      refine ⟨nI_in (by omega) (by omega), ih (i + 1) _ (by omega) (fun c hc => by rw [wr_ne _ _ _ hc, hf c hc]) (fun v hv2 => ?_)⟩
      rw [wr_eq, upd_at]
      rcases lt_or_eq1 hv2 with z | z
      · rw [if_neg (by omega), hv v z]
      · rw [if_pos z, z]
  exact ⟨n + 1, lab n 0 V1 (by omega) (fun _ _ => rfl) (fun v hv => absurd hv (Nat.not_lt_zero _))⟩
theorem f_relab_66 {pp : Mm → Prop} (hn : V0 57 9 = nI n) (h20 : n ≤ 20) (hg : ∀ v, v < n → V0 63 v = nI (gr v)) (hl : ∀ v, v < n → gr v < 20) {s t : Nat} (ht : t < 20) (hs : s < 20) (h : ∀ V' : Mm, (∀ c, c ≠ 63 → V' c = V0 c) → (∀ v, v < n → V' 63 v = nI (if gr v = s then t else gr v)) → pos V') : ∀ f i (V : Mm), i + f = n → (∀ c, c ≠ 63 → V c = V0 c) → (∀ v, v < n → V 63 v = nI (if v < i then (if gr v = s then t else gr v) else gr v)) → wp_X9_finds_66_L118 x y (nI t) (nI s) pp (fun (V13 : Mm) (x14 : Int32) => pos V13) (f + 1) V (nI i) := by
  intro f
  induction f with
  | zero =>
    intro i V hi hf hv
    have : i = n := by omega
    subst this
    rw [wp_X9_finds_66_L118, hf 57 (by decide), hn, mb_t (Int32.le_refl _)]
    exact h V hf (fun v hv2 => by rw [hv v hv2, if_pos hv2])
  | succ f ih =>
    intro i V hi hf hv
    have hin : i < n := by omega
    have := hl i hin
    rw [wp_X9_finds_66_L118, hf 57 (by decide), hn, mb_f (fun z => absurd ((nI_leI (by omega) (by omega)).mp z) (by omega)), nI_clamp (by omega), hv i hin, if_neg (Nat.lt_irrefl _), nI_eq (by omega) (by omega), nI_1]
    refine ⟨nI_in (by omega) (by omega), ?_⟩
    by_cases hgi : gr i = s
    · rw [mb_t hgi]
      refine ⟨nI_in (by omega) (by omega), ?_⟩
      rw [forall_eq]
      refine ih (i + 1) _ (by omega) (fun c hc => by rw [wr_ne _ _ _ hc, hf c hc]) (fun v hv2 => ?_)
      rw [wr_eq, upd_at]
      by_cases z : v = i
      · rw [if_pos z, z, if_pos (by omega), if_pos hgi]
      · rw [if_neg z, hv v hv2]
        by_cases z2 : v < i
        · rw [if_pos z2, if_pos (show v < i + 1 by omega)]
        · rw [if_neg z2, if_neg (show ¬ v < i + 1 by omega)]
    · rw [mb_f hgi]
      refine ih (i + 1) _ (by omega) hf (fun v hv2 => ?_)
      rw [hv v hv2]
      by_cases z : v = i
      · rw [z, if_neg (Nat.lt_irrefl _), if_pos (by omega), if_neg hgi]
      · by_cases z2 : v < i
        · rw [if_pos z2, if_pos (show v < i + 1 by omega)]
        · rw [if_neg z2, if_neg (show ¬ v < i + 1 by omega)]
theorem f_finds_66 (H0 : RG V0 n k a b w pr) (h : ∀ (V' : Mm) gr C, (∀ c, c ≠ 62 → c ≠ 63 → c ≠ 66 → V' c = V0 c) → (∀ e, e < k → V' 66 e = bI (C e)) → (∀ v, v < n → V' 63 v = nI (gr v)) → (∀ v, v < n → gr v < 20) → LB n a b gr C → dcp a b (ky w) (fun g => pr g ∧ nI g ≠ ms) C → pos V') : wp_X9_finds_66 V0 ms pos := by
  have h20 := RG_n20 H0
  have h60 := RG_k60 H0
  unfold wp_X9_finds_66
  refine f_sorts H0 (fun V1 so hf1 h62 ho => ?_)
  have hso : ∀ i, i < k → so i < k := fun i hi => (SO_im ho (so i)).mpr ⟨i, hi, rfl⟩
  have main : ∀ f i (V : Mm) gr C, i + f = k → (∀ c, c ≠ 63 → c ≠ 66 → V c = V1 c) → (∀ j, j < i → V 66 (so j) = bI (C (so j))) → (∀ v, v < n → V 63 v = nI (gr v)) → (∀ v, v < n → gr v < 20) → KR n a b (ky w) (fun g => pr g ∧ nI g ≠ ms) so i gr C → wp_X9_finds_66_L29 ms pos (fun (V38 : Mm) (x39 : Int32) => pos V38) (f + 1) V (nI i) := by
    intro f
    induction f with
    | zero =>
      intro i V gr C hi hf hc hg hl hr
      have : i = k := by omega
      subst this
      rw [wp_X9_finds_66_L29, hf 57 (by decide) (by decide), hf1 57 (by decide), RG_k H0, mb_t (Int32.le_refl _)]
      refine h V gr C (fun c h1 h2 h3 => by rw [hf c h2 h3, hf1 c h1]) (fun e he => ?_) hg hl (KR_lb hr) (KR_fin hr (fun g hg2 => (SO_im ho g).mp (RG_pk H0 g hg2.1)))
      obtain ⟨j, j1, j2⟩ := (SO_im ho e).mp he
      rw [← j2]; exact hc j j1
    | succ f ih =>
      intro i V gr C hi hf hc hg hl hr
      have hik : i < k := by omega
      have hsi := hso i hik
      have ha := RG_an H0 _ hsi
      have hb := RG_bn H0 _ hsi
      have la := hl _ ha
      have lb := hl _ hb
      have f57 : V 57 10 = nI k := by rw [hf 57 (by decide) (by decide), hf1 57 (by decide), RG_k H0]
      have f62 : V 62 i = nI (so i) := by rw [hf 62 (by decide) (by decide), h62 i hik]
      have f59 : V 59 (so i) = nI (a (so i)) := by rw [hf 59 (by decide) (by decide), hf1 59 (by decide), RG_a H0 _ hsi]
      have f60 : V 60 (so i) = nI (b (so i)) := by rw [hf 60 (by decide) (by decide), hf1 60 (by decide), RG_b H0 _ hsi]
      have f64 : V 64 (so i) = bI (pr (so i)) := by rw [hf 64 (by decide) (by decide), hf1 64 (by decide), RG_p H0 _ hsi]
      have hm := SO_mo ho
      have hCi := KR_no hr hm hik
      have skip : ((pr (so i) ∧ nI (so i) ≠ ms) → cn a b C (a (so i)) (b (so i))) → wp_X9_finds_66_L29 ms pos (fun (V38 : Mm) (x39 : Int32) => pos V38) (f + 1) (wr V 66 (so i) 0) (nI (i + 1)) := fun hcn => by
        refine ih (i + 1) _ gr C (by omega) (fun c h1 h2 => by rw [wr_ne _ _ _ h2, hf c h1 h2]) (fun j hj => ?_) (fun v hv => by rw [wr_ne _ _ _ (by decide), hg v hv]) hl (KR_skip hr hm hik hcn)
        rw [wr_eq, upd_at]
        rcases lt_or_eq1 hj with z | z
        · have hne : so j ≠ so i := fun q => by have := hm j i z hik; rw [q] at this; omega
          rw [if_neg hne]; exact hc j z
        · rw [z, if_pos rfl, bI_f hCi]
      have take : pr (so i) → nI (so i) ≠ ms → gr (a (so i)) ≠ gr (b (so i)) → ∃ m118 : Nat, wp_X9_finds_66_L118 ms (nI i) (nI (gr (a (so i)))) (nI (gr (b (so i)))) pos (fun (V13 : Mm) (x14 : Int32) => wp_X9_finds_66_L29 ms pos (fun (V38 : Mm) (x39 : Int32) => pos V38) (f + 1) V13 (nI (i + 1))) m118 (wr V 66 (so i) 1) 0 := fun hp hms hne => by
        refine ⟨n + 1, ?_⟩
        have key := f_relab_66 (pp := pos) (V0 := wr V 66 (so i) 1) (x := ms) (y := nI i) (gr := gr) (n := n) (s := gr (b (so i))) (t := gr (a (so i))) (pos := fun V13 => wp_X9_finds_66_L29 ms pos (fun (V38 : Mm) (x39 : Int32) => pos V38) (f + 1) V13 (nI (i + 1))) (by rw [wr_ne _ _ _ (by decide), hf 57 (by decide) (by decide), hf1 57 (by decide), RG_n H0]) h20 (fun v hv => by rw [wr_ne _ _ _ (by decide), hg v hv]) hl la lb (fun V2 hf2 hg2 => ?_) n 0 (wr V 66 (so i) 1) (by omega) (fun _ _ => rfl) (fun v hv => by rw [wr_ne _ _ _ (by decide), hg v hv, if_neg (Nat.not_lt_zero _)])
        · exact key
        · refine ih (i + 1) V2 _ _ (by omega) (fun c h1 h2 => by rw [hf2 c h1, wr_ne _ _ _ h2, hf c h1 h2]) (fun j hj => ?_) hg2 (fun v hv => ?_) (KR_take hr hm hik ⟨hp, hms⟩ (fun g hg3 => ⟨RG_an H0 g (RG_pk H0 g (KR_ci hr g hg3).1.1), RG_bn H0 g (RG_pk H0 g (KR_ci hr g hg3).1.1)⟩) hb ha (Or.inr ⟨rfl, rfl⟩) (Ne.symm hne) (fun z _ => rfl))
          · rw [hf2 66 (by decide), wr_eq, upd_at]
            rcases lt_or_eq1 hj with z | z
            · have hne : so j ≠ so i := fun q => by have := hm j i z hik; rw [q] at this; omega
              rw [if_neg hne, hc j z]
              exact bI_congr ⟨Or.inl, fun y => y.elim id (fun y => absurd y hne)⟩
            · rw [z, if_pos rfl, bI_t (Or.inr rfl)]
          · by_cases z : gr v = gr (b (so i))
            · rw [if_pos z]; exact la
            · rw [if_neg z]; exact hl v hv
      rw [wp_X9_finds_66_L29]
      simp (disch := omega) only [f57, f62, f59, f60, f64, hg _ ha, hg _ hb, nI_leI, nI_inI, nI_clamp, nI_1, show ¬ k ≤ i by omega, wr_eq, upd_eq, nI_eq, bI_eq0, one_eqz, true_and, and_true, not_true_eq_false, not_false_eq_true, false_implies, true_implies, implies_true, forall_eq, false_and, and_false, or_false, false_or, or_true, true_or, iff_self, Classical.not_not, forall_const, ite_true, ite_false, reduceIte, eq_self]
      by_cases hp : pr (so i)
      · rw [mb_n hp]
        by_cases hms : nI (so i) = ms
        · rw [mb_t hms]; exact skip (fun z => absurd hms z.2)
        · rw [mb_f hms]
          by_cases hgg : gr (a (so i)) = gr (b (so i))
          · rw [mb_t hgg]; exact skip (fun _ => (KR_lb hr _ _ ha hb).mp hgg)
          · rw [mb_f hgg]; exact take hp hms hgg
      · rw [mb_o hp]; exact skip (fun z => absurd z.1 hp)
  have lab : ∀ f i (V : Mm), i + f = n → (∀ c, c ≠ 63 → V c = V1 c) → (∀ v, v < i → V 63 v = nI v) → wp_X9_finds_66_L6 ms pos (fun (V4 : Mm) (x5 : Int32) => (∃ m29 : Nat, wp_X9_finds_66_L29 ms pos (fun (V38 : Mm) (x39 : Int32) => pos V38) m29 (V4) (0))) (f + 1) V (nI i) := by
    intro f
    induction f with
    | zero =>
      intro i V hi hf hv
      have : i = n := by omega
      subst this
      rw [wp_X9_finds_66_L6, hf 57 (by decide), hf1 57 (by decide), RG_n H0, mb_t (Int32.le_refl _)]
      exact ⟨k + 1, main k 0 V id (fun _ => False) (by omega) (fun c h1 h2 => hf c h1) (fun j hj => absurd hj (Nat.not_lt_zero _)) hv (fun v hv2 => by show v < 20; omega) KR_0⟩
    | succ f ih =>
      intro i V hi hf hv
      rw [wp_X9_finds_66_L6, hf 57 (by decide), hf1 57 (by decide), RG_n H0, mb_f (fun z => absurd ((nI_leI (by omega) (by omega)).mp z) (by omega)), nI_clamp (by omega), forall_eq, nI_1]
      refine ⟨nI_in (by omega) (by omega), ih (i + 1) _ (by omega) (fun c hc => by rw [wr_ne _ _ _ hc, hf c hc]) (fun v hv2 => ?_)⟩
      rw [wr_eq, upd_at]
      rcases lt_or_eq1 hv2 with z | z
      · rw [if_neg (by omega), hv v z]
      · rw [if_pos z, z]
  exact ⟨n + 1, lab n 0 V1 (by omega) (fun _ _ => rfl) (fun v hv => absurd hv (Nat.not_lt_zero _))⟩
end FINDS
