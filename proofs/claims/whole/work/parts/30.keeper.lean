section KEEP
theorem mb_n {c A B : Prop} (h : c) : ((¬ c → A) ∧ (c → B)) = B := propext ⟨fun q => q.2 h, fun q => ⟨fun z => absurd h z, fun _ => q⟩⟩
theorem mb_o {c A B : Prop} (h : ¬ c) : ((¬ c → A) ∧ (c → B)) = A := propext ⟨fun q => q.1 h, fun q => ⟨fun _ => q, fun z => absurd z h⟩⟩
variable {n k : Nat} {a b w : Nat → Nat} {pr pr0 F S P : Nat → Prop} {V V0 : Mm} {post : Int32 → Mm → Prop} {pos : Mm → Prop} {u v e d r p m i : Nat} {ms x y : Int32}
variable {cnt : Nat} {ord par dep pe lp : Nat → Nat} {R : Nat → Prop}
/-- x is the first in the order of those of the first i that P says, or -1 -/
def least (P : Nat → Prop) (K : Nat → Nat) (i : Nat) (x : Int32) : Prop := (x = -1 ∧ ∀ g, g < i → ¬ P g) ∨ ∃ m, m < i ∧ P m ∧ x = nI m ∧ ∀ g, g < i → P g → K m ≤ K g
theorem least_0 (P : Nat → Prop) (K : Nat → Nat) : least P K 0 (-1) := Or.inl ⟨rfl, fun g hg => absurd hg (Nat.not_lt_zero _)⟩
theorem lt_or_eq1 {g i : Nat} (h : g < i + 1) : g < i ∨ g = i := by omega
theorem least_skip {K : Nat → Nat} (h : least P K i x) (hn : ¬ P i) : least P K (i + 1) x := by
  rcases h with ⟨h1, h2⟩ | ⟨m, h1, h2, h3, h4⟩
  · exact Or.inl ⟨h1, fun g hg q => (lt_or_eq1 hg).elim (fun z => h2 g z q) (fun z => hn (by rw [← z]; exact q))⟩
  · exact Or.inr ⟨m, by omega, h2, h3, fun g hg q => (lt_or_eq1 hg).elim (fun z => h4 g z q) (fun z => absurd (by rw [← z]; exact q) hn)⟩
theorem least_cg {P' : Nat → Prop} {K : Nat → Nat} (h : least P K i x) (hP : ∀ g, g < i → (P g ↔ P' g)) : least P' K i x := by
  rcases h with ⟨h1, h2⟩ | ⟨m, h1, h2, h3, h4⟩
  · exact Or.inl ⟨h1, fun g hg q => h2 g hg ((hP g hg).mpr q)⟩
  · exact Or.inr ⟨m, h1, (hP m h1).mp h2, h3, fun g hg q => h4 g hg ((hP g hg).mpr q)⟩
theorem least_uni {K : Nat → Nat} (hi : i < 2 ^ 31) (inj : ∀ e f, e < i → f < i → K e = K f → e = f) (h : least P K i x) (h' : least P K i y) : x = y := by
  rcases h with ⟨h1, h2⟩ | ⟨m, h1, h2, h3, h4⟩
  · rcases h' with ⟨g1, g2⟩ | ⟨m', g1, g2, g3, g4⟩
    · rw [h1, g1]
    · exact absurd g2 (h2 m' g1)
  · rcases h' with ⟨g1, g2⟩ | ⟨m', g1, g2, g3, g4⟩
    · exact absurd h2 (g2 m h1)
    · have := h4 m' g1 g2
      have := g4 m h1 h2
      rw [h3, g3, inj m m' h1 g1 (by omega)]
theorem s_cb_least (H : GV V n k a b w pr) (hi : i < k) (hP : P i) (hl : least P (ky w) i x) (h0 : least P (ky w) (i + 1) x → post 0 V) (h1 : least P (ky w) (i + 1) (nI i) → post 1 V) : wp_X3_comesBefore V (nI i) x post := by
  rcases hl with ⟨q1, q2⟩ | ⟨m, q1, q2, q3, q4⟩
  · rw [q1, e_comesBeforeN H hi]
    exact h1 (Or.inr ⟨i, by omega, hP, rfl, fun g hg q => (lt_or_eq1 hg).elim (fun z => absurd q (q2 g z)) (fun z => by rw [z]; exact Nat.le_refl _)⟩)
  · rw [q3, e_comesBefore H hi (by omega)]
    by_cases hK : ky w i < ky w m
    · rw [bI_t hK]
      exact h1 (Or.inr ⟨i, by omega, hP, rfl, fun g hg q => (lt_or_eq1 hg).elim (fun z => by have := q4 g z q; omega) (fun z => by rw [z]; exact Nat.le_refl _)⟩)
    · rw [bI_f hK]
      exact h0 (Or.inr ⟨m, by omega, q2, q3, fun g hg q => (lt_or_eq1 hg).elim (fun z => q4 g z q) (fun z => by rw [z]; omega)⟩)
theorem e_leaves (H : GV V n k a b w pr) (T : TV V n a b w S r cnt ord par dep pe lp R) (he : e < k) : wp_X2_leavesPlanted V (nI e) post = post (bI (pr e ∧ ¬ (R (a e) ↔ R (b e)))) V := by
  unfold wp_X2_leavesPlanted
  rw [e_isPresent H he]
  by_cases hp : pr e
  · rw [bI_t hp, mb_f (by decide)]
    simp (disch := omega) only [e_firstEnd H he, e_secondEnd H he, e_holds7 H T (GV_an H e he), e_holds7 H T (GV_bn H e he), bI_inj]
    by_cases q : R (a e) ↔ R (b e)
    · rw [mb_t q, bI_f (fun z => z.2 q)]
    · rw [mb_f q, bI_t ⟨hp, q⟩]
  · rw [bI_f hp, mb_t rfl, bI_f (fun z => hp z.1)]
/-- the edges that could stand in for e -/
def rv (a b : Nat → Nat) (pr F : Nat → Prop) (e g : Nat) : Prop := g ≠ e ∧ pr g ∧ ¬ (sd a b F e (a g) ↔ sd a b F e (b g))
theorem s_findReplacement (H0 : GV V0 n k a b w pr) (I0 : FV V0 k a b w F) (he : F e) (h : ∀ (V' : Mm) x, (∀ c, c < 29 ∨ 34 < c → V' c = V0 c) → least (rv a b pr F e) (ky w) k x → post x V') : wp_X2_findReplacement V0 (nI e) post := by
  have h60 := GV_k60 H0
  have hk := FV_fk I0 e he
  unfold wp_X2_findReplacement
  rw [e_firstEnd H0 hk]
  refine s_plant H0 I0 (GV_an H0 e hk) (fun V hfr cnt ord par dep pe lp R T => ?_)
  have H : GV V n k a b w pr := GV_fr H0 (hfr 1 (by omega)) (hfr 3 (by omega)) (hfr 4 (by omega)) (hfr 5 (by omega)) (hfr 6 (by omega))
  have hS : (fun g => F g ∧ nI g ≠ nI e) = (fun g => F g ∧ g ≠ e) := funext fun g => propext ⟨fun q => ⟨q.1, fun z => q.2 (by rw [z])⟩, fun q => ⟨q.1, fun z => q.2 (by have := FV_fk I0 g q.1; rwa [nI_eq (by omega) (by omega)] at z)⟩⟩
  rw [hS] at T
  have hR : ∀ v, R v ↔ sd a b F e v := fun v => rt_cn (TV_rt T)
  have key : ∀ f i x, i + f = k → least (rv a b pr F e) (ky w) i x → wp_X2_findReplacement_L20 (nI e) post (fun (V14 : Mm) (x15 : Int32) (x16 : Int32) => post x15 V14) (f + 1) V x (nI i) := by
    intro f
    induction f with
    | zero =>
      intro i x hi hl
      have : i = k := by omega
      subst this
      simp (disch := omega) only [wp_X2_findReplacement_L20, wp_X3_edgeCount, GV_k H, nI_add, nI_1, nI_neg, neg_nI, nI_lt0, nI_eq0, nI_lt20, nI_le20, nI_lt60, nI_le60, nI_inI, nI_clamp, nI_eq, nI_leI, nI_ltI, neg_ltz, neg_eqz, one_eqz, bI_eq0, bI_eq1, bI_nar1, Nat.le_refl, true_and, and_true, not_true_eq_false, not_false_eq_true, false_implies, true_implies, implies_true, forall_eq, false_and, and_false, or_false, false_or, or_true, true_or, iff_self, Classical.not_not, forall_const, ite_true, ite_false, reduceIte, eq_self]
      exact h V x hfr hl
    | succ f ih =>
      intro i x hi hl
      have hik : i < k := by omega
      rw [wp_X2_findReplacement_L20]
      simp (disch := omega) only [wp_X3_edgeCount, GV_k H, nI_add, nI_1, nI_neg, neg_nI, nI_lt0, nI_eq0, nI_lt20, nI_le20, nI_lt60, nI_le60, nI_inI, nI_clamp, nI_eq, nI_leI, nI_ltI, neg_ltz, neg_eqz, one_eqz, bI_eq0, bI_eq1, bI_nar1, show ¬ k ≤ i by omega, e_leaves H T hik, true_and, and_true, not_true_eq_false, not_false_eq_true, false_implies, true_implies, implies_true, forall_eq, false_and, and_false, or_false, false_or, or_true, true_or, iff_self, Classical.not_not, forall_const, ite_true, ite_false, reduceIte, eq_self]
      by_cases hie : i = e
      · rw [mb_t hie]
        exact ih (i + 1) x (by omega) (least_skip hl (fun z => z.1 hie))
      · rw [mb_f hie]
        by_cases hq : pr i ∧ ¬ (R (a i) ↔ R (b i))
        · rw [mb_n hq]
          have hP : rv a b pr F e i := ⟨hie, hq.1, by rw [← hR, ← hR]; exact hq.2⟩
          refine s_cb_least H hik hP hl (fun q => ?_) (fun q => ?_)
          · rw [mb_t rfl]; exact ih (i + 1) x (by omega) q
          · rw [mb_f (by decide)]; exact ih (i + 1) _ (by omega) q
        · rw [mb_o hq]
          exact ih (i + 1) x (by omega) (least_skip hl (fun z => hq ⟨z.2.1, by rw [hR, hR]; exact z.2.2⟩))
  exact ⟨k + 1, key k 0 (-1) (by omega) (least_0 _ _)⟩
theorem FV_w {w' : Nat → Nat} (I : FV V k a b w F) (hw : ∀ e, F e → w' e = w e) : FV V k a b w' F :=
  ⟨FV_row I, by rw [FV_ws I]; exact congrArg nI (cs_congr (fun _ _ => Iff.rfl) (fun i _ q => (hw i q).symm)), FV_es I, FV_fk I, FV_ac I⟩
theorem s_admit (H : GV V n k a b w pr) (I : FV V k a b w F) (he : e < k) (hne : ¬ F e) (hM : msf a b (ky w) pr0 F) (hp : ∀ g, pr g ↔ pr0 g ∨ g = e) (h : ∀ (V' : Mm) F', (∀ c, c < 7 ∨ 34 < c → V' c = V c) → FV V' k a b w F' → msf a b (ky w) pr F' → pos V') : wp_X2_admit V (nI e) pos := by
  have h60 := GV_k60 H
  have hpr : pr = (fun g => pr0 g ∨ g = e) := funext fun g => propext (hp g)
  unfold wp_X2_admit
  rw [e_firstEnd H he]
  refine s_plant H I (GV_an H e he) (fun V1 hfr cnt ord par dep pe lp R T => ?_)
  have hS : (fun g => F g ∧ nI g ≠ -1) = F := funext fun g => propext ⟨fun q => q.1, fun q => ⟨q, fun z => (nI_neg (by have := FV_fk I g q; omega)).mp z⟩⟩
  rw [hS] at T
  have H1 : GV V1 n k a b w pr := GV_fr H (hfr 1 (by omega)) (hfr 3 (by omega)) (hfr 4 (by omega)) (hfr 5 (by omega)) (hfr 6 (by omega))
  have I1 : FV V1 k a b w F := FV_fr2 I (fun c hc => hfr c (by omega))
  have hR : R (b e) ↔ cn a b F (a e) (b e) := rt_cn (TV_rt T)
  simp only [e_secondEnd H1 he, e_holds7 H1 T (GV_bn H1 e he), bI_eq0]
  by_cases hc : R (b e)
  · rw [mb_f (fun z => z hc), e_lastFromRoot H1 T hc, (TP_p (TV_tp T) _ hc (Ne.symm (GV_ab H e he))).2.2.1]
    have hl := TV_lst (FV_ac I) T _ hc (Ne.symm (GV_ab H e he))
    have hlk := FV_fk I _ hl.1
    rw [mb_f (fun z => (nI_neg (by omega)).mp z), e_comesBefore H1 he hlk]
    have hlne : lp (b e) ≠ e := fun z => hne (by rw [← z]; exact hl.1)
    by_cases hK : ky w e < ky w (lp (b e))
    · rw [bI_t hK, mb_f (by decide)]
      have hM2 := msf_swap (fun x y hx hy => ky_inj (by have := FV_fk I x hx; omega) (by have := FV_fk I y hy; omega)) hM hne hl.1 hl.2.1 hl.2.2 hK
      refine s_cut H1 I1 hl.1 (fun V2 hf2 I2 => ?_)
      have H2 : GV V2 n k a b w pr := GV_fr H1 (hf2 1 (by omega)) (hf2 3 (by omega)) (hf2 4 (by omega)) (hf2 5 (by omega)) (hf2 6 (by omega))
      refine s_link H2 I2 he (fun z => hne z.1) hM2.2.1 (fun V3 hf3 I3 => h V3 _ (fun c hc => ?_) I3 (by rw [hpr]; exact hM2))
      rw [hf3 c (by omega), hf2 c (by omega), hfr c (by omega)]
    · rw [bI_f hK, mb_t rfl]
      have hK2 : ky w (lp (b e)) < ky w e := by
        rcases Nat.lt_or_ge (ky w (lp (b e))) (ky w e) with q | q
        · exact q
        · exact absurd (ky_inj (w := w) (by omega) (by omega) (show ky w (lp (b e)) = ky w e by omega)) hlne
      refine h V1 F (fun c hc => hfr c (by omega)) I1 ?_
      rw [hpr]
      exact msf_late hM (cn_mono (fun g q => ⟨q.1, by omega⟩) hl.2.1)
  · rw [mb_t hc]
    have hM2 := msf_link hM (fun z => hc (hR.mpr z))
    refine s_link H1 I1 he hne hM2.2.1 (fun V3 hf3 I3 => h V3 _ (fun c hc => ?_) I3 (by rw [hpr]; exact hM2))
    rw [hf3 c (by omega), hfr c (by omega)]
theorem rv_ne (h : rv a b pr F e m) : ¬ (F m ∧ m ≠ e) := fun q => h.2.2 (sd_edge q)
theorem GV_rm (H : GV V n k a b w pr) (he : e < k) : GV (wr V 6 e 0) n k a b w (fun g => pr g ∧ g ≠ e) := by
  refine ⟨GV_n20 H, GV_k60 H, (show V 1 5 = nI n from GV_n H), (show V 1 6 = nI k from GV_k H), (show ∀ e, e < k → V 3 e = nI (a e) from GV_a H), (show ∀ e, e < k → V 4 e = nI (b e) from GV_b H), (show ∀ e, e < k → V 5 e = nI (w e) from GV_w H), fun g hg => ?_, GV_an H, GV_bn H, GV_ab H, GV_w1 H, fun g q => GV_pk H g q.1⟩
  rw [wr_eq, upd_at]
  by_cases q : g = e
  · rw [if_pos q, bI_f (fun z => z.2 q)]
  · rw [if_neg q, GV_p H g hg]
    exact bI_congr ⟨fun z => ⟨z, q⟩, fun z => z.1⟩
theorem s_release (H : GV V n k a b w pr) (I : FV V k a b w F) (hM : msf a b (ky w) pr F) (he : e < k) (h : ∀ (V' : Mm) x F', (∀ c, c < 6 ∨ 34 < c → V' c = V c) → GV V' n k a b w (fun g => pr g ∧ g ≠ e) → FV V' k a b w F' → msf a b (ky w) (fun g => pr g ∧ g ≠ e) F' → (¬ F e → x = -1) → (F e → least (rv a b pr F e) (ky w) k x) → post x V') : wp_X2_release V (nI e) post := by
  have h60 := GV_k60 H
  unfold wp_X2_release
  rw [e_holds H I he]
  by_cases hF : F e
  · rw [bI_t hF, mb_f (by decide)]
    refine s_findReplacement H I hF (fun V1 x hfr hl => ?_)
    have H1 : GV V1 n k a b w pr := GV_fr H (hfr 1 (by omega)) (hfr 3 (by omega)) (hfr 4 (by omega)) (hfr 5 (by omega)) (hfr 6 (by omega))
    have I1 : FV V1 k a b w F := FV_fr2 I (fun c hc => hfr c (by omega))
    refine s_cut H1 I1 hF (fun V2 hf2 I2 => ?_)
    have H2 : GV V2 n k a b w pr := GV_fr H1 (hf2 1 (by omega)) (hf2 3 (by omega)) (hf2 4 (by omega)) (hf2 5 (by omega)) (hf2 6 (by omega))
    rw [e_markRemoved H2 he]
    have H3 := GV_rm H2 he
    have I3 := FV_wr (c := 6) (j := e) (x := 0) I2 (by omega)
    have fr3 : ∀ c, c < 6 ∨ 34 < c → (wr V2 6 e 0) c = V c := fun c hc => by rw [wr_ne _ _ _ (by omega), hf2 c (by omega), hfr c (by omega)]
    rcases hl with ⟨q1, q2⟩ | ⟨m, q1, q2, q3, q4⟩
    · rw [mb_t q1]
      refine h _ x _ fr3 H3 I3 (msf_cut hM hF (fun g hg hn => Classical.byContradiction fun z => q2 g (GV_pk H g hg) ⟨hn, hg, z⟩)) (fun z => absurd hF z) (fun _ => Or.inl ⟨q1, q2⟩)
    · rw [q3, mb_f (fun z => (nI_neg (by omega)).mp z)]
      have hM2 := msf_repl (K' := ky w) (pr' := fun g => pr g ∧ g ≠ e) (m := m) (fun x y hx hy => ky_inj (by have := GV_pk H x hx.1; omega) (by have := GV_pk H y hy.1; omega)) hM hF (fun _ _ => rfl) (fun g q => q.1) (fun g q z => ⟨q, z⟩) ⟨q2.2.1, q2.1⟩ q2.2.2 (fun g hg hX => q4 g (GV_pk H g hg.1) ⟨hg.2, hg.1, hX⟩)
      refine s_link H3 I3 q1 (rv_ne q2) hM2.2.1 (fun V4 hf4 I4 => ?_)
      have H4 : GV V4 n k a b w (fun g => pr g ∧ g ≠ e) := GV_fr H3 (hf4 1 (by omega)) (hf4 3 (by omega)) (hf4 4 (by omega)) (hf4 5 (by omega)) (hf4 6 (by omega))
      exact h V4 _ _ (fun c hc => by rw [hf4 c (by omega), fr3 c hc]) H4 I4 hM2 (fun z => absurd hF z) (fun _ => Or.inr ⟨m, q1, q2, rfl, q4⟩)
  · rw [bI_f hF, mb_t rfl, e_markRemoved H he]
    exact h _ _ F (fun c hc => wr_ne _ _ _ (by omega)) (GV_rm H he) (FV_wr I (by omega)) (msf_drop hM hF) (fun _ => rfl) (fun z => absurd z hF)
theorem GV_rw (H : GV V n k a b w pr) (hd : 1 ≤ d ∧ d ≤ 99) : GV (wr V 5 e (nI d)) n k a b (fun g => if g = e then d else w g) pr := by
  refine ⟨GV_n20 H, GV_k60 H, (show V 1 5 = nI n from GV_n H), (show V 1 6 = nI k from GV_k H), (show ∀ e, e < k → V 3 e = nI (a e) from GV_a H), (show ∀ e, e < k → V 4 e = nI (b e) from GV_b H), fun g hg => ?_, (show ∀ e, e < k → V 6 e = bI (pr e) from GV_p H), GV_an H, GV_bn H, GV_ab H, fun g hg => ?_, GV_pk H⟩
  · rw [wr_eq, upd_at]
    show (if g = e then nI d else V 5 g) = nI (if g = e then d else w g)
    by_cases q : g = e
    · rw [if_pos q, if_pos q]
    · rw [if_neg q, if_neg q, GV_w H g hg]
  · show 1 ≤ (if g = e then d else w g) ∧ (if g = e then d else w g) ≤ 99
    by_cases q : g = e
    · rw [if_pos q]; exact hd
    · rw [if_neg q]; exact GV_w1 H g hg
theorem s_reweigh (H : GV V n k a b w pr) (I : FV V k a b w F) (hM : msf a b (ky w) pr F) (he : e < k) (hpr : pr e) (hd : 1 ≤ d ∧ d ≤ 99) (h : ∀ (V' : Mm) F', (∀ c, c < 5 ∨ c = 6 ∨ 34 < c → V' c = V c) → GV V' n k a b (fun g => if g = e then d else w g) pr → FV V' k a b (fun g => if g = e then d else w g) F' → msf a b (ky (fun g => if g = e then d else w g)) pr F' → pos V') : wp_X2_reweigh V (nI e) (nI d) pos := by
  have h60 := GV_k60 H
  have hKg : ∀ g, g ≠ e → ky (fun g => if g = e then d else w g) g = ky w g := fun g hg => by show (if g = e then d else w g) * 64 + g = w g * 64 + g; rw [if_neg hg]
  unfold wp_X2_reweigh
  rw [e_holds H I he]
  by_cases hF : F e
  · rw [bI_t hF, mb_f (by decide)]
    refine s_findReplacement H I hF (fun V1 x hfr hl => ?_)
    have H1 : GV V1 n k a b w pr := GV_fr H (hfr 1 (by omega)) (hfr 3 (by omega)) (hfr 4 (by omega)) (hfr 5 (by omega)) (hfr 6 (by omega))
    have I1 : FV V1 k a b w F := FV_fr2 I (fun c hc => hfr c (by omega))
    refine s_cut H1 I1 hF (fun V2 hf2 I2 => ?_)
    have H2 : GV V2 n k a b w pr := GV_fr H1 (hf2 1 (by omega)) (hf2 3 (by omega)) (hf2 4 (by omega)) (hf2 5 (by omega)) (hf2 6 (by omega))
    rw [e_putWeight H2 he]
    have H3 := GV_rw (e := e) H2 hd
    have I3 := FV_w (w' := fun g => if g = e then d else w g) (FV_wr (c := 5) (j := e) (x := nI d) I2 (by omega)) (fun g q => if_neg q.2)
    have fr3 : ∀ c, c < 5 ∨ c = 6 ∨ 34 < c → (wr V2 5 e (nI d)) c = V c := fun c hc => by rw [wr_ne _ _ _ (by omega), hf2 c (by omega), hfr c (by omega)]
    -- the edge that comes out first joins the two sides again
    have fin : ∀ m, m < k → pr m → ¬ (sd a b F e (a m) ↔ sd a b F e (b m)) → ¬ (F m ∧ m ≠ e) → (∀ g, pr g → ¬ (sd a b F e (a g) ↔ sd a b F e (b g)) → ky (fun g => if g = e then d else w g) m ≤ ky (fun g => if g = e then d else w g) g) → wp_X0_link (wr V2 5 e (nI d)) (nI m) pos := fun m hm hpm hX hnm hmin => by
      have hM2 := msf_repl (K' := ky (fun g => if g = e then d else w g)) (pr' := pr) (m := m) (fun x y hx hy => ky_inj (by have := GV_pk H x hx; omega) (by have := GV_pk H y hy; omega)) hM hF hKg (fun g q => q) (fun g q _ => q) hpm hX hmin
      refine s_link H3 I3 hm hnm hM2.2.1 (fun V4 hf4 I4 => ?_)
      have H4 := GV_fr H3 (hf4 1 (by omega)) (hf4 3 (by omega)) (hf4 4 (by omega)) (hf4 5 (by omega)) (hf4 6 (by omega))
      exact h V4 _ (fun c hc => by rw [hf4 c (by omega), fr3 c hc]) H4 I4 hM2
    have hXe : ¬ (sd a b F e (a e) ↔ sd a b F e (b e)) := fun q => FV_ac I e hF (q.mp (cn_refl _ _))
    rcases hl with ⟨q1, q2⟩ | ⟨m, q1, q2, q3, q4⟩
    · rw [q1, e_comesBeforeN H3 he, mb_f (by decide)]
      refine fin e he hpr hXe (fun z => z.2 rfl) (fun g hg hX => ?_)
      by_cases hge : g = e
      · rw [hge]; exact Nat.le_refl _
      · exact absurd ⟨hge, hg, hX⟩ (q2 g (GV_pk H g hg))
    · rw [q3, e_comesBefore H3 he q1]
      have q5 : ∀ g, pr g → g ≠ e → ¬ (sd a b F e (a g) ↔ sd a b F e (b g)) → ky (fun g => if g = e then d else w g) m ≤ ky (fun g => if g = e then d else w g) g := fun g hg hge hX => by
        rw [hKg g hge, hKg m q2.1]
        exact q4 g (GV_pk H g hg) ⟨hge, hg, hX⟩
      by_cases hK : ky (fun g => if g = e then d else w g) e < ky (fun g => if g = e then d else w g) m
      · rw [bI_t hK, mb_f (by decide)]
        refine fin e he hpr hXe (fun z => z.2 rfl) (fun g hg hX => ?_)
        by_cases hge : g = e
        · rw [hge]; exact Nat.le_refl _
        · have := q5 g hg hge hX; omega
      · rw [bI_f hK, mb_t rfl]
        refine fin m q1 q2.2.1 q2.2.2 (rv_ne q2) (fun g hg hX => ?_)
        by_cases hge : g = e
        · rw [hge]; omega
        · exact q5 g hg hge hX
  · rw [bI_f hF, mb_t rfl, e_putWeight H he]
    have H3 := GV_rw (e := e) H hd
    have I3 := FV_w (w' := fun g => if g = e then d else w g) (FV_wr (c := 5) (j := e) (x := nI d) I (by omega)) (fun g q => if_neg (fun z => hF (by rw [← z]; exact q)))
    have hM3 : msf a b (ky (fun g => if g = e then d else w g)) (fun g => pr g ∧ g ≠ e) F := msf_key (fun g q => hKg g q.2) (msf_drop hM hF)
    refine s_admit H3 I3 he hF hM3 (fun g => ⟨fun q => (Classical.em (g = e)).elim Or.inr (fun z => Or.inl ⟨q, z⟩), fun q => q.elim (fun z => z.1) (fun z => by rw [z]; exact hpr)⟩) (fun V' F' hf hI hM' => ?_)
    exact h V' F' (fun c hc => by rw [hf c (by omega), wr_ne _ _ _ (by omega)]) (GV_fr H3 (hf 1 (by omega)) (hf 3 (by omega)) (hf 4 (by omega)) (hf 5 (by omega)) (hf 6 (by omega))) hI hM'
end KEEP
