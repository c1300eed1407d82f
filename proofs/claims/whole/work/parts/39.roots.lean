section ROOTS
def RP (V : Mm) (n r cnt : Nat) (ord par dep : Nat → Nat) (R : Nat → Prop) : Prop := (V 57 17 = nI cnt) ∧ (∀ i, i < cnt → V 71 i = nI (ord i)) ∧ (∀ v, R v → V 68 v = nI (dep v)) ∧ (∀ v, v < n → ¬ R v → V 67 v = -2) ∧ (∀ v, R v → v ≠ r → V 67 v = nI (par v)) ∧ (V 67 r = -1)
theorem RP_c {V : Mm} {n r cnt : Nat} {ord par dep : Nat → Nat} {R : Nat → Prop} (h : RP V n r cnt ord par dep R) : V 57 17 = nI cnt := h.1
theorem RP_o {V : Mm} {n r cnt : Nat} {ord par dep : Nat → Nat} {R : Nat → Prop} (h : RP V n r cnt ord par dep R) : ∀ i, i < cnt → V 71 i = nI (ord i) := h.2.1
theorem RP_y {V : Mm} {n r cnt : Nat} {ord par dep : Nat → Nat} {R : Nat → Prop} (h : RP V n r cnt ord par dep R) : ∀ v, R v → V 68 v = nI (dep v) := h.2.2.1
theorem RP_z {V : Mm} {n r cnt : Nat} {ord par dep : Nat → Nat} {R : Nat → Prop} (h : RP V n r cnt ord par dep R) : ∀ v, v < n → ¬ R v → V 67 v = -2 := h.2.2.2.1
theorem RP_p {V : Mm} {n r cnt : Nat} {ord par dep : Nat → Nat} {R : Nat → Prop} (h : RP V n r cnt ord par dep R) : ∀ v, R v → v ≠ r → V 67 v = nI (par v) := h.2.2.2.2.1
theorem RP_r {V : Mm} {n r cnt : Nat} {ord par dep : Nat → Nat} {R : Nat → Prop} (h : RP V n r cnt ord par dep R) : V 67 r = -1 := h.2.2.2.2.2
def RFr (V0 V : Mm) : Prop := (∀ c, c ≠ 57 → c < 67 ∨ 71 < c → V c = V0 c) ∧ (∀ j, j ≠ 17 → V 57 j = V0 57 j)
theorem RFr_f {V0 V : Mm} (h : RFr V0 V) : ∀ c, c ≠ 57 → c < 67 ∨ 71 < c → V c = V0 c := h.1
theorem RFr_g {V0 V : Mm} (h : RFr V0 V) : ∀ j, j ≠ 17 → V 57 j = V0 57 j := h.2
def RT (V : Mm) (n : Nat) (a b : Nat → Nat) (S : Nat → Prop) (r cnt : Nat) (ord par dep pe : Nat → Nat) (R : Nat → Prop) : Prop := (rt a b S r R par dep pe) ∧ (BF n a b S r cnt ord par dep pe R) ∧ (RP V n r cnt ord par dep R) ∧ (∀ v, R v → V 69 v = nI (sz R par dep n v)) ∧ (∀ v, R v → hvD R r par (sz R par dep n) (fun _ => True) v (V 70 v))
theorem RT_rt {V : Mm} {n : Nat} {a b : Nat → Nat} {S : Nat → Prop} {r cnt : Nat} {ord par dep pe : Nat → Nat} {R : Nat → Prop} (h : RT V n a b S r cnt ord par dep pe R) : rt a b S r R par dep pe := h.1
theorem RT_bf {V : Mm} {n : Nat} {a b : Nat → Nat} {S : Nat → Prop} {r cnt : Nat} {ord par dep pe : Nat → Nat} {R : Nat → Prop} (h : RT V n a b S r cnt ord par dep pe R) : BF n a b S r cnt ord par dep pe R := h.2.1
theorem RT_rp {V : Mm} {n : Nat} {a b : Nat → Nat} {S : Nat → Prop} {r cnt : Nat} {ord par dep pe : Nat → Nat} {R : Nat → Prop} (h : RT V n a b S r cnt ord par dep pe R) : RP V n r cnt ord par dep R := h.2.2.1
theorem RT_z {V : Mm} {n : Nat} {a b : Nat → Nat} {S : Nat → Prop} {r cnt : Nat} {ord par dep pe : Nat → Nat} {R : Nat → Prop} (h : RT V n a b S r cnt ord par dep pe R) : ∀ v, R v → V 69 v = nI (sz R par dep n v) := h.2.2.2.1
theorem RT_h {V : Mm} {n : Nat} {a b : Nat → Nat} {S : Nat → Prop} {r cnt : Nat} {ord par dep pe : Nat → Nat} {R : Nat → Prop} (h : RT V n a b S r cnt ord par dep pe R) : ∀ v, R v → hvD R r par (sz R par dep n) (fun _ => True) v (V 70 v) := h.2.2.2.2
def QI (V0 V : Mm) (n : Nat) (a b : Nat → Nat) (S : Nat → Prop) (r p o : Nat) : Prop := (RFr V0 V) ∧ (V 69 = V0 69 ∧ V 70 = V0 70) ∧ (∃ (cnt : Nat) (ord par dep pe : Nat → Nat) (R : Nat → Prop), BF n a b S r cnt ord par dep pe R ∧ RP V n r cnt ord par dep R ∧ p < cnt ∧ (∀ i, i < cnt → dep (ord i) ≤ dep (ord p) + 1) ∧ (∀ i, i < p → ∀ e, S e → ∀ x, jn a b e (ord i) x → R x) ∧ (∀ e, e < o → S e → ∀ x, jn a b e (ord p) x → R x))
theorem QI_fr {V0 V : Mm} {n : Nat} {a b : Nat → Nat} {S : Nat → Prop} {r p o : Nat} (h : QI V0 V n a b S r p o) : RFr V0 V := h.1
theorem QI_s {V0 V : Mm} {n : Nat} {a b : Nat → Nat} {S : Nat → Prop} {r p o : Nat} (h : QI V0 V n a b S r p o) : V 69 = V0 69 ∧ V 70 = V0 70 := h.2.1
theorem QI_ex {V0 V : Mm} {n : Nat} {a b : Nat → Nat} {S : Nat → Prop} {r p o : Nat} (h : QI V0 V n a b S r p o) : ∃ (cnt : Nat) (ord par dep pe : Nat → Nat) (R : Nat → Prop), BF n a b S r cnt ord par dep pe R ∧ RP V n r cnt ord par dep R ∧ p < cnt ∧ (∀ i, i < cnt → dep (ord i) ≤ dep (ord p) + 1) ∧ (∀ i, i < p → ∀ e, S e → ∀ x, jn a b e (ord i) x → R x) ∧ (∀ e, e < o → S e → ∀ x, jn a b e (ord p) x → R x) := h.2.2
def QO (V0 V : Mm) (n : Nat) (a b : Nat → Nat) (S : Nat → Prop) (r p : Nat) : Prop := (RFr V0 V) ∧ (V 69 = V0 69 ∧ V 70 = V0 70) ∧ (∃ (cnt : Nat) (ord par dep pe : Nat → Nat) (R : Nat → Prop), BF n a b S r cnt ord par dep pe R ∧ RP V n r cnt ord par dep R ∧ p ≤ cnt ∧ (p < cnt → ∀ i, i < cnt → dep (ord i) ≤ dep (ord p) + 1) ∧ (∀ i, i < p → ∀ e, S e → ∀ x, jn a b e (ord i) x → R x))
theorem QO_fr {V0 V : Mm} {n : Nat} {a b : Nat → Nat} {S : Nat → Prop} {r p : Nat} (h : QO V0 V n a b S r p) : RFr V0 V := h.1
theorem QO_s {V0 V : Mm} {n : Nat} {a b : Nat → Nat} {S : Nat → Prop} {r p : Nat} (h : QO V0 V n a b S r p) : V 69 = V0 69 ∧ V 70 = V0 70 := h.2.1
theorem QO_ex {V0 V : Mm} {n : Nat} {a b : Nat → Nat} {S : Nat → Prop} {r p : Nat} (h : QO V0 V n a b S r p) : ∃ (cnt : Nat) (ord par dep pe : Nat → Nat) (R : Nat → Prop), BF n a b S r cnt ord par dep pe R ∧ RP V n r cnt ord par dep R ∧ p ≤ cnt ∧ (p < cnt → ∀ i, i < cnt → dep (ord i) ≤ dep (ord p) + 1) ∧ (∀ i, i < p → ∀ e, S e → ∀ x, jn a b e (ord i) x → R x) := h.2.2
variable {n k : Nat} {a b w : Nat → Nat} {pr F S : Nat → Prop} {V V0 V1 : Mm} {post : Int32 → Mm → Prop} {pos : Mm → Prop} {kx : Mm → Int32 → Prop} {u v e f p m i q r cnt : Nat} {ms x y : Int32} {ord par dep pe : Nat → Nat} {R : Nat → Prop}
theorem RG_rf (H : RG V0 n k a b w pr) (h : RFr V0 V) : RG V n k a b w pr := RG_fr H (RFr_g h 9 (by decide)) (RFr_g h 10 (by decide)) (RFr_f h 59 (by decide) (by decide)) (RFr_f h 60 (by decide) (by decide)) (RFr_f h 61 (by decide) (by decide)) (RFr_f h 64 (by decide) (by decide))
theorem f_bfs_in (H0 : RG V0 n k a b w pr) (hF : ∀ e, e < k → V0 65 e = bI (F e)) (hFk : ∀ e, F e → e < k) (hk : ∀ V, QI V0 V n a b F r p k → kx V (nI k)) (hp : p < 20) : ∀ f o, o + f = k → ∀ V, QI V0 V n a b F r p o → wp_X9_roots_L76 (nI p) pos kx (f + 1) V (nI o) := by
  have h20 := RG_n20 H0
  have h60 := RG_k60 H0
  intro f
  induction f with
  | zero =>
    intro o ho V hV
    have : o = k := by omega
    subst this
    rw [wp_X9_roots_L76, RG_k (RG_rf H0 (QI_fr hV)), mb_t (Int32.le_refl _)]
    exact hk V hV
  | succ f ih =>
    intro o ho V hV
    have hok : o < k := by omega
    have H := RG_rf H0 (QI_fr hV)
    obtain ⟨cnt, ord, par, dep, pe, R, hbf, hrp, hpc, hq, hc1, hc2⟩ := QI_ex hV
    have hop := BF_lt hbf p hpc
    have hRp := BF_Ro hbf hpc
    have ha := RG_an H0 o hok
    have hb := RG_bn H0 o hok
    have hab := RG_ab H0 o hok
    have hdp := BF_dlt hbf hRp
    have f65 : V 65 o = bI (F o) := by rw [RFr_f (QI_fr hV) 65 (by decide) (by decide), hF o hok]
    have f71 : V 71 p = nI (ord p) := RP_o hrp p hpc
    have f68 : V 68 (ord p) = nI (dep (ord p)) := RP_y hrp _ hRp
    have skip : (F o → ∀ x, jn a b o (ord p) x → R x) → wp_X9_roots_L76 (nI p) pos kx (f + 1) V (nI (o + 1)) := fun hs =>
      ih (o + 1) (by omega) V ⟨QI_fr hV, QI_s hV, cnt, ord, par, dep, pe, R, hbf, hrp, hpc, hq, hc1, fun e he hFe x hj => by
        rcases lt_or_eq1 he with q | q
        · exact hc2 e q hFe x hj
        · rw [q] at hj hFe; exact hs hFe x hj⟩
    -- the new vertex
    have take : ∀ t, t < n → F o → jn a b o t (ord p) → (∀ x, jn a b o (ord p) x → x = t) → ¬ R t → cnt < 20 ∧ wp_X9_roots_L76 (nI p) pos kx (f + 1) (wr (wr (wr (wr V 67 t (nI (ord p))) 68 t (nI (dep (ord p) + 1))) 71 cnt (nI t)) 57 17 (nI (cnt + 1))) (nI (o + 1)) := by
      intro t ht hFo hj hun hR
      have hcn := BF_lt1 hbf ht hR
      refine ⟨by omega, ?_⟩
      obtain ⟨hb1, hb2⟩ := BF_add hbf (ord' := fun i => if i = cnt then t else ord i) (par' := fun i => if i = t then ord p else par i) (dep' := fun i => if i = t then dep (ord p) + 1 else dep i) (pe' := fun i => if i = t then o else pe i) (R' := fun i => R i ∨ i = t) hpc hq ht hR (e := o) hFo hj (fun i hi => if_neg (by omega)) (if_pos rfl) (fun y hy => if_neg hy) (if_pos rfl) (fun y hy => if_neg hy) (if_pos rfl) (fun y hy => if_neg hy) (if_pos rfl) (fun y => Iff.rfl)
      have hRt : ∀ y, R y → y ≠ t := fun y hy q => hR (by rw [← q]; exact hy)
      have hrt := hRt r (BF_Rr hbf)
      refine ih (o + 1) (by omega) _ ⟨⟨fun c h1 h2 => ?_, fun j hj2 => ?_⟩, ⟨?_, ?_⟩, cnt + 1, _, _, _, _, _, hb1, ⟨?_, fun i hi => ?_, fun y hy => ?_, fun y hy hyn => ?_, fun y hy hyr => ?_, ?_⟩, by omega, hb2, fun i hi g hg y hy => ?_, fun g hg hFg y hy => ?_⟩
      · rw [wr_ne _ _ _ h1, wr_ne _ _ _ (by omega), wr_ne _ _ _ (by omega), wr_ne _ _ _ (by omega), RFr_f (QI_fr hV) c h1 h2]
      · rw [wr_eq, upd_ne _ _ hj2, wr_ne _ _ _ (by decide), wr_ne _ _ _ (by decide), wr_ne _ _ _ (by decide), RFr_g (QI_fr hV) j hj2]
      · rw [wr_ne _ _ _ (by decide), wr_ne _ _ _ (by decide), wr_ne _ _ _ (by decide), wr_ne _ _ _ (by decide)]; exact (QI_s hV).1
      · rw [wr_ne _ _ _ (by decide), wr_ne _ _ _ (by decide), wr_ne _ _ _ (by decide), wr_ne _ _ _ (by decide)]; exact (QI_s hV).2
      · rw [wr_eq, upd_eq]
      · rw [wr_ne _ _ _ (by decide), wr_eq, upd_at]
        show _ = nI (if i = cnt then t else ord i)
        by_cases z : i = cnt
        · rw [if_pos z, if_pos z]
        · rw [if_neg z, if_neg z, wr_ne _ _ _ (by decide), wr_ne _ _ _ (by decide), RP_o hrp i (by omega)]
      · rw [wr_ne _ _ _ (by decide), wr_ne _ _ _ (by decide), wr_eq, upd_at]
        show _ = nI (if y = t then dep (ord p) + 1 else dep y)
        by_cases z : y = t
        · rw [if_pos z, if_pos z]
        · rw [if_neg z, if_neg z, wr_ne _ _ _ (by decide), RP_y hrp y (hy.elim id (fun q => absurd q z))]
      · rw [wr_ne _ _ _ (by decide), wr_ne _ _ _ (by decide), wr_ne _ _ _ (by decide), wr_eq, upd_ne _ _ (fun z => hyn (Or.inr z))]
        exact RP_z hrp y hy (fun z => hyn (Or.inl z))
      · rw [wr_ne _ _ _ (by decide), wr_ne _ _ _ (by decide), wr_ne _ _ _ (by decide), wr_eq, upd_at]
        show _ = nI (if y = t then ord p else par y)
        by_cases z : y = t
        · rw [if_pos z, if_pos z]
        · rw [if_neg z, if_neg z, RP_p hrp y (hy.elim id (fun q => absurd q z)) hyr]
      · rw [wr_ne _ _ _ (by decide), wr_ne _ _ _ (by decide), wr_ne _ _ _ (by decide), wr_eq, upd_ne _ _ hrt]
        exact RP_r hrp
      · have hy : jn a b g (if i = cnt then t else ord i) y := hy
        rw [if_neg (show ¬ i = cnt by omega)] at hy
        exact Or.inl (hc1 i hi g hg y hy)
      · have hy : jn a b g (if p = cnt then t else ord p) y := hy
        rw [if_neg (show ¬ p = cnt by omega)] at hy
        rcases lt_or_eq1 hg with z | z
        · exact Or.inl (hc2 g z hFg y hy)
        · rw [z] at hy; exact Or.inr (hun y hy)
    have go : ∀ t, t < n → F o → jn a b o t (ord p) → (∀ x, jn a b o (ord p) x → x = t) → ((V 67 t = -2 → cnt < 20 ∧ wp_X9_roots_L76 (nI p) pos kx (f + 1) (wr (wr (wr (wr V 67 t (nI (ord p))) 68 t (nI (dep (ord p) + 1))) 71 cnt (nI t)) 57 17 (nI (cnt + 1))) (nI (o + 1))) ∧ (¬ V 67 t = -2 → wp_X9_roots_L76 (nI p) pos kx (f + 1) V (nI (o + 1)))) := by
      intro t ht hFo hj hun
      by_cases hR : R t
      · refine ⟨fun z => ?_, fun _ => skip (fun _ x hx => by rw [hun x hx]; exact hR)⟩
        by_cases hr : t = r
        · rw [hr, RP_r hrp] at z; exact absurd z (by decide)
        · obtain ⟨g1, -⟩ := BF_st hbf t hR hr
          have := BF_Rlt hbf g1
          rw [RP_p hrp t hR hr] at z
          have z2 := congrArg Int32.toInt z
          rw [nI_toInt (by omega), show (-2 : Int32).toInt = -2 by decide] at z2
          omega
      · exact ⟨fun _ => take t ht hFo hj hun hR, fun z => absurd (RP_z hrp t ht hR) z⟩
    have hcn := BF_le hbf
    rw [wp_X9_roots_L76, RG_k H, mb_f (fun z => absurd ((nI_leI (by omega) (by omega)).mp z) (by omega)), nI_clamp (by omega), f65]
    refine ⟨nI_in (by omega) (by omega), ?_⟩
    by_cases hFo : F o
    · rw [bI_t hFo, mb_f (by decide), RG_a H o hok, RG_b H o hok, nI_clamp (by omega), f71, nI_1]
      refine ⟨nI_in (by omega) (by omega), nI_in (by omega) (by omega), ?_⟩
      by_cases h1 : a o = ord p
      · have hto : nI (a o) + nI (b o) - nI (ord p) = nI (b o) := by rw [nI_add, nI_sub (by omega)]; congr 1; omega
        have g := go (b o) hb hFo (Or.inr ⟨h1, rfl⟩) (fun x hx => by rcases hx with ⟨z1, z2⟩ | ⟨z1, z2⟩ <;> omega)
        rw [hto, mb_t (by rw [h1])]
        refine ⟨nI_in (by omega) (by omega), nI_in (by omega) (by omega), nI_in (by omega) (by omega), nI_in (by omega) (by omega), ?_⟩
        rw [nI_clamp (by omega)]
        refine ⟨fun z => ?_, fun z => g.2 z⟩
        obtain ⟨g1, g2⟩ := g.1 z
        simp (disch := omega) only [nI_inI, nI_clamp, wr_ne, wr_eq, upd_eq, f71, f68, nI_1, RP_c hrp, true_and, and_true, not_true_eq_false, not_false_eq_true, false_implies, true_implies, implies_true, forall_eq, false_and, and_false, or_false, false_or, or_true, true_or, iff_self, Classical.not_not, forall_const, ite_true, ite_false, reduceIte, eq_self, ne_eq, Nat.reduceEqDiff]
        exact g2
      · rw [mb_f (fun z => h1 ((nI_eq (by omega) (by omega)).mp z))]
        refine ⟨nI_in (by omega) (by omega), nI_in (by omega) (by omega), ?_⟩
        by_cases h2 : b o = ord p
        · have hto : nI (a o) + nI (b o) - nI (ord p) = nI (a o) := by rw [nI_add, nI_sub (by omega)]; congr 1; omega
          have g := go (a o) ha hFo (Or.inl ⟨rfl, h2⟩) (fun x hx => by rcases hx with ⟨z1, z2⟩ | ⟨z1, z2⟩ <;> omega)
          rw [hto, mb_t (by rw [h2])]
          refine ⟨nI_in (by omega) (by omega), nI_in (by omega) (by omega), nI_in (by omega) (by omega), nI_in (by omega) (by omega), ?_⟩
          rw [nI_clamp (by omega)]
          refine ⟨fun z => ?_, fun z => g.2 z⟩
          obtain ⟨g1, g2⟩ := g.1 z
          simp (disch := omega) only [nI_inI, nI_clamp, wr_ne, wr_eq, upd_eq, f71, f68, nI_1, RP_c hrp, true_and, and_true, not_true_eq_false, not_false_eq_true, false_implies, true_implies, implies_true, forall_eq, false_and, and_false, or_false, false_or, or_true, true_or, iff_self, Classical.not_not, forall_const, ite_true, ite_false, reduceIte, eq_self, ne_eq, Nat.reduceEqDiff]
          exact g2
        · rw [mb_f (fun z => h2 ((nI_eq (by omega) (by omega)).mp z))]
          exact skip (fun _ x hx => by rcases hx with ⟨z1, z2⟩ | ⟨z1, z2⟩ <;> omega)
    · rw [bI_f hFo, mb_t rfl, nI_1]
      exact skip (fun z => absurd z hFo)
theorem f_bfs_out (H0 : RG V0 n k a b w pr) (hF : ∀ e, e < k → V0 65 e = bI (F e)) (hFk : ∀ e, F e → e < k) (hk : ∀ V x, RFr V0 V → V 69 = V0 69 ∧ V 70 = V0 70 → ∀ cnt ord par dep pe R, rt a b F r R par dep pe → BF n a b F r cnt ord par dep pe R → RP V n r cnt ord par dep R → kx V x) : ∀ f p, p + f = 20 → ∀ V, QO V0 V n a b F r p → wp_X9_roots_L66 pos kx (f + 1) V (nI p) := by
  have h20 := RG_n20 H0
  have h60 := RG_k60 H0
  intro f
  induction f with
  | zero =>
    intro p hp V hV
    have : p = 20 := by omega
    subst this
    obtain ⟨cnt, ord, par, dep, pe, R, hbf, hrp, hpc, hq, hc1⟩ := QO_ex hV
    have hcn := BF_le hbf
    rw [wp_X9_roots_L66, RP_c hrp, mb_t ((nI_leI (by omega) (by omega)).mpr (by omega))]
    exact hk V _ (QO_fr hV) (QO_s hV) cnt ord par dep pe R (BF_fin hbf (fun i hi => hc1 i (by omega))) hbf hrp
  | succ f ih =>
    intro p hp V hV
    obtain ⟨cnt, ord, par, dep, pe, R, hbf, hrp, hpc, hq, hc1⟩ := QO_ex hV
    have hcn := BF_le hbf
    rw [wp_X9_roots_L66, RP_c hrp]
    by_cases hpp : cnt ≤ p
    · rw [mb_t ((nI_leI (by omega) (by omega)).mpr hpp)]
      exact hk V _ (QO_fr hV) (QO_s hV) cnt ord par dep pe R (BF_fin hbf (fun i hi => hc1 i (by omega))) hbf hrp
    · rw [mb_f (fun z => hpp ((nI_leI (by omega) (by omega)).mp z))]
      refine ⟨k + 1, f_bfs_in H0 hF hFk (fun V2 hV2 => ?_) (by omega) k 0 (by omega) V ⟨QO_fr hV, QO_s hV, cnt, ord, par, dep, pe, R, hbf, hrp, by omega, hq (by omega), hc1, fun e he => absurd he (Nat.not_lt_zero _)⟩⟩
      rw [nI_1]
      refine ih (p + 1) (by omega) V2 ⟨QI_fr hV2, QI_s hV2, ?_⟩
      obtain ⟨cnt, ord, par, dep, pe, R, hbf, hrp, hpc, hq, hc1, hc2⟩ := QI_ex hV2
      refine ⟨cnt, ord, par, dep, pe, R, hbf, hrp, hpc, fun z i hi => ?_, fun i hi e he x hx => ?_⟩
      · have := hq i hi
        have := BF_mo hbf p (p + 1) (by omega) z
        omega
      · rcases Nat.lt_or_ge i p with q | q
        · exact hc1 i q e he x hx
        · have : i = p := by omega
          subst this
          exact hc2 e (hFk e he) he x hx
theorem RP_fr {V V' : Mm} (h : RP V n r cnt ord par dep R) (h1 : V' 57 = V 57) (h2 : V' 67 = V 67) (h3 : V' 68 = V 68) (h4 : V' 71 = V 71) : RP V' n r cnt ord par dep R := by
  unfold RP; rw [h1, h2, h3, h4]; exact h
theorem BF_aft (ht : rt a b S r R par dep pe) (hb : BF n a b S r cnt ord par dep pe R) (i v : Nat) (hv : chd R r par (ord i) v) (hi : i < cnt) : ∃ j, i < j ∧ j < cnt ∧ ord j = v := by
  obtain ⟨j, h1, h2⟩ := (BF_im hb v).mp hv.1
  have hd := (chd_dep ht hv).2
  rcases Nat.lt_or_ge i j with q | q
  · exact ⟨j, q, h1, h2⟩
  · have := BF_mo hb j i q hi
    rw [h2] at this; omega
theorem f_sizes (h20 : n ≤ 20) (ht : rt a b S r R par dep pe) (hb : BF n a b S r cnt ord par dep pe R) (hrp : RP V0 n r cnt ord par dep R) (h : ∀ V' : Mm, (∀ c, c ≠ 69 → V' c = V0 c) → (∀ v, R v → V' 69 v = nI (sz R par dep n v)) → kx V' (nI 0)) : ∀ i (V : Mm), i < cnt → (∀ c, c ≠ 69 → V c = V0 c) → (∀ v, R v → V 69 v = sm (pst R r par dep (fun c => ∃ j, i < j ∧ j < cnt ∧ ord j = c) v) (fun _ => 1) n) → wp_X9_roots_L236 pos kx (i + 1) V (nI i) := by
  have hcn := BF_le hb
  intro i
  induction i with
  | zero =>
    intro V hi hf hz
    rw [wp_X9_roots_L236, mb_t (show nI 0 ≤ 0 by decide)]
    refine h V hf (fun v hv => ?_)
    rw [hz v hv, sm_congr (q := bel R par dep v) (g' := fun _ => 1) (fun x _ => pst_all ht (fun c hc => ?_) x) (fun _ _ _ => rfl), sm_one]
    · rfl
    · obtain ⟨j, h1, h2⟩ := (BF_im hb c).mp hc.1
      refine ⟨j, ?_, h1, h2⟩
      rcases Nat.eq_zero_or_pos j with q | q
      · exact absurd (by rw [← h2, q]; exact (BF_o0 hb).2) hc.2.1
      · exact q
  | succ i ih =>
    intro V hi hf hz
    have hR := BF_Ro hb hi
    have hne : ord (i + 1) ≠ r := fun q => BF_inj hb 0 (i + 1) (by omega) hi (by rw [q]; exact (BF_o0 hb).2)
    obtain ⟨p1, p2, -⟩ := ht.2.2.1 _ hR hne
    have hcp : chd R r par (par (ord (i + 1))) (ord (i + 1)) := ⟨hR, hne, rfl⟩
    have l1 := BF_Rlt hb hR
    have l2 := BF_Rlt hb p1
    have f71 : V 71 (i + 1) = nI (ord (i + 1)) := by rw [hf 71 (by decide), RP_o hrp _ hi]
    have f67 : V 67 (ord (i + 1)) = nI (par (ord (i + 1))) := by rw [hf 67 (by decide), RP_p hrp _ hR hne]
    rw [wp_X9_roots_L236, mb_f (nI_nle (by omega) (by omega)), nI_clamp (by omega), f71, nI_clamp (by omega), f67, nI_clamp (by omega), forall_eq, show (-1 : Int32) = -(1 : Int32) from rfl, ← Int32.sub_eq_add_neg, nI_pred]
    refine ⟨nI_in (by omega) (by omega), nI_in (by omega) (by omega), nI_in (by omega) (by omega), nI_in (by omega) (by omega), nI_in (by omega) (by omega), nI_in (by omega) (by omega), ih _ (by omega) (fun c hc => by rw [wr_ne _ _ _ hc, hf c hc]) (fun v hv => ?_)⟩
    have hn : ¬ ∃ j, i + 1 < j ∧ j < cnt ∧ ord j = ord (i + 1) := fun ⟨j, h1, h2, h3⟩ => BF_inj hb (i + 1) j h1 h2 h3.symm
    have hD : ∀ y, (∃ j, i < j ∧ j < cnt ∧ ord j = y) ↔ (∃ j, i + 1 < j ∧ j < cnt ∧ ord j = y) ∨ y = ord (i + 1) := fun y => ⟨fun ⟨j, h1, h2, h3⟩ => by
      rcases Nat.lt_or_ge (i + 1) j with q | q
      · exact Or.inl ⟨j, q, h2, h3⟩
      · right; rw [← h3, show j = i + 1 by omega], fun q => q.elim (fun ⟨j, h1, h2, h3⟩ => ⟨j, by omega, h2, h3⟩) (fun q => ⟨i + 1, by omega, hi, q.symm⟩)⟩
    rw [wr_eq, upd_at]
    by_cases q : v = par (ord (i + 1))
    · rw [if_pos q, q, sm_or (p := pst R r par dep (fun c => ∃ j, i + 1 < j ∧ j < cnt ∧ ord j = c) (par (ord (i + 1)))) (q := bel R par dep (ord (i + 1))) (fun x _ => (pst_add ht hcp hn hD x).1) (fun x _ => (pst_add ht hcp hn hD x).2), hz _ p1, hz _ hR]
      congr 1
      exact sm_congr (fun x _ => pst_all ht (fun c hc => BF_aft ht hb _ c hc hi) x) (fun _ _ _ => rfl)
    · rw [if_neg q, hz v hv]
      exact sm_congr (fun x _ => (pst_off hcp q hD x).symm) (fun _ _ _ => rfl)
theorem f_heavies (h20 : n ≤ 20) (hn : V0 57 9 = nI n) (ht : rt a b S r R par dep pe) (hb : BF n a b S r cnt ord par dep pe R) (hrp : RP V0 n r cnt ord par dep R) (hz : ∀ v, R v → V0 69 v = nI (sz R par dep n v)) (h : ∀ V' : Mm, (∀ c, c ≠ 70 → V' c = V0 c) → (∀ v, R v → hvD R r par (sz R par dep n) (fun _ => True) v (V' 70 v)) → kx V' (nI n)) : ∀ f i (V : Mm), i + f = n → (∀ c, c ≠ 70 → V c = V0 c) → (∀ v, R v → hvD R r par (sz R par dep n) (fun c => c < i) v (V 70 v)) → wp_X9_roots_L278 pos kx (f + 1) V (nI i) := by
  intro f
  induction f with
  | zero =>
    intro i V hi hf hh
    have : i = n := by omega
    subst this
    rw [wp_X9_roots_L278, hf 57 (by decide), hn, mb_t (Int32.le_refl _)]
    refine h V hf (fun v hv => ?_)
    rcases hh v hv with ⟨q1, q2⟩ | ⟨c, q1, q2, q3, q4⟩
    · exact Or.inl ⟨q1, fun c hc _ => q2 c hc (BF_Rlt hb hc.1)⟩
    · exact Or.inr ⟨c, q1, trivial, q3, fun d hd _ => q4 d hd (BF_Rlt hb hd.1)⟩
  | succ f ih =>
    intro i V hi hf hh
    have hin : i < n := by omega
    have hD : ∀ y : Nat, y < i + 1 ↔ y < i ∨ y = i := fun y => by omega
    have skip : (∀ v, ¬ chd R r par v i) → wp_X9_roots_L278 pos kx (f + 1) V (nI (i + 1)) := fun hno => by
      refine ih (i + 1) V (by omega) hf (fun v hv => ?_)
      rcases hh v hv with ⟨q1, q2⟩ | ⟨c, q1, q2, q3, q4⟩
      · exact Or.inl ⟨q1, fun c hc z => ((hD c).mp z).elim (q2 c hc) (fun z => hno v (by rw [← z]; exact hc))⟩
      · exact Or.inr ⟨c, q1, by omega, q3, fun d hd z => ((hD d).mp z).elim (q4 d hd) (fun z => absurd (by rw [← z]; exact hd) (hno v))⟩
    rw [wp_X9_roots_L278, hf 57 (by decide), hn, mb_f (fun z => absurd ((nI_leI (by omega) (by omega)).mp z) (by omega)), nI_clamp (by omega), hf 67 (by decide), nI_1]
    refine ⟨nI_in (by omega) (by omega), ?_⟩
    by_cases hR : R i
    · by_cases hr : i = r
      · rw [hr, RP_r hrp, mb_f (by decide), ← hr]
        exact skip (fun v hc => hc.2.1 hr)
      · obtain ⟨p1, p2, -⟩ := ht.2.2.1 i hR hr
        have hcp : chd R r par (par i) i := ⟨hR, hr, rfl⟩
        have l2 := BF_Rlt hb p1
        have s1 := sz_le (R := R) (par := par) (dep := dep) (n := n) (v := i)
        rw [RP_p hrp i hR hr, mb_t (nI_pos' (by omega)), nI_clamp (by omega)]
        refine ⟨nI_in (by omega) (by omega), nI_in (by omega) (by omega), ?_⟩
        have take : (∀ d, chd R r par (par i) d → d < i → sz R par dep n d < sz R par dep n i ∨ (sz R par dep n d = sz R par dep n i ∧ i ≤ d)) → wp_X9_roots_L278 pos kx (f + 1) (wr V 70 (par i) (nI i)) (nI (i + 1)) := fun hm => by
          refine ih (i + 1) _ (by omega) (fun c hc => by rw [wr_ne _ _ _ hc, hf c hc]) (fun v hv => ?_)
          rw [wr_eq, upd_at]
          by_cases q : v = par i
          · rw [if_pos q, q]
            exact Or.inr ⟨i, hcp, by omega, rfl, fun d hd z => ((hD d).mp z).elim (hm d hd) (fun z => by rw [z]; exact Or.inr ⟨rfl, Nat.le_refl _⟩)⟩
          · rw [if_neg q]; exact hvD_off hcp q hD (hh v hv)
        rcases hh _ p1 with ⟨q1, q2⟩ | ⟨c, q1, q2, q3, q4⟩
        · rw [q1, mb_t (by decide), forall_eq]
          exact ⟨nI_in (by omega) (by omega), take (fun d hd z => absurd z (q2 d hd))⟩
        · have l3 := BF_Rlt hb q1.1
          have s2 := sz_le (R := R) (par := par) (dep := dep) (n := n) (v := c)
          rw [q3, mb_f (nI_pos (by omega)), nI_clamp (by omega), hf 69 (by decide), hz i hR, hz c q1.1, forall_eq]
          refine ⟨nI_in (by omega) (by omega), nI_in (by omega) (by omega), nI_in (by omega) (by omega), fun z => ?_, fun z => ⟨nI_in (by omega) (by omega), ?_⟩⟩
          · have z := (nI_leI (by omega) (by omega)).mp z
            refine ih (i + 1) V (by omega) hf (fun v hv => ?_)
            by_cases q : v = par i
            · rw [q, q3]
              exact Or.inr ⟨c, q1, by omega, rfl, fun d hd y => ((hD d).mp y).elim (q4 d hd) (fun y => by rw [y]; omega)⟩
            · exact hvD_off hcp q hD (hh v hv)
          · have z : ¬ sz R par dep n i ≤ sz R par dep n c := fun y => z ((nI_leI (by omega) (by omega)).mpr y)
            exact take (fun d hd y => by have := q4 d hd y; omega)
    · rw [RP_z hrp i hin hR, mb_f (by decide)]
      exact skip (fun v hc => hR hc.1)
theorem f_roots (H0 : RG V0 n k a b w pr) (hF : ∀ e, e < k → V0 65 e = bI (F e)) (hFk : ∀ e, F e → e < k) (hr : r < n) (h : ∀ V : Mm, RFr V0 V → ∀ cnt ord par dep pe R, RT V n a b F r cnt ord par dep pe R → pos V) : wp_X9_roots V0 (nI r) pos := by
  have h20 := RG_n20 H0
  have ini : ∀ f i (V : Mm), i + f = n → (∀ c, c ≠ 67 → c ≠ 69 → c ≠ 70 → V c = V0 c) → (∀ v, v < i → V 67 v = -2 ∧ V 69 v = 1 ∧ V 70 v = -1) → wp_X9_roots_L2 (nI r) pos (fun (V5 : Mm) (x6 : Int32) => (vp_in (nI r) 20 ∧ ∀ V7 : Mm, V7 = wr V5 67 (Int32.toNatClampNeg (nI r)) (-1) → (vp_in (nI r) 20 ∧ ∀ V8 : Mm, V8 = wr V7 68 (Int32.toNatClampNeg (nI r)) 0 → (vp_in 0 20 ∧ ∀ V9 : Mm, V9 = wr V8 71 (Int32.toNatClampNeg (0)) (nI r) → (∀ V10 : Mm, V10 = wr V9 57 17 1 → (∃ m66 : Nat, wp_X9_roots_L66 pos (fun (V28 : Mm) (x29 : Int32) => (∃ m236 : Nat, wp_X9_roots_L236 pos (fun (V32 : Mm) (x33 : Int32) => (∃ m278 : Nat, wp_X9_roots_L278 pos (fun (V40 : Mm) (x41 : Int32) => pos V40) m278 (V32) (0))) m236 (V28) (((V28 57 17) - 1)))) m66 (V10) (0))))))) (f + 1) V (nI i) := by
    intro f
    induction f with
    | zero =>
      intro i V hi hf hv
      have : i = n := by omega
      subst this
      rw [wp_X9_roots_L2, hf 57 (by decide) (by decide) (by decide), RG_n H0, mb_t (Int32.le_refl _), nI_clamp (by omega), show Int32.toNatClampNeg 0 = 0 by decide]
      refine ⟨nI_in (by omega) (by omega), ?_⟩
      rw [forall_eq, forall_eq, forall_eq, forall_eq]
      refine ⟨nI_in (by omega) (by omega), by unfold vp_in; decide, 21, ?_⟩
      have HB : BF i a b F r 1 (fun _ => r) id (fun _ => 0) id (fun v => v = r) := BF_init hr rfl rfl (fun _ => Iff.rfl)
      refine f_bfs_out (V0 := wr (wr (wr (wr V 67 r (-1)) 68 r 0) 71 0 (nI r)) 57 17 1) (r := r) (RG_wr57 (RG_wr (RG_wr (RG_wr (RG_fr H0 (by rw [hf 57 (by decide) (by decide) (by decide)]) (by rw [hf 57 (by decide) (by decide) (by decide)]) (hf 59 (by decide) (by decide) (by decide)) (hf 60 (by decide) (by decide) (by decide)) (hf 61 (by decide) (by decide) (by decide)) (hf 64 (by decide) (by decide) (by decide))) (by decide)) (by decide)) (by decide)) (by decide)) (fun e he => ?_) hFk (fun V2 x hfr hs cnt ord par dep pe R ht hbf hrp => ?_) 20 0 (by omega) _ ⟨⟨fun _ _ _ => rfl, fun _ _ => rfl⟩, ⟨rfl, rfl⟩, 1, _, _, _, _, _, HB, ⟨?_, fun j hj => ?_, fun v hv2 => ?_, fun v hv2 hn2 => ?_, fun v hv2 hn2 => absurd hv2 hn2, ?_⟩, by omega, fun _ j hj => by show 0 ≤ 0 + 1; omega, fun j hj => absurd hj (Nat.not_lt_zero _)⟩
      · rw [wr_ne _ _ _ (by decide), wr_ne _ _ _ (by decide), wr_ne _ _ _ (by decide), wr_ne _ _ _ (by decide), hf 65 (by decide) (by decide) (by decide), hF e he]
      · have hc0 := (BF_o0 hbf).1
        have hcn := BF_le hbf
        have f69 : ∀ v, R v → V2 69 v = 1 := fun v hv2 => by rw [hs.1, wr_ne _ _ _ (by decide), wr_ne _ _ _ (by decide), wr_ne _ _ _ (by decide), wr_ne _ _ _ (by decide)]; exact (hv v (BF_Rlt hbf hv2)).2.1
        have f70 : ∀ v, R v → V2 70 v = -1 := fun v hv2 => by rw [hs.2, wr_ne _ _ _ (by decide), wr_ne _ _ _ (by decide), wr_ne _ _ _ (by decide), wr_ne _ _ _ (by decide)]; exact (hv v (BF_Rlt hbf hv2)).2.2
        have f9 : V2 57 9 = nI i := by rw [RFr_g hfr 9 (by decide), wr_eq, upd_ne _ _ (by decide), wr_ne _ _ _ (by decide), wr_ne _ _ _ (by decide), wr_ne _ _ _ (by decide), hf 57 (by decide) (by decide) (by decide), RG_n H0]
        rw [RP_c hrp, nI_sub1 hc0]
        refine ⟨cnt - 1 + 1, f_sizes h20 ht hbf hrp (fun V3 hf3 hz3 => ?_) (cnt - 1) V2 (by omega) (fun _ _ => rfl) (fun v hv2 => ?_)⟩
        · refine ⟨i + 1, f_heavies (V0 := V3) h20 (by rw [hf3 57 (by decide), f9]) ht hbf (RP_fr hrp (hf3 57 (by decide)) (hf3 67 (by decide)) (hf3 68 (by decide)) (hf3 71 (by decide))) hz3 (fun V4 hf4 hh4 => ?_) i 0 V3 (by omega) (fun _ _ => rfl) (fun v hv2 => Or.inl ⟨by rw [hf3 70 (by decide), f70 v hv2], fun c _ => Nat.not_lt_zero c⟩)⟩
          refine h V4 ⟨fun c h1 h2 => ?_, fun j hj => ?_⟩ cnt ord par dep pe R ⟨ht, hbf, RP_fr hrp (by rw [hf4 57 (by decide), hf3 57 (by decide)]) (by rw [hf4 67 (by decide), hf3 67 (by decide)]) (by rw [hf4 68 (by decide), hf3 68 (by decide)]) (by rw [hf4 71 (by decide), hf3 71 (by decide)]), fun v hv2 => by rw [hf4 69 (by decide), hz3 v hv2], hh4⟩
          · rw [hf4 c (by omega), hf3 c (by omega), RFr_f hfr c h1 h2, wr_ne _ _ _ h1, wr_ne _ _ _ (by omega), wr_ne _ _ _ (by omega), wr_ne _ _ _ (by omega), hf c (by omega) (by omega) (by omega)]
          · rw [hf4 57 (by decide), hf3 57 (by decide), RFr_g hfr j hj, wr_eq, upd_ne _ _ hj, wr_ne _ _ _ (by decide), wr_ne _ _ _ (by decide), wr_ne _ _ _ (by decide), hf 57 (by decide) (by decide) (by decide)]
        · rw [f69 v hv2, sm_congr (q := fun x => x = v) (g' := fun _ => 1) (fun x _ => pst_none hv2 (fun c _ ⟨j, h1, h2, _⟩ => by omega) x) (fun _ _ _ => rfl), sm_single (BF_Rlt hbf hv2)]
      · rw [wr_eq, upd_eq]; rfl
      · rw [wr_ne _ _ _ (by decide), wr_eq, show j = 0 by omega, upd_eq]
      · rw [wr_ne _ _ _ (by decide), wr_ne _ _ _ (by decide), wr_eq, hv2, upd_eq]; rfl
      · rw [wr_ne _ _ _ (by decide), wr_ne _ _ _ (by decide), wr_ne _ _ _ (by decide), wr_eq, upd_ne _ _ hn2]; exact (hv v hv2).1
      · rw [wr_ne _ _ _ (by decide), wr_ne _ _ _ (by decide), wr_ne _ _ _ (by decide), wr_eq, upd_eq]
    | succ f ih =>
      intro i V hi hf hv
      rw [wp_X9_roots_L2, hf 57 (by decide) (by decide) (by decide), RG_n H0, mb_f (fun z => absurd ((nI_leI (by omega) (by omega)).mp z) (by omega)), nI_clamp (by omega), forall_eq, forall_eq, forall_eq, nI_1]
      refine ⟨nI_in (by omega) (by omega), nI_in (by omega) (by omega), nI_in (by omega) (by omega), ih (i + 1) _ (by omega) (fun c h1 h2 h3 => by rw [wr_ne _ _ _ h3, wr_ne _ _ _ h2, wr_ne _ _ _ h1, hf c h1 h2 h3]) (fun v hv2 => ?_)⟩
      rw [wr_ne _ _ _ (show 67 ≠ 70 by decide), wr_ne _ _ _ (show 67 ≠ 69 by decide), wr_eq, wr_ne _ _ _ (show 69 ≠ 70 by decide), wr_eq, wr_ne _ _ _ (show 69 ≠ 67 by decide), wr_eq, wr_ne _ _ _ (show 70 ≠ 69 by decide), wr_ne _ _ _ (show 70 ≠ 67 by decide), upd_at, upd_at, upd_at]
      rcases lt_or_eq1 hv2 with q | q
      · rw [if_neg (by omega), if_neg (by omega), if_neg (by omega)]; exact hv v q
      · rw [if_pos q, if_pos q, if_pos q]; exact ⟨rfl, rfl, rfl⟩
  unfold wp_X9_roots
  exact ⟨n + 1, ini n 0 V0 (by omega) (fun _ _ _ _ => rfl) (fun v hv => absurd hv (Nat.not_lt_zero _))⟩
end ROOTS
