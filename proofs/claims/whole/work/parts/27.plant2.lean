section PLANT
def TP (V : Mm) (w : Nat → Nat) (S : Nat → Prop) (r cnt : Nat) (ord par dep pe lp : Nat → Nat) (R : Nat → Prop) : Prop := (V 29 7 = nI cnt) ∧ (∀ i, i < cnt → V 30 i = nI (ord i)) ∧ (∀ v, R v → V 31 v = nI (dep v)) ∧ (∀ v, v < 20 → ¬ R v → V 31 v = -1 ∧ V 32 v = -1) ∧ (∀ v, R v → v ≠ r → V 32 v = nI (par v) ∧ V 33 v = V 2 v + V 33 (par v) ∧ V 34 v = nI (lp v) ∧ S (lp v) ∧ ((par v = r ∧ lp v = pe v) ∨ (par v ≠ r ∧ ((ky w (lp (par v)) ≤ ky w (pe v) ∧ lp v = pe v) ∨ (ky w (pe v) < ky w (lp (par v)) ∧ lp v = lp (par v)))))) ∧ (V 32 r = -1 ∧ V 33 r = V 2 r ∧ V 34 r = -1)
theorem TP_c {V : Mm} {w : Nat → Nat} {S : Nat → Prop} {r cnt : Nat} {ord par dep pe lp : Nat → Nat} {R : Nat → Prop} (h : TP V w S r cnt ord par dep pe lp R) : V 29 7 = nI cnt := h.1
theorem TP_o {V : Mm} {w : Nat → Nat} {S : Nat → Prop} {r cnt : Nat} {ord par dep pe lp : Nat → Nat} {R : Nat → Prop} (h : TP V w S r cnt ord par dep pe lp R) : ∀ i, i < cnt → V 30 i = nI (ord i) := h.2.1
theorem TP_y {V : Mm} {w : Nat → Nat} {S : Nat → Prop} {r cnt : Nat} {ord par dep pe lp : Nat → Nat} {R : Nat → Prop} (h : TP V w S r cnt ord par dep pe lp R) : ∀ v, R v → V 31 v = nI (dep v) := h.2.2.1
theorem TP_z {V : Mm} {w : Nat → Nat} {S : Nat → Prop} {r cnt : Nat} {ord par dep pe lp : Nat → Nat} {R : Nat → Prop} (h : TP V w S r cnt ord par dep pe lp R) : ∀ v, v < 20 → ¬ R v → V 31 v = -1 ∧ V 32 v = -1 := h.2.2.2.1
theorem TP_p {V : Mm} {w : Nat → Nat} {S : Nat → Prop} {r cnt : Nat} {ord par dep pe lp : Nat → Nat} {R : Nat → Prop} (h : TP V w S r cnt ord par dep pe lp R) : ∀ v, R v → v ≠ r → V 32 v = nI (par v) ∧ V 33 v = V 2 v + V 33 (par v) ∧ V 34 v = nI (lp v) ∧ S (lp v) ∧ ((par v = r ∧ lp v = pe v) ∨ (par v ≠ r ∧ ((ky w (lp (par v)) ≤ ky w (pe v) ∧ lp v = pe v) ∨ (ky w (pe v) < ky w (lp (par v)) ∧ lp v = lp (par v))))) := h.2.2.2.2.1
theorem TP_r {V : Mm} {w : Nat → Nat} {S : Nat → Prop} {r cnt : Nat} {ord par dep pe lp : Nat → Nat} {R : Nat → Prop} (h : TP V w S r cnt ord par dep pe lp R) : V 32 r = -1 ∧ V 33 r = V 2 r ∧ V 34 r = -1 := h.2.2.2.2.2
def TV (V : Mm) (n : Nat) (a b w : Nat → Nat) (S : Nat → Prop) (r cnt : Nat) (ord par dep pe lp : Nat → Nat) (R : Nat → Prop) : Prop := (rt a b S r R par dep pe) ∧ (BF n a b S r cnt ord par dep pe R) ∧ (TP V w S r cnt ord par dep pe lp R)
theorem TV_rt {V : Mm} {n : Nat} {a b w : Nat → Nat} {S : Nat → Prop} {r cnt : Nat} {ord par dep pe lp : Nat → Nat} {R : Nat → Prop} (h : TV V n a b w S r cnt ord par dep pe lp R) : rt a b S r R par dep pe := h.1
theorem TV_bf {V : Mm} {n : Nat} {a b w : Nat → Nat} {S : Nat → Prop} {r cnt : Nat} {ord par dep pe lp : Nat → Nat} {R : Nat → Prop} (h : TV V n a b w S r cnt ord par dep pe lp R) : BF n a b S r cnt ord par dep pe R := h.2.1
theorem TV_tp {V : Mm} {n : Nat} {a b w : Nat → Nat} {S : Nat → Prop} {r cnt : Nat} {ord par dep pe lp : Nat → Nat} {R : Nat → Prop} (h : TV V n a b w S r cnt ord par dep pe lp R) : TP V w S r cnt ord par dep pe lp R := h.2.2
def PI (V0 V : Mm) (n : Nat) (a b w : Nat → Nat) (S : Nat → Prop) (r p o : Nat) : Prop := (∀ c, c < 29 ∨ 34 < c → V c = V0 c) ∧ (∃ (cnt : Nat) (ord par dep pe lp : Nat → Nat) (R : Nat → Prop), BF n a b S r cnt ord par dep pe R ∧ TP V w S r cnt ord par dep pe lp R ∧ p < cnt ∧ (∀ i, i < cnt → dep (ord i) ≤ dep (ord p) + 1) ∧ (∀ i, i < p → ∀ e, S e → ∀ x, jn a b e (ord i) x → R x) ∧ (∀ e, S e → ∀ x, x < o → jn a b e (ord p) x → R x))
theorem PI_fr {V0 V : Mm} {n : Nat} {a b w : Nat → Nat} {S : Nat → Prop} {r p o : Nat} (h : PI V0 V n a b w S r p o) : ∀ c, c < 29 ∨ 34 < c → V c = V0 c := h.1
theorem PI_ex {V0 V : Mm} {n : Nat} {a b w : Nat → Nat} {S : Nat → Prop} {r p o : Nat} (h : PI V0 V n a b w S r p o) : ∃ (cnt : Nat) (ord par dep pe lp : Nat → Nat) (R : Nat → Prop), BF n a b S r cnt ord par dep pe R ∧ TP V w S r cnt ord par dep pe lp R ∧ p < cnt ∧ (∀ i, i < cnt → dep (ord i) ≤ dep (ord p) + 1) ∧ (∀ i, i < p → ∀ e, S e → ∀ x, jn a b e (ord i) x → R x) ∧ (∀ e, S e → ∀ x, x < o → jn a b e (ord p) x → R x) := h.2
def PO (V0 V : Mm) (n : Nat) (a b w : Nat → Nat) (S : Nat → Prop) (r p : Nat) : Prop := (∀ c, c < 29 ∨ 34 < c → V c = V0 c) ∧ (∃ (cnt : Nat) (ord par dep pe lp : Nat → Nat) (R : Nat → Prop), BF n a b S r cnt ord par dep pe R ∧ TP V w S r cnt ord par dep pe lp R ∧ p ≤ cnt ∧ (p < cnt → ∀ i, i < cnt → dep (ord i) ≤ dep (ord p) + 1) ∧ (∀ i, i < p → ∀ e, S e → ∀ x, jn a b e (ord i) x → R x))
theorem PO_fr {V0 V : Mm} {n : Nat} {a b w : Nat → Nat} {S : Nat → Prop} {r p : Nat} (h : PO V0 V n a b w S r p) : ∀ c, c < 29 ∨ 34 < c → V c = V0 c := h.1
theorem PO_ex {V0 V : Mm} {n : Nat} {a b w : Nat → Nat} {S : Nat → Prop} {r p : Nat} (h : PO V0 V n a b w S r p) : ∃ (cnt : Nat) (ord par dep pe lp : Nat → Nat) (R : Nat → Prop), BF n a b S r cnt ord par dep pe R ∧ TP V w S r cnt ord par dep pe lp R ∧ p ≤ cnt ∧ (p < cnt → ∀ i, i < cnt → dep (ord i) ≤ dep (ord p) + 1) ∧ (∀ i, i < p → ∀ e, S e → ∀ x, jn a b e (ord i) x → R x) := h.2
variable {n k : Nat} {a b w : Nat → Nat} {pr F S : Nat → Prop} {V V0 : Mm} {post : Mm → Prop} {kx : Mm → Int32 → Prop} {u v e d r p : Nat} {ms : Int32}
variable {cnt : Nat} {ord par dep pe lp : Nat → Nat} {R : Nat → Prop}
theorem BF_dep (h : BF n a b S r cnt ord par dep pe R) : ∀ i, i < cnt → dep (ord i) ≤ i := by
  have key : ∀ m i, i < m → i < cnt → dep (ord i) ≤ i := by
    intro m
    induction m with
    | zero => intro i hi; omega
    | succ m ih =>
      intro i hi hc
      by_cases hr : ord i = r
      · rw [hr, BF_d0 h]; omega
      · obtain ⟨h1, h2, -⟩ := BF_st h _ (BF_Ro h hc) hr
        obtain ⟨j, hj, hj2⟩ := (BF_im h _).mp h1
        have hji : j < i := by
          rcases Nat.lt_or_ge j i with q | q
          · exact q
          · have := BF_mo h i j q hj
            rw [hj2] at this; omega
        have := ih j (by omega) (by omega)
        rw [hj2] at this; omega
  exact fun i hi => key (i + 1) i (by omega) hi
theorem BF_dlt (h : BF n a b S r cnt ord par dep pe R) (hv : R v) : dep v < n := by
  obtain ⟨i, h1, h2⟩ := (BF_im h v).mp hv
  have := BF_dep h i h1
  have := BF_le h
  rw [h2] at *; omega
theorem TP_add (H : TP V w S r cnt ord par dep pe lp R) (hbf : BF n a b S r cnt ord par dep pe R) {V' : Mm} {x : Nat} (hn : ¬ R v) (hu : R u) (hS : S e) (h2 : V' 2 = V 2) (h29 : V' 29 7 = nI (cnt + 1)) (h30 : V' 30 = upd (V 30) cnt (nI v)) (h31 : V' 31 = upd (V 31) v (nI (dep u + 1))) (h32 : V' 32 = upd (V 32) v (nI u)) (h33 : V' 33 = upd (V 33) v (V 2 v + V 33 u)) (h34 : V' 34 = upd (V 34) v (nI x))
    (hx : S x ∧ ((u = r ∧ x = e) ∨ (u ≠ r ∧ ((ky w (lp u) ≤ ky w e ∧ x = e) ∨ (ky w e < ky w (lp u) ∧ x = lp u))))) :
    TP V' w S r (cnt + 1) (fun i => if i = cnt then v else ord i) (fun i => if i = v then u else par i) (fun i => if i = v then dep u + 1 else dep i) (fun i => if i = v then e else pe i) (fun i => if i = v then x else lp i) (fun i => R i ∨ i = v) := by
  have hrv : ∀ y, R y → y ≠ v := fun y hy q => hn (by rw [← q]; exact hy)
  have hr := hrv r (BF_Rr hbf)
  refine ⟨h29, fun i hi => ?_, fun y hy => ?_, fun y hy hyn => ?_, fun y hy hyr => ?_, ?_⟩
  · rw [h30]
    show upd (V 30) cnt (nI v) i = nI (if i = cnt then v else ord i)
    by_cases q : i = cnt
    · rw [q, upd_eq, if_pos rfl]
    · rw [upd_ne _ _ q, if_neg q, TP_o H i (by omega)]
  · rw [h31]
    show upd (V 31) v (nI (dep u + 1)) y = nI (if y = v then dep u + 1 else dep y)
    by_cases q : y = v
    · rw [q, upd_eq, if_pos rfl]
    · rw [upd_ne _ _ q, if_neg q, TP_y H y (hy.elim id (fun z => absurd z q))]
  · have q : y ≠ v := fun z => hyn (Or.inr z)
    rw [h31, h32, upd_ne _ _ q, upd_ne _ _ q]
    exact TP_z H y hy (fun z => hyn (Or.inl z))
  · rw [h32, h33, h34, h2]
    by_cases q : y = v
    · subst q
      simp only [if_true, upd_eq, upd_ne _ _ (hrv u hu), if_neg (hrv u hu)]
      exact ⟨trivial, trivial, trivial, hx⟩
    · have hR : R y := hy.elim id (fun z => absurd z q)
      have hp := (BF_st hbf y hR hyr).1
      have hpv := hrv _ hp
      simp only [if_neg q, upd_ne _ _ q, upd_ne _ _ hpv, if_neg hpv]
      exact TP_p H y hR hyr
  · rw [h32, h33, h34, h2, upd_ne _ _ hr, upd_ne _ _ hr, upd_ne _ _ hr]
    exact TP_r H
theorem s_plant_in (H0 : GV V0 n k a b w pr) (I0 : FV V0 k a b w F) (hk : ∀ V, PI V0 V n a b w (fun g => F g ∧ nI g ≠ ms) r p n → kx V (nI n)) (hp : p < 20) : ∀ f o, o + f = n → ∀ V, PI V0 V n a b w (fun g => F g ∧ nI g ≠ ms) r p o → wp_X7_plant_L47 ms (nI p) post kx (f + 1) V (nI o) := by
  have h20 := GV_n20 H0
  have h60 := GV_k60 H0
  intro f
  induction f with
  | zero =>
    intro o ho V hV
    have : o = n := by omega
    subst this
    have H : GV V o k a b w pr := GV_fr H0 (PI_fr hV 1 (by omega)) (PI_fr hV 3 (by omega)) (PI_fr hV 4 (by omega)) (PI_fr hV 5 (by omega)) (PI_fr hV 6 (by omega))
    simp (disch := omega) only [wp_X7_plant_L47, wp_X3_vertexCount, GV_n H, nI_add, nI_1, nI_neg, neg_nI, nI_lt0, nI_eq0, nI_lt20, nI_le20, nI_lt60, nI_le60, nI_inI, nI_clamp, nI_eq, nI_leI, nI_ltI, neg_ltz, neg_eqz, one_eqz, bI_eq0, bI_eq1, bI_nar1, Nat.le_refl, true_and, and_true, not_true_eq_false, not_false_eq_true, false_implies, true_implies, implies_true, forall_eq, false_and, and_false, or_false, false_or, or_true, true_or, iff_self, Classical.not_not, forall_const, ite_true, ite_false, reduceIte, eq_self]
    exact hk V hV
  | succ f ih =>
    intro o ho V hV
    have H : GV V n k a b w pr := GV_fr H0 (PI_fr hV 1 (by omega)) (PI_fr hV 3 (by omega)) (PI_fr hV 4 (by omega)) (PI_fr hV 5 (by omega)) (PI_fr hV 6 (by omega))
    have I : FV V k a b w F := FV_fr2 I0 (fun c hc => PI_fr hV c (by omega))
    obtain ⟨cnt, ord, par, dep, pe, lp, R, hbf, htp, hpc, hq, hc1, hc2⟩ := PI_ex hV
    have hop := BF_lt hbf p hpc
    have hRp := BF_Ro hbf hpc
    rw [wp_X7_plant_L47]
    simp (disch := omega) only [wp_X3_vertexCount, GV_n H, TP_o htp, e_edgeJoining H hop (show o < n by omega), nI_add, nI_1, nI_neg, neg_nI, nI_lt0, nI_eq0, nI_lt20, nI_le20, nI_lt60, nI_le60, nI_inI, nI_clamp, nI_eq, nI_leI, nI_ltI, neg_ltz, neg_eqz, one_eqz, bI_eq0, bI_eq1, bI_nar1, show ¬ n ≤ o by omega, true_and, and_true, not_true_eq_false, not_false_eq_true, false_implies, true_implies, implies_true, forall_eq, false_and, and_false, or_false, false_or, or_true, true_or, iff_self, Classical.not_not, forall_const, ite_true, ite_false, reduceIte, eq_self]
    have skip : (∀ e, F e ∧ nI e ≠ ms → jn a b e (ord p) o → R o) → wp_X7_plant_L47 ms (nI p) post kx (f + 1) V (nI (o + 1)) := fun hs =>
      ih (o + 1) (by omega) V ⟨PI_fr hV, cnt, ord, par, dep, pe, lp, R, hbf, htp, hpc, hq, hc1, fun e he x hx hj => by
        rcases Nat.lt_or_ge x o with q | q
        · exact hc2 e he x q hj
        · have : x = o := by omega
          subst this
          exact hs e he hj⟩
    rcases FV_row I (ord p) o (by omega) (by omega) with ⟨e, q1, q2, q3⟩ | ⟨q1, q2⟩
    · have hek := FV_fk I e q1
      rw [q3, mb_f (fun z => (nI_neg (by omega)).mp z)]
      by_cases hms : nI e = ms
      · rw [mb_t hms]
        exact skip (fun g hg hj => absurd (by rw [jn_uni (FV_ac I) hg.1 q1 hj q2]; exact hms) hg.2)
      · rw [mb_f hms]
        by_cases hR : R o
        · rw [e_reach_old H (by omega) (by rw [TP_y htp o hR]; exact fun z => (nI_neg (by have := BF_dlt hbf hR; omega)).mp z)]
          exact skip (fun _ _ _ => hR)
        · have hdp := BF_dlt hbf hRp
          have hcn := BF_lt1 hbf (show o < n by omega) hR
          have hne : ord p ≠ o := fun z => hR (by rw [← z]; exact hRp)
          have fin : ∀ x : Nat, (F x ∧ nI x ≠ ms) ∧ ((ord p = r ∧ x = e) ∨ (ord p ≠ r ∧ ((ky w (lp (ord p)) ≤ ky w e ∧ x = e) ∨ (ky w e < ky w (lp (ord p)) ∧ x = lp (ord p))))) → ∀ V' : Mm, (∀ c, c < 29 ∨ 34 < c → V' c = V c) → V' 29 7 = nI (cnt + 1) → V' 30 = upd (V 30) cnt (nI o) → V' 31 = upd (V 31) o (nI (dep (ord p) + 1)) → V' 32 = upd (V 32) o (nI (ord p)) → V' 33 = upd (V 33) o (V 2 o + V 33 (ord p)) → V' 34 = upd (V 34) o (nI x) → wp_X7_plant_L47 ms (nI p) post kx (f + 1) V' (nI (o + 1)) := by
            intro x hx V' hfr h29 h30 h31 h32 h33 h34
            have ht := TP_add htp hbf hR hRp (e := e) ⟨q1, hms⟩ (hfr 2 (by omega)) h29 h30 h31 h32 h33 h34 hx
            obtain ⟨hb1, hb2⟩ := BF_add hbf (ord' := fun i => if i = cnt then o else ord i) (par' := fun i => if i = o then ord p else par i) (dep' := fun i => if i = o then dep (ord p) + 1 else dep i) (pe' := fun i => if i = o then e else pe i) (R' := fun i => R i ∨ i = o) hpc hq (show o < n by omega) hR (e := e) ⟨q1, hms⟩ (jn_sw.mp q2) (fun i hi => if_neg (by omega)) (if_pos rfl) (fun y hy => if_neg hy) (if_pos rfl) (fun y hy => if_neg hy) (if_pos rfl) (fun y hy => if_neg hy) (if_pos rfl) (fun y => Iff.rfl)
            refine ih (o + 1) (by omega) V' ⟨fun c hc => by rw [hfr c hc, PI_fr hV c hc], cnt + 1, _, _, _, _, _, _, hb1, ht, by omega, hb2, fun i hi g hg y hy => ?_, fun g hg y hy hj => ?_⟩
            · simp only [if_neg (show ¬ i = cnt by omega)] at hy
              exact Or.inl (hc1 i hi g hg y hy)
            · simp only [if_neg (show ¬ p = cnt by omega)] at hj
              rcases Nat.lt_or_ge y o with q | q
              · exact Or.inl (hc2 g hg y q hj)
              · exact Or.inr (by omega)
          by_cases hr : ord p = r
          · refine s_reach_new H (show o < n by omega) hop hne hek ((TP_z htp o (by omega) hR).1) (TP_c htp) (by omega) (TP_y htp _ hRp) (by omega) (x := nI e) (Or.inl ⟨by rw [hr]; exact (TP_r htp).2.2, rfl⟩) ?_
            exact fin e ⟨⟨q1, hms⟩, Or.inl ⟨hr, rfl⟩⟩
          · obtain ⟨-, -, g3, g4, -⟩ := TP_p htp _ hRp hr
            have hlk := FV_fk I _ g4.1
            rcases Nat.lt_or_ge (ky w e) (ky w (lp (ord p))) with q | q
            · exact s_reach_new H (show o < n by omega) hop hne hek ((TP_z htp o (by omega) hR).1) (TP_c htp) (by omega) (TP_y htp _ hRp) (by omega) (x := nI (lp (ord p))) (Or.inr ⟨_, hlk, g3, Or.inr ⟨q, rfl⟩⟩) (fin _ ⟨g4, Or.inr ⟨hr, Or.inr ⟨q, rfl⟩⟩⟩)
            · exact s_reach_new H (show o < n by omega) hop hne hek ((TP_z htp o (by omega) hR).1) (TP_c htp) (by omega) (TP_y htp _ hRp) (by omega) (x := nI e) (Or.inr ⟨_, hlk, g3, Or.inl ⟨q, rfl⟩⟩) (fin _ ⟨⟨q1, hms⟩, Or.inr ⟨hr, Or.inl ⟨q, rfl⟩⟩⟩)
    · rw [q2, mb_t rfl]
      exact skip (fun g hg hj => absurd hj (q1 g hg.1))
theorem s_plant_out (H0 : GV V0 n k a b w pr) (I0 : FV V0 k a b w F) (hk : ∀ V x, (∀ c, c < 29 ∨ 34 < c → V c = V0 c) → ∀ cnt ord par dep pe lp R, TV V n a b w (fun g => F g ∧ nI g ≠ ms) r cnt ord par dep pe lp R → kx V x) : ∀ f p, p + f = 20 → ∀ V, PO V0 V n a b w (fun g => F g ∧ nI g ≠ ms) r p → wp_X7_plant_L30 ms post kx (f + 1) V (nI p) := by
  have h20 := GV_n20 H0
  intro f
  induction f with
  | zero =>
    intro p hp V hV
    have : p = 20 := by omega
    subst this
    simp (disch := omega) only [wp_X7_plant_L30, nI_add, nI_1, nI_neg, neg_nI, nI_lt0, nI_eq0, nI_lt20, nI_le20, nI_lt60, nI_le60, nI_inI, nI_clamp, nI_eq, nI_leI, nI_ltI, neg_ltz, neg_eqz, one_eqz, bI_eq0, bI_eq1, bI_nar1, Nat.le_refl, true_and, and_true, not_true_eq_false, not_false_eq_true, false_implies, true_implies, implies_true, forall_eq, false_and, and_false, or_false, false_or, or_true, true_or, iff_self, Classical.not_not, forall_const, ite_true, ite_false, reduceIte, eq_self]
    obtain ⟨cnt, ord, par, dep, pe, lp, R, hbf, htp, hpc, hq, hc1⟩ := PO_ex hV
    have hcn := BF_le hbf
    exact hk V _ (PO_fr hV) cnt ord par dep pe lp R ⟨BF_fin hbf (fun i hi => hc1 i (by omega)), hbf, htp⟩
  | succ f ih =>
    intro p hp V hV
    obtain ⟨cnt, ord, par, dep, pe, lp, R, hbf, htp, hpc, hq, hc1⟩ := PO_ex hV
    have hcn := BF_le hbf
    rw [wp_X7_plant_L30]
    simp (disch := omega) only [TP_c htp, nI_add, nI_1, nI_neg, neg_nI, nI_lt0, nI_eq0, nI_lt20, nI_le20, nI_lt60, nI_le60, nI_inI, nI_clamp, nI_eq, nI_leI, nI_ltI, neg_ltz, neg_eqz, one_eqz, bI_eq0, bI_eq1, bI_nar1, show ¬ 20 ≤ p by omega, true_and, and_true, not_true_eq_false, not_false_eq_true, false_implies, true_implies, implies_true, forall_eq, false_and, and_false, or_false, false_or, or_true, true_or, iff_self, Classical.not_not, forall_const, ite_true, ite_false, reduceIte, eq_self]
    by_cases hpp : cnt ≤ p
    · rw [mb_t hpp]
      exact hk V _ (PO_fr hV) cnt ord par dep pe lp R ⟨BF_fin hbf (fun i hi => hc1 i (by omega)), hbf, htp⟩
    · rw [mb_f hpp]
      refine ⟨n + 1, s_plant_in H0 I0 (fun V2 hV2 => ?_) (by omega) n 0 (by omega) V ⟨PO_fr hV, cnt, ord, par, dep, pe, lp, R, hbf, htp, by omega, hq (by omega), hc1, fun e he x hx => by omega⟩⟩
      refine ih (p + 1) (by omega) V2 ⟨PI_fr hV2, ?_⟩
      obtain ⟨cnt, ord, par, dep, pe, lp, R, hbf, htp, hpc, hq, hc1, hc2⟩ := PI_ex hV2
      refine ⟨cnt, ord, par, dep, pe, lp, R, hbf, htp, hpc, fun z i hi => ?_, fun i hi e he x hx => ?_⟩
      · have := hq i hi
        have := BF_mo hbf p (p + 1) (by omega) z
        omega
      · rcases Nat.lt_or_ge i p with q | q
        · exact hc1 i q e he x hx
        · have : i = p := by omega
          subst this
          have hek := FV_fk I0 e he.1
          have h1 := GV_an H0 e hek
          have h2 := GV_bn H0 e hek
          exact hc2 e he x (by rcases hx with ⟨_, z⟩ | ⟨z, _⟩ <;> omega) hx
theorem s_plant (H : GV V n k a b w pr) (I : FV V k a b w F) (hr : r < n) (h : ∀ V' : Mm, (∀ c, c < 29 ∨ 34 < c → V' c = V c) → ∀ cnt ord par dep pe lp R, TV V' n a b w (fun g => F g ∧ nI g ≠ ms) r cnt ord par dep pe lp R → post V') : wp_X7_plant V (nI r) ms post := by
  have h20 := GV_n20 H
  unfold wp_X7_plant
  simp only [forall_eq]
  have G : GV (wfill (wfill (wr V 29 7 0) 31 20 (-1)) 32 20 (-1)) n k a b w pr := GV_fr H rfl rfl rfl rfl rfl
  refine s_reach_root G hr (by simp (disch := omega) only [wfill_at, Nat.reduceEqDiff, if_false, if_true, if_pos]) (by simp (disch := omega) only [wfill_at, wr_eq, upd_eq, Nat.reduceEqDiff, if_false]) (fun V' hfr h29 h30 h31 h32 h33 h34 => ?_)
  have hfr : ∀ c, c < 29 ∨ 34 < c → V' c = V c := fun c hc => by
    rw [hfr c hc, wfill_ne _ _ _ (by omega), wfill_ne _ _ _ (by omega), wr_ne _ _ _ (by omega)]
  have f31 : ∀ v, v < 20 → v ≠ r → V' 31 v = -1 := fun v hv hn => by
    rw [h31, upd_ne _ _ hn]; simp only [wfill_at, Nat.reduceEqDiff, if_false, if_true, if_pos hv]
  have f32 : ∀ v, v < 20 → v ≠ r → V' 32 v = -1 := fun v hv hn => by
    rw [h32, upd_ne _ _ hn]; simp only [wfill_at, Nat.reduceEqDiff, if_false, if_true, if_pos hv]
  have GN : GV V' n k a b w pr := GV_fr H (hfr 1 (by omega)) (hfr 3 (by omega)) (hfr 4 (by omega)) (hfr 5 (by omega)) (hfr 6 (by omega))
  refine ⟨20 + 1, s_plant_out (V0 := V) (r := r) H I (fun V2 x hf2 cnt ord par dep pe lp R hT => h V2 hf2 cnt ord par dep pe lp R hT) 20 0 (by omega) V' ⟨hfr, 1, fun _ => r, id, fun _ => 0, id, id, fun v => v = r, BF_init hr rfl rfl (fun _ => Iff.rfl), ⟨h29, fun i hi => ?_, fun v hv => ?_, fun v hv hn => ⟨f31 v hv hn, f32 v hv hn⟩, fun v hv hn => absurd hv hn, by rw [h32, upd_eq], ?_, by rw [h34, upd_eq]⟩, by omega, fun _ i hi => by show 0 ≤ 0 + 1; omega, fun i hi => by omega⟩⟩
  · rw [h30, show i = 0 by omega, upd_eq]
  · rw [h31, hv, upd_eq]
  · rw [h33, upd_eq, hfr 2 (by omega), wfill_ne _ _ _ (by omega), wfill_ne _ _ _ (by omega), wr_ne _ _ _ (by omega)]
end PLANT
