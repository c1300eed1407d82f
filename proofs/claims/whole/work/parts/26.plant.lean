section BFS
theorem pig {n : Nat} {ord : Nat → Nat} : ∀ {c : Nat}, (∀ i, i < c → ord i < n) → (∀ i j, i < j → j < c → ord i ≠ ord j) → ct (fun v => ∃ i, i < c ∧ ord i = v) n = c
  | 0, _, _ => ct_0 (fun i _ q => q.elim fun j q => absurd q.1 (Nat.not_lt_zero _))
  | c + 1, h, hi => by
    have ih := pig (n := n) (c := c) (fun i q => h i (by omega)) (fun i j q q2 => hi i j q (by omega))
    rw [ct_ins (p := fun v => ∃ i, i < c ∧ ord i = v) (e := ord c) (h c (by omega)) (fun q => q.elim fun i q => hi i c q.1 (by omega) q.2) (fun v _ => ?_), ih]
    constructor
    · rintro ⟨i, h1, h2⟩
      rcases Nat.lt_or_ge i c with q | q
      · exact Or.inl ⟨i, q, h2⟩
      · right; rw [← h2, show i = c by omega]
    · rintro (⟨i, h1, h2⟩ | q)
      · exact ⟨i, by omega, h2⟩
      · exact ⟨c, by omega, q.symm⟩
def BF (n : Nat) (a b : Nat → Nat) (S : Nat → Prop) (r cnt : Nat) (ord par dep pe : Nat → Nat) (R : Nat → Prop) : Prop := (0 < cnt ∧ ord 0 = r) ∧ (∀ i, i < cnt → ord i < n) ∧ (∀ v, R v ↔ ∃ i, i < cnt ∧ ord i = v) ∧ (∀ i j, i < j → j < cnt → ord i ≠ ord j) ∧ (dep r = 0) ∧ (∀ v, R v → v ≠ r → R (par v) ∧ dep v = dep (par v) + 1 ∧ S (pe v) ∧ jn a b (pe v) v (par v)) ∧ (∀ i j, i ≤ j → j < cnt → dep (ord i) ≤ dep (ord j))
theorem BF_o0 {n : Nat} {a b : Nat → Nat} {S : Nat → Prop} {r cnt : Nat} {ord par dep pe : Nat → Nat} {R : Nat → Prop} (h : BF n a b S r cnt ord par dep pe R) : 0 < cnt ∧ ord 0 = r := h.1
theorem BF_lt {n : Nat} {a b : Nat → Nat} {S : Nat → Prop} {r cnt : Nat} {ord par dep pe : Nat → Nat} {R : Nat → Prop} (h : BF n a b S r cnt ord par dep pe R) : ∀ i, i < cnt → ord i < n := h.2.1
theorem BF_im {n : Nat} {a b : Nat → Nat} {S : Nat → Prop} {r cnt : Nat} {ord par dep pe : Nat → Nat} {R : Nat → Prop} (h : BF n a b S r cnt ord par dep pe R) : ∀ v, R v ↔ ∃ i, i < cnt ∧ ord i = v := h.2.2.1
theorem BF_inj {n : Nat} {a b : Nat → Nat} {S : Nat → Prop} {r cnt : Nat} {ord par dep pe : Nat → Nat} {R : Nat → Prop} (h : BF n a b S r cnt ord par dep pe R) : ∀ i j, i < j → j < cnt → ord i ≠ ord j := h.2.2.2.1
theorem BF_d0 {n : Nat} {a b : Nat → Nat} {S : Nat → Prop} {r cnt : Nat} {ord par dep pe : Nat → Nat} {R : Nat → Prop} (h : BF n a b S r cnt ord par dep pe R) : dep r = 0 := h.2.2.2.2.1
theorem BF_st {n : Nat} {a b : Nat → Nat} {S : Nat → Prop} {r cnt : Nat} {ord par dep pe : Nat → Nat} {R : Nat → Prop} (h : BF n a b S r cnt ord par dep pe R) : ∀ v, R v → v ≠ r → R (par v) ∧ dep v = dep (par v) + 1 ∧ S (pe v) ∧ jn a b (pe v) v (par v) := h.2.2.2.2.2.1
theorem BF_mo {n : Nat} {a b : Nat → Nat} {S : Nat → Prop} {r cnt : Nat} {ord par dep pe : Nat → Nat} {R : Nat → Prop} (h : BF n a b S r cnt ord par dep pe R) : ∀ i j, i ≤ j → j < cnt → dep (ord i) ≤ dep (ord j) := h.2.2.2.2.2.2
variable {n : Nat} {a b : Nat → Nat} {S : Nat → Prop} {r cnt : Nat} {ord par dep pe ord' par' dep' pe' : Nat → Nat} {R R' : Nat → Prop}
theorem BF_Rlt (h : BF n a b S r cnt ord par dep pe R) {v : Nat} (hv : R v) : v < n := by
  obtain ⟨i, h1, h2⟩ := (BF_im h v).mp hv
  rw [← h2]; exact BF_lt h i h1
theorem BF_Rr (h : BF n a b S r cnt ord par dep pe R) : R r := (BF_im h r).mpr ⟨0, BF_o0 h⟩
theorem BF_Ro (h : BF n a b S r cnt ord par dep pe R) {i : Nat} (hi : i < cnt) : R (ord i) := (BF_im h _).mpr ⟨i, hi, rfl⟩
theorem BF_ct (h : BF n a b S r cnt ord par dep pe R) : ct R n = cnt := by
  rw [ct_congr (q := fun v => ∃ i, i < cnt ∧ ord i = v) (fun v _ => BF_im h v)]
  exact pig (BF_lt h) (BF_inj h)
theorem BF_le (h : BF n a b S r cnt ord par dep pe R) : cnt ≤ n := by rw [← BF_ct h]; exact ct_le n
theorem BF_lt1 (h : BF n a b S r cnt ord par dep pe R) {v : Nat} (hv : v < n) (hn : ¬ R v) : cnt < n := by
  have h1 : ct (fun x => R x ∨ x = v) n = ct R n + 1 := ct_ins hv hn (fun i _ => Iff.rfl)
  rw [BF_ct h] at h1
  have := ct_le (p := fun x => R x ∨ x = v) n
  omega
theorem BF_init (hr : r < n) (ho : ord 0 = r) (hd : dep r = 0) (hR : ∀ v, R v ↔ v = r) : BF n a b S r 1 ord par dep pe R :=
  ⟨⟨by omega, ho⟩, fun i hi => by rw [show i = 0 by omega, ho]; exact hr, fun v => by
    rw [hR]
    exact ⟨fun q => ⟨0, by omega, by rw [ho, q]⟩, fun ⟨i, h1, h2⟩ => by rw [← h2, show i = 0 by omega, ho]⟩, fun i j h1 h2 => by omega, hd, fun v hv hn => absurd ((hR v).mp hv) hn, fun i j h1 h2 => by rw [show i = j by omega]; exact Nat.le_refl _⟩
theorem BF_add (h : BF n a b S r cnt ord par dep pe R) {p v e : Nat} (hp : p < cnt) (hq : ∀ i, i < cnt → dep (ord i) ≤ dep (ord p) + 1) (hv : v < n) (hn : ¬ R v) (he : S e) (hj : jn a b e v (ord p))
    (o1 : ∀ i, i < cnt → ord' i = ord i) (o2 : ord' cnt = v) (p1 : ∀ x, x ≠ v → par' x = par x) (p2 : par' v = ord p) (d1 : ∀ x, x ≠ v → dep' x = dep x) (d2 : dep' v = dep (ord p) + 1) (e1 : ∀ x, x ≠ v → pe' x = pe x) (e2 : pe' v = e) (hR : ∀ x, R' x ↔ R x ∨ x = v) :
    BF n a b S r (cnt + 1) ord' par' dep' pe' R' ∧ ∀ i, i < cnt + 1 → dep' (ord' i) ≤ dep' (ord' p) + 1 := by
  have hov : ∀ i, i < cnt → ord i ≠ v := fun i hi q => hn (by rw [← q]; exact BF_Ro h hi)
  have hRv : ∀ x, R x → x ≠ v := fun x hx q => hn (by rw [← q]; exact hx)
  have hdo : ∀ i, i < cnt → dep' (ord' i) = dep (ord i) := fun i hi => by rw [o1 i hi, d1 _ (hov i hi)]
  have hdc : dep' (ord' cnt) = dep (ord p) + 1 := by rw [o2, d2]
  have hrv : r ≠ v := hRv r (BF_Rr h)
  refine ⟨⟨⟨by omega, by rw [o1 0 (BF_o0 h).1]; exact (BF_o0 h).2⟩, fun i hi => ?_, fun x => ?_, fun i j h1 h2 => ?_, by rw [d1 r hrv]; exact BF_d0 h, fun x hx hxr => ?_, fun i j h1 h2 => ?_⟩, fun i hi => ?_⟩
  · rcases Nat.lt_or_ge i cnt with q | q
    · rw [o1 i q]; exact BF_lt h i q
    · rw [show i = cnt by omega, o2]; exact hv
  · rw [hR, BF_im h]
    constructor
    · rintro (⟨i, h1, h2⟩ | q)
      · exact ⟨i, by omega, by rw [o1 i h1]; exact h2⟩
      · exact ⟨cnt, by omega, by rw [o2, q]⟩
    · rintro ⟨i, h1, h2⟩
      rcases Nat.lt_or_ge i cnt with q | q
      · exact Or.inl ⟨i, q, by rw [← o1 i q]; exact h2⟩
      · right; rw [← h2, show i = cnt by omega, o2]
  · rw [o1 i (by omega)]
    rcases Nat.lt_or_ge j cnt with q | q
    · rw [o1 j q]; exact BF_inj h i j h1 q
    · rw [show j = cnt by omega, o2]; exact hov i (by omega)
  · rcases (hR x).mp hx with q | q
    · obtain ⟨g1, g2, g3, g4⟩ := BF_st h x q hxr
      have hxv := hRv x q
      rw [p1 x hxv, d1 x hxv, e1 x hxv, d1 _ (hRv _ g1)]
      exact ⟨(hR _).mpr (Or.inl g1), g2, g3, g4⟩
    · subst q
      rw [p2, d2, e2, d1 _ (hov p hp)]
      exact ⟨(hR _).mpr (Or.inl (BF_Ro h hp)), rfl, he, hj⟩
  · rcases Nat.lt_or_ge j cnt with q | q
    · rw [hdo i (by omega), hdo j q]; exact BF_mo h i j h1 q
    · rw [show j = cnt by omega, hdc]
      rcases Nat.lt_or_ge i cnt with q2 | q2
      · rw [hdo i q2]; exact hq i q2
      · rw [show i = cnt by omega, hdc]; exact Nat.le_refl _
  · rw [hdo p hp]
    rcases Nat.lt_or_ge i cnt with q | q
    · rw [hdo i q]; exact hq i q
    · rw [show i = cnt by omega, hdc]; exact Nat.le_refl _
theorem BF_fin (h : BF n a b S r cnt ord par dep pe R) (hc : ∀ i, i < cnt → ∀ e, S e → ∀ x, jn a b e (ord i) x → R x) : rt a b S r R par dep pe := by
  refine ⟨BF_Rr h, BF_d0 h, BF_st h, fun e he => ⟨fun q => ?_, fun q => ?_⟩⟩
  · obtain ⟨i, h1, h2⟩ := (BF_im h _).mp q
    exact hc i h1 e he _ (Or.inl ⟨h2.symm, rfl⟩)
  · obtain ⟨i, h1, h2⟩ := (BF_im h _).mp q
    exact hc i h1 e he _ (Or.inr ⟨rfl, h2.symm⟩)
end BFS
section REACH
variable {n k : Nat} {a b w : Nat → Nat} {pr F : Nat → Prop} {V : Mm} {pos : Mm → Prop} {u v e d cnt : Nat}
theorem upd_upd (f : Nat → Int32) (i : Nat) (x y : Int32) : upd (upd f i x) i y = upd f i y := funext fun j => by
  simp only [upd_at]; split <;> rfl
theorem e_reach_old (H : GV V n k a b w pr) (hv : v < n) (h : ¬ V 31 v = -1) {x y : Int32} : wp_X7_reach V (nI v) x y pos = pos V := by
  have := GV_n20 H
  unfold wp_X7_reach
  simp (disch := omega) only [e_hasVertex H hv, nI_add, nI_1, nI_neg, neg_nI, nI_lt0, nI_eq0, nI_lt20, nI_le20, nI_lt60, nI_le60, nI_inI, nI_clamp, nI_eq, nI_leI, nI_ltI, neg_ltz, neg_eqz, one_eqz, bI_eq0, bI_eq1, bI_nar1, h, true_and, and_true, not_true_eq_false, not_false_eq_true, false_implies, true_implies, implies_true, forall_eq, false_and, and_false, or_false, false_or, or_true, true_or, iff_self, Classical.not_not, forall_const, ite_true, ite_false, reduceIte, eq_self]
theorem s_reach_root (H : GV V n k a b w pr) (hv : v < n) (h31 : V 31 v = -1) (h29 : V 29 7 = 0)
    (h : ∀ V' : Mm, (∀ c, c < 29 ∨ 34 < c → V' c = V c) → V' 29 7 = nI 1 → V' 30 = upd (V 30) 0 (nI v) → V' 31 = upd (V 31) v (nI 0) → V' 32 = upd (V 32) v (-1) → V' 33 = upd (V 33) v (V 2 v) → V' 34 = upd (V 34) v (-1) → pos V') : wp_X7_reach V (nI v) (-1) (-1) pos := by
  have h20 := GV_n20 H
  unfold wp_X7_reach
  simp (disch := omega) only [e_hasVertex H hv, nI_add, nI_1, nI_neg, neg_nI, nI_lt0, nI_eq0, nI_lt20, nI_le20, nI_lt60, nI_le60, nI_inI, nI_clamp, nI_eq, nI_leI, nI_ltI, neg_ltz, neg_eqz, one_eqz, bI_eq0, bI_eq1, bI_nar1, h31, h29, true_and, and_true, not_true_eq_false, not_false_eq_true, false_implies, true_implies, implies_true, forall_eq, false_and, and_false, or_false, false_or, or_true, true_or, iff_self, Classical.not_not, forall_const, ite_true, ite_false, reduceIte, eq_self, wr_eq, wr_ne, upd_eq, show (0 : Int32) < 20 by decide, (show vp_in 0 20 by unfold vp_in; decide), show Int32.toNatClampNeg 0 = 0 by decide]
  have G : ∀ (x y z : Int32) (i j : Nat), GV (wr (wr (wr (wr V 30 0 (nI v)) 29 7 x) 31 i y) 32 j z) n k a b w pr := fun x y z i j => GV_wr (GV_wr (GV_wr (GV_wr H (by decide)) (by decide)) (by decide)) (by decide)
  rw [e_valueOf (G _ _ _ _ _) hv]
  simp (disch := omega) only [e_hasVertexN, nI_add, nI_1, nI_neg, neg_nI, nI_lt0, nI_eq0, nI_lt20, nI_le20, nI_lt60, nI_le60, nI_inI, nI_clamp, nI_eq, nI_leI, nI_ltI, neg_ltz, neg_eqz, one_eqz, bI_eq0, bI_eq1, bI_nar1, true_and, and_true, not_true_eq_false, not_false_eq_true, false_implies, true_implies, implies_true, forall_eq, false_and, and_false, or_false, false_or, or_true, true_or, iff_self, Classical.not_not, forall_const, ite_true, ite_false, reduceIte, eq_self]
  refine h _ (fun c hc => ?_) ?_ ?_ ?_ ?_ ?_ ?_ <;> simp (disch := omega) only [wr_ne, wr_eq, upd_eq, upd_ne] <;> rfl
theorem s_reach_new (H : GV V n k a b w pr) (hv : v < n) (hu : u < n) (huv : u ≠ v) (he : e < k) (h31 : V 31 v = -1) (h29 : V 29 7 = nI cnt) (hc : cnt < 20) (hd : V 31 u = nI d) (hdk : d < 1000) {x : Int32}
    (hx : (V 34 u = -1 ∧ x = nI e) ∨ ∃ l, l < k ∧ V 34 u = nI l ∧ ((ky w l ≤ ky w e ∧ x = nI e) ∨ (ky w e < ky w l ∧ x = nI l)))
    (h : ∀ V' : Mm, (∀ c, c < 29 ∨ 34 < c → V' c = V c) → V' 29 7 = nI (cnt + 1) → V' 30 = upd (V 30) cnt (nI v) → V' 31 = upd (V 31) v (nI (d + 1)) → V' 32 = upd (V 32) v (nI u) → V' 33 = upd (V 33) v (V 2 v + V 33 u) → V' 34 = upd (V 34) v x → pos V') : wp_X7_reach V (nI v) (nI u) (nI e) pos := by
  have h20 := GV_n20 H
  have h60 := GV_k60 H
  unfold wp_X7_reach
  simp (disch := omega) only [e_hasVertex H hv, nI_add, nI_1, nI_neg, neg_nI, nI_lt0, nI_eq0, nI_lt20, nI_le20, nI_lt60, nI_le60, nI_inI, nI_clamp, nI_eq, nI_leI, nI_ltI, neg_ltz, neg_eqz, one_eqz, bI_eq0, bI_eq1, bI_nar1, h31, h29, true_and, and_true, not_true_eq_false, not_false_eq_true, false_implies, true_implies, implies_true, forall_eq, false_and, and_false, or_false, false_or, or_true, true_or, iff_self, Classical.not_not, forall_const, ite_true, ite_false, reduceIte, eq_self, wr_eq, wr_ne, upd_eq, hc]
  have G : ∀ (x y z : Int32) (i j : Nat), GV (wr (wr (wr (wr V 30 cnt (nI v)) 29 7 x) 31 i y) 32 j z) n k a b w pr := fun x y z i j => GV_wr (GV_wr (GV_wr (GV_wr H (by decide)) (by decide)) (by decide)) (by decide)
  rw [e_valueOf (G _ _ _ _ _) hv]
  have G2 : ∀ (x y z s t : Int32) (i j l m : Nat), GV (wr (wr (wr (wr (wr (wr V 30 cnt (nI v)) 29 7 x) 31 i y) 32 j z) 33 l s) 34 m t) n k a b w pr := fun x y z s t i j l m => GV_wr (GV_wr (G _ _ _ _ _) (by decide)) (by decide)
  simp (disch := omega) only [e_hasVertex (G2 _ _ _ _ _ _ _ _ _) hu, nI_add, nI_1, nI_neg, neg_nI, nI_lt0, nI_eq0, nI_lt20, nI_le20, nI_lt60, nI_le60, nI_inI, nI_clamp, nI_eq, nI_leI, nI_ltI, neg_ltz, neg_eqz, one_eqz, bI_eq0, bI_eq1, bI_nar1, true_and, and_true, not_true_eq_false, not_false_eq_true, false_implies, true_implies, implies_true, forall_eq, false_and, and_false, or_false, false_or, or_true, true_or, iff_self, Classical.not_not, forall_const, ite_true, ite_false, reduceIte, eq_self, wr_eq, wr_ne, upd_eq, upd_ne]
  have G3 : ∀ (x y z s t x2 y2 : Int32) (i j l m i2 j2 : Nat), GV (wr (wr (wr (wr (wr (wr (wr (wr V 30 cnt (nI v)) 29 7 x) 31 i y) 32 j z) 33 l s) 34 m t) 31 i2 x2) 33 j2 y2) n k a b w pr := fun x y z s t x2 y2 i j l m i2 j2 => GV_wr (GV_wr (G2 _ _ _ _ _ _ _ _ _) (by decide)) (by decide)
  rcases hx with ⟨h1, rfl⟩ | ⟨l, hl, h1, ⟨h2, rfl⟩ | ⟨h2, rfl⟩⟩
  · rw [h1, mb_t rfl]
    refine h _ (fun c hc => ?_) ?_ ?_ ?_ ?_ ?_ ?_ <;> simp (disch := omega) only [wr_ne, wr_eq, upd_eq, upd_ne, upd_upd, hd, nI_1]
  · rw [h1, mb_f (fun q => (nI_neg (by omega)).mp q), e_comesBefore (G3 _ _ _ _ _ _ _ _ _ _ _ _ _) he hl, bI_f (by omega), mb_t rfl]
    refine h _ (fun c hc => ?_) ?_ ?_ ?_ ?_ ?_ ?_ <;> simp (disch := omega) only [wr_ne, wr_eq, upd_eq, upd_ne, upd_upd, hd, nI_1]
  · rw [h1, mb_f (fun q => (nI_neg (by omega)).mp q), e_comesBefore (G3 _ _ _ _ _ _ _ _ _ _ _ _ _) he hl, bI_t h2, mb_f (by decide)]
    refine h _ (fun c hc => ?_) ?_ ?_ ?_ ?_ ?_ ?_ <;> simp (disch := omega) only [wr_ne, wr_eq, upd_eq, upd_ne, upd_upd, hd, nI_1, h1]
end REACH
