section FOR
noncomputable def cs (w : Nat → Nat) (p : Nat → Prop) : Nat → Nat
  | 0 => 0
  | n + 1 => cs w p n + @ite _ (p n) (Classical.propDecidable (p n)) (w n) 0
theorem cs_y {w : Nat → Nat} {p : Nat → Prop} {n : Nat} (h : p n) : cs w p (n + 1) = cs w p n + w n := by simp [cs, h]
theorem cs_n {w : Nat → Nat} {p : Nat → Prop} {n : Nat} (h : ¬ p n) : cs w p (n + 1) = cs w p n := by simp [cs, h]
theorem cs_congr {w w' : Nat → Nat} {p q : Nat → Prop} : ∀ {n : Nat}, (∀ i, i < n → (p i ↔ q i)) → (∀ i, i < n → p i → w i = w' i) → cs w p n = cs w' q n
  | 0, _, _ => rfl
  | n + 1, h, hw => by
    have ih := cs_congr (n := n) (fun i hi => h i (by omega)) (fun i hi => hw i (by omega))
    by_cases hp : p n
    · rw [cs_y hp, cs_y ((h n (by omega)).mp hp), ih, hw n (by omega) hp]
    · rw [cs_n hp, cs_n (fun q => hp ((h n (by omega)).mpr q)), ih]
theorem cs_ins {w : Nat → Nat} {p q : Nat → Prop} {e : Nat} : ∀ {n : Nat}, e < n → ¬ p e → (∀ i, i < n → (q i ↔ p i ∨ i = e)) → cs w q n = cs w p n + w e
  | 0, h, _, _ => absurd h (Nat.not_lt_zero _)
  | n + 1, he, hp, h => by
    by_cases hn : e = n
    · subst hn
      rw [cs_y ((h e (by omega)).mpr (Or.inr rfl)), cs_n hp, cs_congr (q := p) (w' := w) (fun i hi => by rw [h i (by omega)]; exact ⟨fun q => q.elim id (fun q => by omega), Or.inl⟩) (fun _ _ _ => rfl)]
    · have ih := cs_ins (w := w) (n := n) (by omega) hp (fun i hi => h i (by omega))
      by_cases hpn : p n
      · rw [cs_y hpn, cs_y ((h n (by omega)).mpr (Or.inl hpn)), ih]; omega
      · rw [cs_n hpn, cs_n (fun q => ((h n (by omega)).mp q).elim hpn (fun z => hn z.symm)), ih]
theorem cs_le {w : Nat → Nat} {p : Nat → Prop} {e : Nat} (n : Nat) (he : e < n) (hp : p e) : w e ≤ cs w p n := by
  have h := cs_ins (w := w) (p := fun g => p g ∧ g ≠ e) (q := p) (e := e) he (fun q => q.2 rfl) (fun i hi => ⟨fun q => (Classical.em (i = e)).elim Or.inr (fun z => Or.inl ⟨q, z⟩), fun q => q.elim (fun z => z.1) (fun z => by rw [z]; exact hp)⟩)
  omega
theorem ct_pos {p : Nat → Prop} {e n : Nat} (he : e < n) (hp : p e) : ct p n = ct (fun g => p g ∧ g ≠ e) n + 1 :=
  ct_ins he (fun q => q.2 rfl) (fun i hi => ⟨fun q => (Classical.em (i = e)).elim Or.inr (fun z => Or.inl ⟨q, z⟩), fun q => q.elim (fun z => z.1) (fun z => by rw [z]; exact hp)⟩)
theorem ct_le {p : Nat → Prop} : ∀ (n : Nat), ct p n ≤ n
  | 0 => Nat.le_refl _
  | n + 1 => by
    have := ct_le (p := p) n
    by_cases h : p n
    · rw [ct_y h]; omega
    · rw [ct_n h]; omega
def FV (V : Mm) (k : Nat) (a b w : Nat → Nat) (F : Nat → Prop) : Prop := (∀ u v, u < 20 → v < 20 → (∃ e, F e ∧ jn a b e u v ∧ V (9 + u) v = nI e) ∨ ((∀ e, F e → ¬ jn a b e u v) ∧ V (9 + u) v = -1)) ∧ (V 7 2 = nI (cs w F k)) ∧ (V 7 3 = nI (ct F k)) ∧ (∀ e, F e → e < k) ∧ (acy a b F)
theorem FV_row {V : Mm} {k : Nat} {a b w : Nat → Nat} {F : Nat → Prop} (h : FV V k a b w F) : ∀ u v, u < 20 → v < 20 → (∃ e, F e ∧ jn a b e u v ∧ V (9 + u) v = nI e) ∨ ((∀ e, F e → ¬ jn a b e u v) ∧ V (9 + u) v = -1) := h.1
theorem FV_ws {V : Mm} {k : Nat} {a b w : Nat → Nat} {F : Nat → Prop} (h : FV V k a b w F) : V 7 2 = nI (cs w F k) := h.2.1
theorem FV_es {V : Mm} {k : Nat} {a b w : Nat → Nat} {F : Nat → Prop} (h : FV V k a b w F) : V 7 3 = nI (ct F k) := h.2.2.1
theorem FV_fk {V : Mm} {k : Nat} {a b w : Nat → Nat} {F : Nat → Prop} (h : FV V k a b w F) : ∀ e, F e → e < k := h.2.2.2.1
theorem FV_ac {V : Mm} {k : Nat} {a b w : Nat → Nat} {F : Nat → Prop} (h : FV V k a b w F) : acy a b F := h.2.2.2.2
variable {n k : Nat} {a b w : Nat → Nat} {pr F F' : Nat → Prop} {V : Mm} {post : Int32 → Mm → Prop} {pos : Mm → Prop} {u v e f : Nat}
theorem FV_fr {V V' : Mm} (h : FV V k a b w F) (h7 : V' 7 = V 7) (hr : ∀ u, u < 20 → V' (9 + u) = V (9 + u)) : FV V' k a b w F := by
  refine ⟨fun u v hu hv => ?_, by rw [h7]; exact FV_ws h, by rw [h7]; exact FV_es h, FV_fk h, FV_ac h⟩
  rw [hr u hu]; exact FV_row h u v hu hv
theorem FV_fr2 {V V' : Mm} (h : FV V k a b w F) (hr : ∀ c, 7 ≤ c ∧ c < 29 → V' c = V c) : FV V' k a b w F :=
  FV_fr h (hr 7 (by omega)) (fun u hu => hr (9 + u) (by omega))
theorem FV_wr {V : Mm} (h : FV V k a b w F) {c j : Nat} {x : Int32} (hc : c < 7 ∨ 28 < c) : FV (wr V c j x) k a b w F :=
  FV_fr2 h (fun d hd => wr_ne V j x (by omega))
theorem FV_cg (h : FV V k a b w F) (hF : ∀ e, F e ↔ F' e) : FV V k a b w F' := by
  have : F = F' := funext fun e => propext (hF e)
  rw [← this]; exact h
theorem jn_cn {S : Nat → Prop} (h : jn a b e u v) (hS : S e) : cn a b S u v := by
  rcases h with ⟨rfl, rfl⟩ | ⟨rfl, rfl⟩
  · exact cn_edge hS
  · exact cn_edge' hS
theorem jn_ends (h : jn a b e u v) (h2 : jn a b f u v) : jn a b f (a e) (b e) := by
  rcases h with ⟨rfl, rfl⟩ | ⟨rfl, rfl⟩
  · exact h2
  · exact jn_sw.mp h2
/-- no two edges of a forest join the same vertices -/
theorem jn_uni (hA : acy a b F) (he : F e) (hf : F f) (h : jn a b e u v) (h2 : jn a b f u v) : e = f :=
  Classical.byContradiction fun q => hA e he (jn_cn (jn_ends h h2) (S := fun g => F g ∧ g ≠ e) ⟨hf, fun z => q z.symm⟩)
/-- the pairs that an edge of the forest joins -/
def nb (a b : Nat → Nat) (F : Nat → Prop) (u v : Nat) : Prop := ∃ e, F e ∧ jn a b e u v
theorem FV_nb (h : FV V k a b w F) (hk : k ≤ 60) (hu : u < 20) (hv : v < 20) : V (9 + u) v = -1 ↔ ¬ nb a b F u v := by
  rcases FV_row h u v hu hv with ⟨e, h1, h2, h3⟩ | ⟨h1, h2⟩
  · have := FV_fk h e h1
    rw [h3, nI_neg (by omega)]
    exact ⟨fun q => q.elim, fun q => q ⟨e, h1, h2⟩⟩
  · exact ⟨fun _ q => q.elim fun e q => h1 e q.1 q.2, fun _ => h2⟩
theorem e_edgeJoining (H : GV V n k a b w pr) (hu : u < n) (hv : v < n) : wp_X0_edgeJoining V (nI u) (nI v) post = post (V (9 + u) v) V := by
  have := GV_n20 H
  unfold wp_X0_edgeJoining
  simp (disch := omega) only [e_hasVertex H hu, e_hasVertex H hv, nI_add, nI_1, nI_neg, neg_nI, nI_lt0, nI_eq0, nI_lt20, nI_le20, nI_lt60, nI_le60, nI_inI, nI_clamp, nI_eq, nI_leI, nI_ltI, neg_ltz, neg_eqz, one_eqz, bI_eq0, bI_eq1, bI_nar1, true_and, and_true, not_true_eq_false, not_false_eq_true, false_implies, true_implies, implies_true, forall_eq, false_and, and_false, or_false, false_or, or_true, true_or, iff_self, Classical.not_not, forall_const, ite_true, ite_false, reduceIte, eq_self]
theorem e_holds (H : GV V n k a b w pr) (I : FV V k a b w F) (he : e < k) : wp_X0_holds V (nI e) post = post (bI (F e)) V := by
  have h20 := GV_n20 H
  have h60 := GV_k60 H
  have h1 := GV_an H e he
  have h2 := GV_bn H e he
  unfold wp_X0_holds
  simp (disch := omega) only [e_hasEdge H he, e_firstEnd H he, e_secondEnd H he, e_edgeJoining H h1 h2, nI_add, nI_1, nI_neg, neg_nI, nI_lt0, nI_eq0, nI_lt20, nI_le20, nI_lt60, nI_le60, nI_inI, nI_clamp, nI_eq, nI_leI, nI_ltI, neg_ltz, neg_eqz, one_eqz, bI_eq0, bI_eq1, bI_nar1, true_and, and_true, not_true_eq_false, not_false_eq_true, false_implies, true_implies, implies_true, forall_eq, false_and, and_false, or_false, false_or, or_true, true_or, iff_self, Classical.not_not, forall_const, ite_true, ite_false, reduceIte, eq_self]
  rcases FV_row I (a e) (b e) (by omega) (by omega) with ⟨g, q1, q2, q3⟩ | ⟨q1, q2⟩
  · have := FV_fk I g q1
    rw [q3]
    by_cases h : F e
    · have : g = e := jn_uni (FV_ac I) q1 h q2 (Or.inl ⟨rfl, rfl⟩)
      rw [bI_t h, mb_t (by rw [this])]
    · rw [bI_f h, mb_f (fun z => h (by rw [nI_eq (by omega) (by omega)] at z; rw [← z]; exact q1))]
  · have h : ¬ F e := fun z => q1 e z (Or.inl ⟨rfl, rfl⟩)
    rw [q2, bI_f h, mb_f (fun z => (neg_nI (by omega)).mp z)]
theorem s_write (H : GV V n k a b w pr) {x : Int32} (hu : u < n) (hv : v < n) (h : pos (wr (wr V (9 + u) v x) (9 + v) u x)) : wp_X0_write V (nI u) (nI v) x pos := by
  have := GV_n20 H
  unfold wp_X0_write
  simp (disch := omega) only [e_hasVertex H hu, e_hasVertex H hv, nI_add, nI_1, nI_neg, neg_nI, nI_lt0, nI_eq0, nI_lt20, nI_le20, nI_lt60, nI_le60, nI_inI, nI_clamp, nI_eq, nI_leI, nI_ltI, neg_ltz, neg_eqz, one_eqz, bI_eq0, bI_eq1, bI_nar1, true_and, and_true, not_true_eq_false, not_false_eq_true, false_implies, true_implies, implies_true, forall_eq, false_and, and_false, or_false, false_or, or_true, true_or, iff_self, Classical.not_not, forall_const, ite_true, ite_false, reduceIte, eq_self]
  exact h
theorem wr2 {V : Mm} {p q : Nat} (hpq : p ≠ q) (x : Int32) (u v : Nat) : wr (wr V (9 + p) q x) (9 + q) p x (9 + u) v = @ite _ ((p = u ∧ q = v) ∨ (p = v ∧ q = u)) (Classical.propDecidable _) x (V (9 + u) v) := by
  have e1 : ∀ c d : Nat, (9 + c = 9 + d) ↔ c = d := by omega
  simp only [wr_at, e1]
  by_cases h1 : u = q
  · rw [if_pos h1]
    by_cases h2 : v = p
    · rw [if_pos (Or.inr ⟨h2.symm, h1.symm⟩), upd_at, if_pos h2]
    · rw [if_neg (by omega), upd_at, if_neg h2, if_neg (by omega), h1]
  · rw [if_neg h1]
    by_cases h2 : u = p
    · rw [if_pos h2, upd_at]
      by_cases h3 : v = q
      · rw [if_pos h3, if_pos (Or.inl ⟨h2.symm, h3.symm⟩)]
      · rw [if_neg h3, if_neg (by omega), h2]
    · rw [if_neg h2, if_neg (by omega)]
theorem s_link (H : GV V n k a b w pr) (I : FV V k a b w F) (he : e < k) (hne : ¬ F e) (hA : acy a b (fun g => F g ∨ g = e)) (h : ∀ V' : Mm, (∀ c, c < 7 ∨ 28 < c → V' c = V c) → FV V' k a b w (fun g => F g ∨ g = e) → pos V') : wp_X0_link V (nI e) pos := by
  have h20 := GV_n20 H
  have h60 := GV_k60 H
  have h1 := GV_an H e he
  have h2 := GV_bn H e he
  have h3 := GV_ab H e he
  unfold wp_X0_link
  rw [e_firstEnd H he, e_secondEnd H he]
  refine s_write H h1 h2 ?_
  have G := GV_wr (j := a e) (x := nI e) (GV_wr (j := b e) (x := nI e) H (show 9 + a e ≠ 1 ∧ 9 + a e ≠ 3 ∧ 9 + a e ≠ 4 ∧ 9 + a e ≠ 5 ∧ 9 + a e ≠ 6 by omega)) (show 9 + b e ≠ 1 ∧ 9 + b e ≠ 3 ∧ 9 + b e ≠ 4 ∧ 9 + b e ≠ 5 ∧ 9 + b e ≠ 6 by omega)
  rw [e_weightOf G he]
  simp (disch := omega) only [true_and, and_true, not_true_eq_false, not_false_eq_true, false_implies, true_implies, implies_true, forall_eq, false_and, and_false, or_false, false_or, or_true, true_or, iff_self, Classical.not_not, forall_const, ite_true, ite_false, reduceIte, eq_self, wr_eq, upd_eq, wr_ne, upd_ne, FV_ws I, FV_es I, nI_add, nI_1]
  have hct : ct (fun g => F g ∨ g = e) k = ct F k + 1 := ct_ins he hne (fun i _ => Iff.rfl)
  have hcs : cs w (fun g => F g ∨ g = e) k = cs w F k + w e := cs_ins he hne (fun i _ => Iff.rfl)
  refine h _ (fun c hc => ?_) ⟨fun u v hu hv => ?_, ?_, ?_, fun g q => q.elim (FV_fk I g) (fun z => by omega), hA⟩
  · simp (disch := omega) only [wr_ne]
  · rw [wr_ne _ _ _ (show 9 + u ≠ 7 by omega), wr_ne _ _ _ (show 9 + u ≠ 7 by omega), wr2 h3]
    by_cases hj : jn a b e u v
    · exact Or.inl ⟨e, Or.inr rfl, hj, if_pos hj⟩
    · rw [if_neg (show ¬ ((a e = u ∧ b e = v) ∨ (a e = v ∧ b e = u)) from hj)]
      rcases FV_row I u v hu hv with ⟨g, r1, r2, r3⟩ | ⟨r1, r2⟩
      · exact Or.inl ⟨g, Or.inl r1, r2, r3⟩
      · exact Or.inr ⟨fun g q z => q.elim (fun q => r1 g q z) (fun q => hj (by rw [← q]; exact z)), r2⟩
  · simp (disch := omega) only [wr_eq, upd_eq, wr_ne, upd_ne, hcs]
  · simp (disch := omega) only [wr_eq, upd_eq, wr_ne, upd_ne, hct]
theorem acy_mono {S T : Nat → Prop} (hA : acy a b T) (h : ∀ e, S e → T e) : acy a b S := fun e he q => hA e (h e he) (cn_mono (fun _ z => ⟨h _ z.1, z.2⟩) q)
theorem s_cut (H : GV V n k a b w pr) (I : FV V k a b w F) (he : F e) (h : ∀ V' : Mm, (∀ c, c < 7 ∨ 28 < c → V' c = V c) → FV V' k a b w (fun g => F g ∧ g ≠ e) → pos V') : wp_X0_cut V (nI e) pos := by
  have hk := FV_fk I e he
  have h20 := GV_n20 H
  have h60 := GV_k60 H
  have h1 := GV_an H e hk
  have h2 := GV_bn H e hk
  have h3 := GV_ab H e hk
  unfold wp_X0_cut
  rw [e_firstEnd H hk, e_secondEnd H hk]
  refine s_write H h1 h2 ?_
  have G := GV_wr (j := a e) (x := -1) (GV_wr (j := b e) (x := -1) H (show 9 + a e ≠ 1 ∧ 9 + a e ≠ 3 ∧ 9 + a e ≠ 4 ∧ 9 + a e ≠ 5 ∧ 9 + a e ≠ 6 by omega)) (show 9 + b e ≠ 1 ∧ 9 + b e ≠ 3 ∧ 9 + b e ≠ 4 ∧ 9 + b e ≠ 5 ∧ 9 + b e ≠ 6 by omega)
  rw [e_weightOf G hk]
  have hct : ct F k = ct (fun g => F g ∧ g ≠ e) k + 1 := ct_pos hk he
  have hcs : cs w F k = cs w (fun g => F g ∧ g ≠ e) k + w e := cs_ins hk (fun q => q.2 rfl) (fun i hi => ⟨fun q => (Classical.em (i = e)).elim Or.inr (fun z => Or.inl ⟨q, z⟩), fun q => q.elim (fun z => z.1) (fun z => by rw [z]; exact he)⟩)
  simp (disch := omega) only [true_and, and_true, not_true_eq_false, not_false_eq_true, false_implies, true_implies, implies_true, forall_eq, false_and, and_false, or_false, false_or, or_true, true_or, iff_self, Classical.not_not, forall_const, ite_true, ite_false, reduceIte, eq_self, wr_eq, upd_eq, wr_ne, upd_ne, FV_ws I, FV_es I, nI_sub, nI_sub1]
  refine h _ (fun c hc => ?_) ⟨fun u v hu hv => ?_, ?_, ?_, fun g q => FV_fk I g q.1, acy_mono (FV_ac I) (fun _ z => z.1)⟩
  · simp (disch := omega) only [wr_ne]
  · rw [wr_ne _ _ _ (show 9 + u ≠ 7 by omega), wr_ne _ _ _ (show 9 + u ≠ 7 by omega), wr2 h3]
    by_cases hj : jn a b e u v
    · exact Or.inr ⟨fun g q z => q.2 (jn_uni (FV_ac I) q.1 he z hj), if_pos hj⟩
    · rw [if_neg (show ¬ ((a e = u ∧ b e = v) ∨ (a e = v ∧ b e = u)) from hj)]
      rcases FV_row I u v hu hv with ⟨g, r1, r2, r3⟩ | ⟨r1, r2⟩
      · exact Or.inl ⟨g, ⟨r1, fun z => hj (by rw [← z]; exact r2)⟩, r2, r3⟩
      · exact Or.inr ⟨fun g q z => r1 g q.1 z, r2⟩
  · simp (disch := omega) only [wr_eq, upd_eq, wr_ne, upd_ne, hcs, Nat.add_sub_cancel]
  · simp (disch := omega) only [wr_eq, upd_eq, wr_ne, upd_ne, hct, Nat.add_sub_cancel]
theorem s_countNeighbours (H : GV V n k a b w pr) (I : FV V k a b w F) (hu : u < n) (h : post (nI (ct (nb a b F u) n)) V) : wp_X0_countNeighbours V (nI u) post := by
  have h20 := GV_n20 H
  have key : ∀ f i, i + f = n → wp_X0_countNeighbours_L4 (nI u) post (fun (V7 : Mm) (x8 : Int32) (x9 : Int32) => post x8 V7) (f + 1) V (nI (ct (nb a b F u) i)) (nI i) := by
    intro f
    induction f with
    | zero =>
      intro i hi
      have : i = n := by omega
      subst this
      simp (disch := omega) only [wp_X0_countNeighbours_L4, wp_X3_vertexCount, GV_n H, nI_add, nI_1, nI_neg, neg_nI, nI_lt0, nI_eq0, nI_lt20, nI_le20, nI_lt60, nI_le60, nI_inI, nI_clamp, nI_eq, nI_leI, nI_ltI, neg_ltz, neg_eqz, one_eqz, bI_eq0, bI_eq1, bI_nar1, Nat.le_refl, true_and, and_true, not_true_eq_false, not_false_eq_true, false_implies, true_implies, implies_true, forall_eq, false_and, and_false, or_false, false_or, or_true, true_or, iff_self, Classical.not_not, forall_const, ite_true, ite_false, reduceIte, eq_self]
      exact h
    | succ f ih =>
      intro i hi
      rw [wp_X0_countNeighbours_L4]
      simp (disch := omega) only [wp_X3_vertexCount, GV_n H, e_edgeJoining H hu (show i < n by omega), nI_add, nI_1, nI_neg, neg_nI, nI_lt0, nI_eq0, nI_lt20, nI_le20, nI_lt60, nI_le60, nI_inI, nI_clamp, nI_eq, nI_leI, nI_ltI, neg_ltz, neg_eqz, one_eqz, bI_eq0, bI_eq1, bI_nar1, show ¬ n ≤ i by omega, true_and, and_true, not_true_eq_false, not_false_eq_true, false_implies, true_implies, implies_true, forall_eq, false_and, and_false, or_false, false_or, or_true, true_or, iff_self, Classical.not_not, forall_const, ite_true, ite_false, reduceIte, eq_self]
      have ih := ih (i + 1) (by omega)
      rw [FV_nb I (GV_k60 H) (by omega) (by omega)]
      by_cases q : nb a b F u i
      · rw [mb_f (fun z => z q)]; rw [ct_y q] at ih; exact ih
      · rw [mb_t q]; rw [ct_n q] at ih; exact ih
  exact ⟨n + 1, key n 0 (by omega)⟩
theorem s_neighbourAt (H : GV V n k a b w pr) (I : FV V k a b w F) (hu : u < n) {x : Int32} (h : ∀ v, v < n → nb a b F u v → nI (ct (nb a b F u) v) = x → post (nI v) V) (h2 : (∀ v, v < n → nb a b F u v → nI (ct (nb a b F u) v) ≠ x) → post (-1) V) : wp_X0_neighbourAt V (nI u) x post := by
  have h20 := GV_n20 H
  have key : ∀ f i, i + f = n → (∀ v, v < i → nb a b F u v → nI (ct (nb a b F u) v) ≠ x) → wp_X0_neighbourAt_L5 (nI u) x post (fun (V8 : Mm) (x9 : Int32) (x10 : Int32) => post (-1) V8) (f + 1) V (nI (ct (nb a b F u) i)) (nI i) := by
    intro f
    induction f with
    | zero =>
      intro i hi hx
      have : i = n := by omega
      subst this
      simp (disch := omega) only [wp_X0_neighbourAt_L5, wp_X3_vertexCount, GV_n H, nI_add, nI_1, nI_neg, neg_nI, nI_lt0, nI_eq0, nI_lt20, nI_le20, nI_lt60, nI_le60, nI_inI, nI_clamp, nI_eq, nI_leI, nI_ltI, neg_ltz, neg_eqz, one_eqz, bI_eq0, bI_eq1, bI_nar1, Nat.le_refl, true_and, and_true, not_true_eq_false, not_false_eq_true, false_implies, true_implies, implies_true, forall_eq, false_and, and_false, or_false, false_or, or_true, true_or, iff_self, Classical.not_not, forall_const, ite_true, ite_false, reduceIte, eq_self]
      exact h2 hx
    | succ f ih =>
      intro i hi hx
      rw [wp_X0_neighbourAt_L5]
      simp (disch := omega) only [wp_X3_vertexCount, GV_n H, e_edgeJoining H hu (show i < n by omega), nI_1, nI_leI, show ¬ n ≤ i by omega, true_and, and_true, not_true_eq_false, not_false_eq_true, false_implies, true_implies, implies_true, forall_eq, false_and, and_false, or_false, false_or, or_true, true_or, iff_self, Classical.not_not, forall_const, ite_true, ite_false, reduceIte, eq_self]
      rw [FV_nb I (GV_k60 H) (by omega) (by omega)]
      by_cases q : nb a b F u i
      · rw [mb_f (fun z => z q)]
        refine ⟨fun z => h i (by omega) q z, fun z => ?_⟩
        have ih := ih (i + 1) (by omega) (fun v hv hn => (Nat.lt_or_ge v i).elim (fun y => hx v y hn) (fun y => by rw [show v = i by omega]; exact z))
        rw [ct_y q] at ih; exact ih
      · rw [mb_t q]
        have ih := ih (i + 1) (by omega) (fun v hv hn => (Nat.lt_or_ge v i).elim (fun y => hx v y hn) (fun y => absurd (by rw [← show v = i by omega]; exact hn) q))
        rw [ct_n q] at ih; exact ih
  exact ⟨n + 1, key n 0 (by omega) (fun v hv => absurd hv (Nat.not_lt_zero _))⟩
end FOR
