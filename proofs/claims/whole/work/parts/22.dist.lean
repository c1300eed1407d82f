/-! DISTANCES: edges that part two vertices; the last edge of a path; the double sweep -/
noncomputable def ct (p : Nat → Prop) : Nat → Nat
  | 0 => 0
  | n + 1 => ct p n + @ite Nat (p n) (Classical.propDecidable _) 1 0
theorem ct_y {p : Nat → Prop} {n : Nat} (h : p n) : ct p (n + 1) = ct p n + 1 := by
  show ct p n + @ite Nat (p n) (Classical.propDecidable _) 1 0 = _
  rw [if_pos h]
theorem ct_n {p : Nat → Prop} {n : Nat} (h : ¬ p n) : ct p (n + 1) = ct p n := by
  show ct p n + @ite Nat (p n) (Classical.propDecidable _) 1 0 = _
  rw [if_neg h]; rfl
theorem ct_congr {p q : Nat → Prop} : ∀ {n : Nat}, (∀ i, i < n → (p i ↔ q i)) → ct p n = ct q n
  | 0, _ => rfl
  | n + 1, h => by
    have e := ct_congr (n := n) (fun i hi => h i (by omega))
    by_cases hp : p n
    · rw [ct_y hp, ct_y ((h n (by omega)).mp hp), e]
    · rw [ct_n hp, ct_n (fun q => hp ((h n (by omega)).mpr q)), e]
theorem ct_0 {p : Nat → Prop} : ∀ {n : Nat}, (∀ i, i < n → ¬ p i) → ct p n = 0
  | 0, _ => rfl
  | n + 1, h => by rw [ct_n (h n (by omega)), ct_0 (fun i hi => h i (by omega))]
theorem ct_ins {p q : Nat → Prop} {e : Nat} : ∀ {n : Nat}, e < n → ¬ p e → (∀ i, i < n → (q i ↔ p i ∨ i = e)) → ct q n = ct p n + 1
  | 0, h, _, _ => absurd h (Nat.not_lt_zero _)
  | n + 1, h, hp, hq => by
    by_cases hen : e = n
    · subst hen
      rw [ct_y ((hq e (by omega)).mpr (Or.inr rfl)), ct_n hp, ct_congr (p := q) (q := p) (fun i hi => by rw [hq i (by omega)]; exact ⟨fun z => z.elim id (fun z => by omega), Or.inl⟩)]
    · have ih := ct_ins (n := n) (show e < n by omega) hp (fun i hi => hq i (by omega))
      by_cases hn : p n
      · rw [ct_y hn, ct_y ((hq n (by omega)).mpr (Or.inl hn)), ih]
      · rw [ct_n hn, ct_n (fun z => ((hq n (by omega)).mp z).elim hn (fun z => hen z.symm)), ih]
theorem ct_le2 {p1 p2 q1 q2 : Nat → Prop} : ∀ {n : Nat}, (∀ i, i < n → (p1 i → q1 i ∨ q2 i) ∧ (p2 i → q1 i ∨ q2 i) ∧ (p1 i → p2 i → q1 i ∧ q2 i)) → ct p1 n + ct p2 n ≤ ct q1 n + ct q2 n
  | 0, _ => Nat.le_refl _
  | n + 1, h => by
    have ih := ct_le2 (n := n) (fun i hi => h i (by omega))
    obtain ⟨h1, h2, h3⟩ := h n (by omega)
    by_cases a1 : p1 n <;> by_cases a2 : p2 n <;> by_cases b1 : q1 n <;> by_cases b2 : q2 n <;>
      simp only [ct_y, ct_n, a1, a2, b1, b2, not_false_eq_true] <;> first | omega | (exfalso; simp_all)
/-- e parts u from v -/
def prt (a b : Nat → Nat) (S : Nat → Prop) (u v e : Nat) : Prop := S e ∧ ¬ cn a b (fun f => S f ∧ f ≠ e) u v
section DST
variable {a b K : Nat → Nat} {S : Nat → Prop} {r k : Nat} {R R' : Nat → Prop} {par dep pe par' dep' pe' : Nat → Nat} {u v w x y z e f : Nat}
theorem prt_symm : prt a b S u v e ↔ prt a b S v u e := ⟨fun h => ⟨h.1, fun q => h.2 (cn_symm q)⟩, fun h => ⟨h.1, fun q => h.2 (cn_symm q)⟩⟩
theorem rt_ct (hA : acy a b S) (hk : ∀ e, S e → e < k) (h : rt a b S r R par dep pe) : ∀ v, R v → dep v = ct (prt a b S r v) k := by
  refine rt_ind h ?_ (fun v hv hne ih => ?_)
  · rw [h.2.1, ct_0 (fun i _ q => q.2 (cn_refl _ _))]
  · obtain ⟨h1, h2, h3, -⟩ := h.2.2.1 v hv hne
    rw [h2, ih]
    refine (ct_ins (e := pe v) (hk _ h3) (fun q => q.2 (rt_par h hv hne)) (fun e he => ?_)).symm
    by_cases hpe : e = pe v
    · subst hpe
      exact ⟨fun _ => Or.inr rfl, fun _ => ⟨h3, rt_sep hA h hv hne⟩⟩
    · have hs := rt_step h hv hne (T := fun f => S f ∧ f ≠ e) ⟨h3, fun q => hpe q.symm⟩
      exact ⟨fun q => Or.inl ⟨q.1, fun z => q.2 (cn_trans z hs)⟩, fun q => q.elim (fun q => ⟨q.1, fun z => q.2 (cn_trans z (cn_symm hs))⟩) (fun q => absurd q hpe)⟩
/-- the depth is the same from both ends -/
theorem rt_dep_symm (hA : acy a b S) (hk : ∀ e, S e → e < k) (h : rt a b S u R par dep pe) (h' : rt a b S v R' par' dep' pe') (hv : R v) : dep v = dep' u := by
  have hu : R' u := (rt_cn h').mpr (cn_symm ((rt_cn h).mp hv))
  rw [rt_ct hA hk h v hv, rt_ct hA hk h' u hu]
  exact ct_congr (fun i _ => prt_symm)
/-- f is the last edge of the path from u to v -/
def lst (a b K : Nat → Nat) (S : Nat → Prop) (u v f : Nat) : Prop := S f ∧ cn a b (fun g => S g ∧ K g ≤ K f) u v ∧ ¬ cn a b (fun g => S g ∧ g ≠ f) u v
theorem lst_symm (h : lst a b K S u v f) : lst a b K S v u f := ⟨h.1, cn_symm h.2.1, fun q => h.2.2 (cn_symm q)⟩
theorem lst_uni (h : lst a b K S u v e) (h' : lst a b K S u v f) (inj : ∀ x y, S x → S y → K x = K y → x = y) : e = f := by
  rcases Nat.lt_trichotomy (K e) (K f) with q | q | q
  · exact absurd (cn_mono (fun g z => ⟨z.1, fun y => by rw [y] at z; omega⟩) h.2.1) h'.2.2
  · exact inj e f h.1 h'.1 q
  · exact absurd (cn_mono (fun g z => ⟨z.1, fun y => by rw [y] at z; omega⟩) h'.2.1) h.2.2
theorem lst_first (hA : acy a b S) (h : rt a b S r R par dep pe) (hv : R v) (hne : v ≠ r) (hp : par v = r) : lst a b K S r v (pe v) := by
  have h3 := (h.2.2.1 v hv hne).2.2.1
  have hs := rt_step h hv hne (T := fun g => S g ∧ K g ≤ K (pe v)) ⟨h3, Nat.le_refl _⟩
  rw [hp] at hs
  exact ⟨h3, hs, rt_sep hA h hv hne⟩
theorem lst_new (hA : acy a b S) (h : rt a b S r R par dep pe) (hv : R v) (hne : v ≠ r) (hl : lst a b K S r (par v) f) (hK : K f ≤ K (pe v)) : lst a b K S r v (pe v) := by
  have h3 := (h.2.2.1 v hv hne).2.2.1
  exact ⟨h3, cn_trans (cn_mono (fun g z => ⟨z.1, Nat.le_trans z.2 hK⟩) hl.2.1) (rt_step h hv hne (T := fun g => S g ∧ K g ≤ K (pe v)) ⟨h3, Nat.le_refl _⟩), rt_sep hA h hv hne⟩
theorem lst_old (h : rt a b S r R par dep pe) (hv : R v) (hne : v ≠ r) (hl : lst a b K S r (par v) f) (hK : K (pe v) < K f) : lst a b K S r v f := by
  have h3 := (h.2.2.1 v hv hne).2.2.1
  have hpf : pe v ≠ f := fun q => by rw [q] at hK; exact Nat.lt_irrefl _ hK
  exact ⟨hl.1, cn_trans hl.2.1 (rt_step h hv hne (T := fun g => S g ∧ K g ≤ K f) ⟨h3, Nat.le_of_lt hK⟩), fun q => hl.2.2 (cn_trans q (cn_symm (rt_step h hv hne (T := fun g => S g ∧ g ≠ f) ⟨h3, hpf⟩)))⟩
/-- an edge has two sides -/
theorem two_sides (hA : acy a b S) (he : S e) (huv : cn a b S u v) (huw : cn a b S u w) (h1 : ¬ cn a b (fun f => S f ∧ f ≠ e) u v) (h2 : ¬ cn a b (fun f => S f ∧ f ≠ e) u w) : cn a b (fun f => S f ∧ f ≠ e) v w := by
  have sp : ∀ {x y}, cn a b S x y → cn a b (fun f => S f ∧ f ≠ e) x y ∨ (cn a b (fun f => S f ∧ f ≠ e) x (a e) ∧ cn a b (fun f => S f ∧ f ≠ e) (b e) y) ∨ (cn a b (fun f => S f ∧ f ≠ e) x (b e) ∧ cn a b (fun f => S f ∧ f ≠ e) (a e) y) := fun q => cn_split (e := e) (fun g hg => by
    by_cases z : g = e
    · exact Or.inr z
    · exact Or.inl ⟨hg, z⟩) q
  rcases sp huv with q | q | q
  · exact absurd q h1
  · rcases sp huw with z | z | z
    · exact absurd z h2
    · exact cn_trans (cn_symm q.2) z.2
    · exact absurd (cn_trans (cn_symm q.1) z.1) (hA e he)
  · rcases sp huw with z | z | z
    · exact absurd z h2
    · exact absurd (cn_trans (cn_symm z.1) q.1) (hA e he)
    · exact cn_trans (cn_symm q.2) z.2
/-- two edges don't part four vertices crosswise -/
theorem no_cross (he : S e) (hf : S f) (hxu : cn a b (fun g => S g ∧ g ≠ e) x u) (hyv : cn a b (fun g => S g ∧ g ≠ e) y v) (hxy : ¬ cn a b (fun g => S g ∧ g ≠ e) x y) (hxv : cn a b (fun g => S g ∧ g ≠ f) x v) (hyu : cn a b (fun g => S g ∧ g ≠ f) y u) (hxy' : ¬ cn a b (fun g => S g ∧ g ≠ f) x y) : False := by
  by_cases hef : e = f
  · subst hef
    exact hxy (cn_trans hxv (cn_symm hyv))
  · have hff : (fun g => S g ∧ g ≠ e) f := ⟨hf, fun q => hef q.symm⟩
    have key : ∀ {p q}, cn a b (fun g => S g ∧ g ≠ e) p q → ¬ cn a b (fun g => S g ∧ g ≠ e) (a f) p → cn a b (fun g => S g ∧ g ≠ f) p q := by
      intro p q hpq hn
      rcases cn_split (S := fun g => (S g ∧ g ≠ e) ∧ g ≠ f) (e := f) (fun g hg => by
        by_cases z : g = f
        · exact Or.inr z
        · exact Or.inl ⟨hg, z⟩) hpq with z | z | z
      · exact cn_mono (fun g y => ⟨y.1.1, y.2⟩) z
      · exact absurd (cn_symm (cn_mono (fun g y => y.1) z.1)) hn
      · exact absurd (cn_trans (cn_edge hff) (cn_symm (cn_mono (fun g y => y.1) z.1))) hn
    by_cases hx : cn a b (fun g => S g ∧ g ≠ e) (a f) x
    · have := key hyv (fun z => hxy (cn_trans (cn_symm hx) z))
      exact hxy' (cn_trans hxv (cn_symm this))
    · have := key hxu hx
      exact hxy' (cn_trans this (cn_symm hyu))
/-- four vertices of a tree: of the three sums of distances the two greatest are the same -/
theorem four_pt (hA : acy a b S) (hxy : cn a b S x y) (hxu : cn a b S x u) (hxv : cn a b S x v) :
    ct (prt a b S x y) k + ct (prt a b S u v) k ≤ ct (prt a b S x u) k + ct (prt a b S y v) k ∨ ct (prt a b S x y) k + ct (prt a b S u v) k ≤ ct (prt a b S x v) k + ct (prt a b S y u) k := by
  have ts := fun {e p q s} (he : S e) (hp : cn a b S p q) (hs : cn a b S p s) => two_sides (u := p) (v := q) (w := s) hA he hp hs
  have hyu : cn a b S y u := cn_trans (cn_symm hxy) hxu
  have hyv : cn a b S y v := cn_trans (cn_symm hxy) hxv
  have huv : cn a b S u v := cn_trans (cn_symm hxu) hxv
  by_cases hB : ∃ e, S e ∧ cn a b (fun g => S g ∧ g ≠ e) x u ∧ cn a b (fun g => S g ∧ g ≠ e) y v ∧ ¬ cn a b (fun g => S g ∧ g ≠ e) x y
  · obtain ⟨e, he, b1, b2, b3⟩ := hB
    refine Or.inr (ct_le2 (fun i _ => ⟨fun q => ?_, fun q => ?_, fun q q2 => ?_⟩))
    · by_cases z : cn a b (fun g => S g ∧ g ≠ i) x v
      · refine Or.inr ⟨q.1, fun z2 => ?_⟩
        exact no_cross he q.1 b1 b2 b3 z z2 q.2
      · exact Or.inl ⟨q.1, z⟩
    · by_cases z : cn a b (fun g => S g ∧ g ≠ i) x v
      · refine Or.inr ⟨q.1, fun z2 => ?_⟩
        refine no_cross he q.1 b1 b2 b3 z z2 (fun z3 => q.2 (cn_trans (cn_symm z2) (cn_trans (cn_symm z3) z)))
      · exact Or.inl ⟨q.1, z⟩
    · have hnc := fun z z2 => no_cross (x := x) (u := u) (y := y) (v := v) he q.1 b1 b2 b3 z z2 q.2
      constructor
      · exact ⟨q.1, fun z => hnc z (ts q.1 (cn_symm hyv) (cn_symm huv) (fun w => q.2 (cn_trans z w)) (fun w => q2.2 (cn_symm w)))⟩
      · refine ⟨q.1, fun z => hnc ?_ z⟩
        exact ts q.1 (cn_symm hxu) huv (fun w => q.2 (cn_trans (cn_symm w) (cn_symm z))) q2.2
  · refine Or.inl (ct_le2 (fun i _ => ⟨fun q => ?_, fun q => ?_, fun q q2 => ?_⟩))
    · by_cases z : cn a b (fun g => S g ∧ g ≠ i) x u
      · exact Or.inr ⟨q.1, fun z2 => hB ⟨i, q.1, z, z2, q.2⟩⟩
      · exact Or.inl ⟨q.1, z⟩
    · by_cases z : cn a b (fun g => S g ∧ g ≠ i) x u
      · exact Or.inr ⟨q.1, fun z2 => hB ⟨i, q.1, z, z2, fun z3 => q.2 (cn_trans (cn_symm z) (cn_trans z3 z2))⟩⟩
      · exact Or.inl ⟨q.1, z⟩
    · constructor
      · refine ⟨q.1, fun z => hB ⟨i, q.1, z, ?_, q.2⟩⟩
        exact cn_symm (ts q.1 huv (cn_symm hyu) q2.2 (fun w => q.2 (cn_trans z w)))
      · refine ⟨q.1, fun z => hB ⟨i, q.1, ?_, z, q.2⟩⟩
        exact cn_symm (ts q.1 (cn_symm huv) (cn_symm hxv) (fun w => q2.2 (cn_symm w)) (fun w => q.2 (cn_trans (cn_symm w) (cn_symm z)))) 
end DST
