section TREE2
variable {n k : Nat} {a b K : Nat → Nat} {S : Nat → Prop} {r : Nat} {R : Nat → Prop} {par dep pe : Nat → Nat} {u v x y m m' e f i : Nat}
def ps (g : Nat → Int32) (par : Nat → Nat) : Nat → Nat → Int32
  | 0, v => g v
  | i + 1, v => g v + ps g par i (par v)
noncomputable def sm (p : Nat → Prop) (g : Nat → Int32) : Nat → Int32
  | 0 => 0
  | n + 1 => sm p g n + @ite _ (p n) (Classical.propDecidable (p n)) (g n) 0
theorem sm_y {p : Nat → Prop} {g : Nat → Int32} (h : p n) : sm p g (n + 1) = sm p g n + g n := by simp [sm, h]
theorem sm_n {p : Nat → Prop} {g : Nat → Int32} (h : ¬ p n) : sm p g (n + 1) = sm p g n := by simp [sm, h]
theorem sm_congr {p q : Nat → Prop} {g g' : Nat → Int32} : ∀ {n : Nat}, (∀ i, i < n → (p i ↔ q i)) → (∀ i, i < n → p i → g i = g' i) → sm p g n = sm q g' n
  | 0, _, _ => rfl
  | n + 1, h, hw => by
    have ih := sm_congr (n := n) (fun i hi => h i (by omega)) (fun i hi => hw i (by omega))
    by_cases hp : p n
    · rw [sm_y hp, sm_y ((h n (by omega)).mp hp), ih, hw n (by omega) hp]
    · rw [sm_n hp, sm_n (fun q => hp ((h n (by omega)).mpr q)), ih]
theorem sm_ins {p q : Nat → Prop} {g : Nat → Int32} : ∀ {n : Nat}, e < n → ¬ p e → (∀ i, i < n → (q i ↔ p i ∨ i = e)) → sm q g n = sm p g n + g e
  | 0, h, _, _ => absurd h (Nat.not_lt_zero _)
  | n + 1, he, hp, h => by
    by_cases hn : e = n
    · subst hn
      rw [sm_y ((h e (by omega)).mpr (Or.inr rfl)), sm_n hp, sm_congr (q := p) (g' := g) (fun i hi => by rw [h i (by omega)]; exact ⟨fun q => q.elim id (fun q => by omega), Or.inl⟩) (fun _ _ _ => rfl)]
    · have ih := sm_ins (g := g) (n := n) (by omega) hp (fun i hi => h i (by omega))
      by_cases hpn : p n
      · rw [sm_y hpn, sm_y ((h n (by omega)).mpr (Or.inl hpn)), ih, Int32.add_assoc, Int32.add_assoc, Int32.add_comm (g e)]
      · rw [sm_n hpn, sm_n (fun q => ((h n (by omega)).mp q).elim hpn (fun z => hn z.symm)), ih]
theorem sm_0 {p : Nat → Prop} {g : Nat → Int32} : ∀ {n : Nat}, (∀ i, i < n → ¬ p i) → sm p g n = 0
  | 0, _ => rfl
  | n + 1, h => by rw [sm_n (h n (by omega)), sm_0 (fun i hi => h i (by omega))]
theorem anc_le (h : rt a b S r R par dep pe) (hv : R v) (hx : anc par dep x v) (hd : dep v ≤ dep x) : x = v := by
  obtain ⟨i, hi, q⟩ := hx
  obtain ⟨h1, h2⟩ := rt_up h i v hv hi
  rw [q] at h2
  have : i = 0 := by omega
  rw [← q, this]; rfl
theorem anc_par (h : rt a b S r R par dep pe) (hv : R v) (hne : v ≠ r) : ¬ anc par dep v (par v) := fun q => by
  obtain ⟨h1, h2, -⟩ := h.2.2.1 v hv hne
  have := (anc_R h h1 q).2
  omega
theorem anc_tr (h : rt a b S r R par dep pe) (hv : R v) (hx : anc par dep x v) (hy : anc par dep y x) : anc par dep y v := by
  obtain ⟨i, hi, rfl⟩ := hx
  obtain ⟨j, hj, rfl⟩ := hy
  obtain ⟨h1, h2⟩ := rt_up h i v hv hi
  exact ⟨j + i, by omega, up_add par j i v⟩
theorem ps_sm (h : rt a b S r R par dep pe) (hn : ∀ v, R v → v < n) (g : Nat → Int32) : ∀ v, R v → ps g par (dep v) v = sm (fun x => anc par dep x v) g n := by
  refine rt_ind h ?_ (fun v hv hne ih => ?_)
  · rw [h.2.1, sm_ins (p := fun _ => False) (e := r) (hn r h.1) id (fun i _ => by rw [anc_of_root h]; exact ⟨Or.inr, fun q => q.elim False.elim id⟩), sm_0 (fun _ _ => id), Int32.zero_add]
    rfl
  · obtain ⟨h1, h2, -⟩ := h.2.2.1 v hv hne
    rw [sm_ins (p := fun x => anc par dep x (par v)) (e := v) (hn v hv) (anc_par h hv hne) (fun i _ => by rw [anc_step h hv hne]; exact Or.comm), ← ih, h2, Int32.add_comm]
    rfl
/-- where two ways to the root meet -/
def lca (par dep : Nat → Nat) (m u v : Nat) : Prop := (anc par dep m u ∧ anc par dep m v) ∧ ∀ x, (anc par dep x u ∧ anc par dep x v) → anc par dep x m
theorem lca_uni (h : rt a b S r R par dep pe) (hu : R u) (h1 : lca par dep m u v) (h2 : lca par dep m' u v) : m = m' :=
  anc_le h (anc_R h hu h2.1.1).1 (h2.2 m h1.1) (anc_R h (anc_R h hu h1.1.1).1 (h1.2 m' h2.1)).2
theorem lca_self : lca par dep v v v := ⟨⟨anc_self, anc_self⟩, fun _ q => q.1⟩
theorem lca_sw (h : lca par dep m u v) : lca par dep m v u := ⟨⟨h.1.2, h.1.1⟩, fun x q => h.2 x ⟨q.2, q.1⟩⟩
theorem lca_step (h : rt a b S r R par dep pe) (hu : R u) (hv : R v) (hne : u ≠ v) (hd : dep v ≤ dep u) : u ≠ r ∧ (lca par dep m (par u) v → lca par dep m u v) := by
  have hur : u ≠ r := fun q => by
    have h0 : dep v = 0 := by rw [q, h.2.1] at hd; omega
    exact hne (by rw [q, rt_dep0 h hv h0])
  refine ⟨hur, fun q => ?_⟩
  have key : ∀ x, (anc par dep x u ∧ anc par dep x v) ↔ (anc par dep x (par u) ∧ anc par dep x v) := fun x => by
    rw [anc_step h hu hur]
    constructor
    · rintro ⟨q1 | q1, q2⟩
      · rw [q1] at q2
        exact absurd (anc_le h hv q2 hd) hne
      · exact ⟨q1, q2⟩
    · exact fun z => ⟨Or.inr z.1, z.2⟩
  exact ⟨(key m).mpr q.1, fun x hx => q.2 x ((key x).mp hx)⟩
/-- the last edge of the first i of the way up -/
def pl (a b K : Nat → Nat) (S : Nat → Prop) (par pe : Nat → Nat) (v i f : Nat) : Prop := S f ∧ (∃ j, j < i ∧ pe (up par j v) = f) ∧ cn a b (fun g => S g ∧ K g ≤ K f) (up par i v) v
theorem up_lt (h : rt a b S r R par dep pe) (hv : R v) (hi : i < dep v) : R (up par i v) ∧ up par i v ≠ r ∧ dep (up par i v) + i = dep v := by
  obtain ⟨h1, h2⟩ := rt_up h i v hv (by omega)
  exact ⟨h1, fun q => by rw [q, h.2.1] at h2; omega, h2⟩
theorem pl_first (h : rt a b S r R par dep pe) (hv : R v) (hi : 0 < dep v) : pl a b K S par pe v 1 (pe v) := by
  have hne : v ≠ r := fun q => by rw [q, h.2.1] at hi; omega
  exact ⟨(h.2.2.1 v hv hne).2.2.1, ⟨0, by omega, rfl⟩, rt_step h hv hne (T := fun g => S g ∧ K g ≤ K (pe v)) ⟨(h.2.2.1 v hv hne).2.2.1, Nat.le_refl _⟩⟩
theorem pl_new (h : rt a b S r R par dep pe) (hv : R v) (hi : i < dep v) (hp : pl a b K S par pe v i f) (hK : K f < K (pe (up par i v))) : pl a b K S par pe v (i + 1) (pe (up par i v)) := by
  obtain ⟨h1, h2, h3⟩ := up_lt h hv hi
  have hs := (h.2.2.1 _ h1 h2).2.2.1
  refine ⟨hs, ⟨i, by omega, rfl⟩, ?_⟩
  rw [up_succ]
  exact cn_trans (rt_step h h1 h2 (T := fun g => S g ∧ K g ≤ K (pe (up par i v))) ⟨hs, Nat.le_refl _⟩) (cn_mono (fun g q => ⟨q.1, by omega⟩) hp.2.2)
theorem pl_old (h : rt a b S r R par dep pe) (hv : R v) (hi : i < dep v) (hp : pl a b K S par pe v i f) (hK : ¬ K f < K (pe (up par i v))) : pl a b K S par pe v (i + 1) f := by
  obtain ⟨h1, h2, h3⟩ := up_lt h hv hi
  have hs := (h.2.2.1 _ h1 h2).2.2.1
  obtain ⟨j, hj, q⟩ := hp.2.1
  refine ⟨hp.1, ⟨j, by omega, q⟩, ?_⟩
  rw [up_succ]
  exact cn_trans (rt_step h h1 h2 (T := fun g => S g ∧ K g ≤ K f) ⟨hs, by omega⟩) hp.2.2
theorem pl_fin (hA : acy a b S) (h : rt a b S r R par dep pe) (hv : R v) (hi : dep v = i) (hp : pl a b K S par pe v i f) : lst a b K S r v f := by
  subst hi
  obtain ⟨j, hj, q⟩ := hp.2.1
  obtain ⟨h1, h2, h3⟩ := up_lt h hv hj
  have hc := hp.2.2
  rw [rt_top h hv] at hc
  refine ⟨hp.1, hc, ?_⟩
  have := (anc_cut hA h h1 h2 hv).mp ⟨j, by omega, rfl⟩
  rw [q] at this
  exact this
end TREE2
