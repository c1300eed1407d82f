/-! GRAPHS: connection by a set of edges (a e and b e are the ends of the edge e), minimum spanning forests -/
def cn (a b : Nat → Nat) (S : Nat → Prop) (u v : Nat) : Prop := ∀ P : Nat → Prop, P u → (∀ e, S e → (P (a e) ↔ P (b e))) → P v
section CN
variable {a b : Nat → Nat} {S T : Nat → Prop} {u v w x y e f : Nat}
theorem cn_refl (S : Nat → Prop) (u : Nat) : cn a b S u u := fun _ h _ => h
theorem cn_trans (h1 : cn a b S u v) (h2 : cn a b S v w) : cn a b S u w := fun P hu hS => h2 P (h1 P hu hS) hS
theorem cn_edge (h : S e) : cn a b S (a e) (b e) := fun _ hu hS => (hS e h).mp hu
theorem cn_edge' (h : S e) : cn a b S (b e) (a e) := fun _ hu hS => (hS e h).mpr hu
theorem cn_symm (h : cn a b S u v) : cn a b S v u := h (fun x => cn a b S x u) (cn_refl S u) (fun _ he => ⟨fun h => cn_trans (cn_edge' he) h, fun h => cn_trans (cn_edge he) h⟩)
theorem cn_mono (hST : ∀ e, S e → T e) (h : cn a b S u v) : cn a b T u v := fun P hu hT => h P hu (fun e he => hT e (hST e he))
/-- a set that no edge of S leaves -/
theorem cn_closed {P : Nat → Prop} (h : cn a b S u v) (hP : ∀ e, S e → (P (a e) ↔ P (b e))) : P u ↔ P v := ⟨fun hu => h P hu hP, fun hv => cn_symm h P hv hP⟩
theorem cn_add (h : cn a b (fun g => S g ∨ g = e) x y) : cn a b S x y ∨ (cn a b S x (a e) ∧ cn a b S (b e) y) ∨ (cn a b S x (b e) ∧ cn a b S (a e) y) := by
  refine h (fun z => cn a b S x z ∨ (cn a b S x (a e) ∧ cn a b S (b e) z) ∨ (cn a b S x (b e) ∧ cn a b S (a e) z)) (Or.inl (cn_refl S x)) ?_
  intro g hg
  rcases hg with hg | rfl
  · constructor
    · rintro (h | ⟨h1, h2⟩ | ⟨h1, h2⟩)
      · exact Or.inl (cn_trans h (cn_edge hg))
      · exact Or.inr (Or.inl ⟨h1, cn_trans h2 (cn_edge hg)⟩)
      · exact Or.inr (Or.inr ⟨h1, cn_trans h2 (cn_edge hg)⟩)
    · rintro (h | ⟨h1, h2⟩ | ⟨h1, h2⟩)
      · exact Or.inl (cn_trans h (cn_edge' hg))
      · exact Or.inr (Or.inl ⟨h1, cn_trans h2 (cn_edge' hg)⟩)
      · exact Or.inr (Or.inr ⟨h1, cn_trans h2 (cn_edge' hg)⟩)
  · constructor
    · rintro (h | ⟨h1, h2⟩ | ⟨h1, h2⟩)
      · exact Or.inr (Or.inl ⟨h, cn_refl S _⟩)
      · exact Or.inr (Or.inl ⟨h1, cn_refl S _⟩)
      · exact Or.inl h1
    · rintro (h | ⟨h1, h2⟩ | ⟨h1, h2⟩)
      · exact Or.inr (Or.inr ⟨h, cn_refl S _⟩)
      · exact Or.inl h1
      · exact Or.inr (Or.inr ⟨h1, cn_refl S _⟩)
/-- the same, where the set is another's and at most one edge -/
theorem cn_split (hT : ∀ g, T g → S g ∨ g = e) (h : cn a b T x y) : cn a b S x y ∨ (cn a b S x (a e) ∧ cn a b S (b e) y) ∨ (cn a b S x (b e) ∧ cn a b S (a e) y) := cn_add (cn_mono hT h)
end CN
/-- F is the minimum spanning forest of the edges pr, ordered by the key K -/
def msf (a b K : Nat → Nat) (pr F : Nat → Prop) : Prop :=
  (∀ e, F e → pr e) ∧ (∀ e, F e → ¬ cn a b (fun f => F f ∧ f ≠ e) (a e) (b e)) ∧ ∀ e, pr e → ¬ F e → cn a b (fun f => F f ∧ K f < K e) (a e) (b e)
/-- what the document says of the forest -/
def dcp (a b K : Nat → Nat) (pr F : Nat → Prop) : Prop := (∀ e, F e → pr e) ∧ ∀ e, pr e → (F e ↔ ¬ cn a b (fun f => F f ∧ K f < K e) (a e) (b e))
section MSF
variable {a b K K' : Nat → Nat} {pr pr' F F' : Nat → Prop} {e f m : Nat}
theorem msf_doc (h : msf a b K pr F) : dcp a b K pr F := by
  refine ⟨h.1, fun e he => ⟨fun hF hc => h.2.1 e hF (cn_mono (fun g hg => ⟨hg.1, fun q => by rw [q] at hg; exact Nat.lt_irrefl _ hg.2⟩) hc), fun hn => Classical.byContradiction fun hF => hn (h.2.2 e he hF)⟩⟩
theorem dcp_uni (h : dcp a b K pr F) (h' : dcp a b K pr F') : ∀ e, F e ↔ F' e := by
  have key : ∀ n e, K e < n → (F e ↔ F' e) := by
    intro n
    induction n with
    | zero => intro e he; omega
    | succ n ih =>
      intro e he
      by_cases hp : pr e
      · have e1 : ∀ g, (F g ∧ K g < K e) ↔ (F' g ∧ K g < K e) := fun g => ⟨fun q => ⟨(ih g (by omega)).mp q.1, q.2⟩, fun q => ⟨(ih g (by omega)).mpr q.1, q.2⟩⟩
        rw [h.2 e hp, h'.2 e hp]
        exact not_congr ⟨cn_mono fun g => (e1 g).mp, cn_mono fun g => (e1 g).mpr⟩
      · exact ⟨fun q => absurd (h.1 e q) hp, fun q => absurd (h'.1 e q) hp⟩
  exact fun e => key (K e + 1) e (Nat.lt_succ_self _)
theorem msf_span (h : msf a b K pr F) {x : Nat} (hx : pr x) : cn a b F (a x) (b x) := by
  by_cases hF : F x
  · exact cn_edge hF
  · exact cn_mono (fun g q => q.1) (h.2.2 x hx hF)
theorem msf_congr (hp : ∀ e, pr e ↔ pr' e) (hF : ∀ e, F e ↔ F' e) (h : msf a b K pr F) : msf a b K pr' F' := by
  have e1 : pr = pr' := funext fun e => propext (hp e)
  have e2 : F = F' := funext fun e => propext (hF e)
  rw [← e1, ← e2]; exact h
/-- keys that differ only off the edges do no harm -/
theorem msf_key (hK : ∀ e, pr e → K' e = K e) (h : msf a b K pr F) : msf a b K' pr F :=
  ⟨h.1, h.2.1, fun e he hF => cn_mono (fun g q => ⟨q.1, by rw [hK g (h.1 g q.1), hK e he]; exact q.2⟩) (h.2.2 e he hF)⟩
/-- an edge between two trees -/
theorem msf_link (h : msf a b K pr F) (hc : ¬ cn a b F (a e) (b e)) : msf a b K (fun g => pr g ∨ g = e) (fun g => F g ∨ g = e) := by
  refine ⟨fun g hg => hg.elim (fun q => Or.inl (h.1 g q)) Or.inr, fun g hg hcn => ?_, fun g hg hn => ?_⟩
  · by_cases hge : g = e
    · subst hge
      exact hc (cn_mono (fun x q => q.1.elim id (fun z => absurd z q.2)) hcn)
    · have hFg : F g := hg.elim id (fun z => absurd z hge)
      rcases cn_split (S := fun x => F x ∧ x ≠ g) (e := e) (fun x q => q.1.elim (fun z => Or.inl ⟨z, q.2⟩) Or.inr) hcn with q | ⟨q1, q2⟩ | ⟨q1, q2⟩
      · exact h.2.1 g hFg q
      · have m1 := cn_mono (T := F) (fun x z => z.1) q1
        have m2 := cn_mono (T := F) (fun x z => z.1) q2
        exact hc (cn_trans (cn_symm m1) (cn_trans (cn_edge hFg) (cn_symm m2)))
      · have m1 := cn_mono (T := F) (fun x z => z.1) q1
        have m2 := cn_mono (T := F) (fun x z => z.1) q2
        exact hc (cn_trans m2 (cn_trans (cn_edge' hFg) m1))
  · have hge : g ≠ e := fun z => hn (Or.inr z)
    have hp : pr g := hg.elim id (fun z => absurd z hge)
    exact cn_mono (fun x q => ⟨Or.inl q.1, q.2⟩) (h.2.2 g hp (fun z => hn (Or.inl z)))
/-- an edge that is later than the last one on its ends' path -/
theorem msf_late (h : msf a b K pr F) (hle : cn a b (fun g => F g ∧ K g < K e) (a e) (b e)) : msf a b K (fun g => pr g ∨ g = e) F :=
  ⟨fun g q => Or.inl (h.1 g q), h.2.1, fun g hg hn => by
    rcases hg with hg | rfl
    · exact h.2.2 g hg hn
    · exact hle⟩
/-- an edge that beats the last one, f, on its ends' path -/
theorem msf_swap (inj : ∀ x y, F x → F y → K x = K y → x = y) (h : msf a b K pr F) (hne : ¬ F e) (hf : F f) (hle : cn a b (fun g => F g ∧ K g ≤ K f) (a e) (b e)) (hcut : ¬ cn a b (fun g => F g ∧ g ≠ f) (a e) (b e)) (hK : K e < K f) :
    msf a b K (fun g => pr g ∨ g = e) (fun g => (F g ∧ g ≠ f) ∨ g = e) := by
  -- the path's two pieces, all of them before f
  have hp : (cn a b (fun g => F g ∧ K g < K f) (a e) (a f) ∧ cn a b (fun g => F g ∧ K g < K f) (b f) (b e)) ∨ (cn a b (fun g => F g ∧ K g < K f) (a e) (b f) ∧ cn a b (fun g => F g ∧ K g < K f) (a f) (b e)) := by
    rcases cn_split (S := fun g => F g ∧ K g < K f) (e := f) (fun g q => by
      rcases Nat.lt_or_eq_of_le q.2 with z | z
      · exact Or.inl ⟨q.1, z⟩
      · exact Or.inr (inj g f q.1 hf z)) hle with q | q | q
    · exact absurd (cn_mono (fun g z => ⟨z.1, fun y => by rw [y] at z; exact Nat.lt_irrefl _ z.2⟩) q) hcut
    · exact Or.inl q
    · exact Or.inr q
  have hfe : cn a b (fun g => ((F g ∧ g ≠ f) ∨ g = e) ∧ K g < K f) (a f) (b f) := by
    have up : ∀ {x y}, cn a b (fun g => F g ∧ K g < K f) x y → cn a b (fun g => ((F g ∧ g ≠ f) ∨ g = e) ∧ K g < K f) x y := fun q => cn_mono (fun g z => ⟨Or.inl ⟨z.1, fun y => by rw [y] at z; exact Nat.lt_irrefl _ z.2⟩, z.2⟩) q
    have he : (fun g => ((F g ∧ g ≠ f) ∨ g = e) ∧ K g < K f) e := ⟨Or.inr rfl, hK⟩
    rcases hp with ⟨q1, q2⟩ | ⟨q1, q2⟩
    · exact cn_trans (cn_symm (up q1)) (cn_trans (cn_edge he) (cn_symm (up q2)))
    · exact cn_trans (up q2) (cn_trans (cn_edge' he) (up q1))
  refine ⟨fun g hg => hg.elim (fun q => Or.inl (h.1 g q.1)) Or.inr, fun g hg hcn => ?_, fun g hg hn => ?_⟩
  · by_cases hge : g = e
    · subst hge
      exact hcut (cn_mono (fun x q => q.1.elim id (fun z => absurd z q.2)) hcn)
    · have hFg : F g ∧ g ≠ f := hg.elim id (fun z => absurd z hge)
      rcases cn_split (S := fun x => (F x ∧ x ≠ f) ∧ x ≠ g) (e := e) (fun x q => q.1.elim (fun z => Or.inl ⟨z, q.2⟩) Or.inr) hcn with q | ⟨q1, q2⟩ | ⟨q1, q2⟩
      · exact h.2.1 g hFg.1 (cn_mono (fun x z => ⟨z.1.1, z.2⟩) q)
      · have m1 := cn_mono (T := fun x => F x ∧ x ≠ f) (fun x z => z.1) q1
        have m2 := cn_mono (T := fun x => F x ∧ x ≠ f) (fun x z => z.1) q2
        exact hcut (cn_trans (cn_symm m1) (cn_trans (cn_edge (S := fun x => F x ∧ x ≠ f) hFg) (cn_symm m2)))
      · have m1 := cn_mono (T := fun x => F x ∧ x ≠ f) (fun x z => z.1) q1
        have m2 := cn_mono (T := fun x => F x ∧ x ≠ f) (fun x z => z.1) q2
        exact hcut (cn_trans m2 (cn_trans (cn_edge' (S := fun x => F x ∧ x ≠ f) hFg) m1))
  · have hge : g ≠ e := fun z => hn (Or.inr z)
    have hpg : pr g := hg.elim id (fun z => absurd z hge)
    by_cases hgf : g = f
    · subst hgf; exact hfe
    · have hFg : ¬ F g := fun z => hn (Or.inl ⟨z, hgf⟩)
      rcases cn_split (S := fun x => (F x ∧ K x < K g) ∧ x ≠ f) (e := f) (fun x q => by
        by_cases z : x = f
        · exact Or.inr z
        · exact Or.inl ⟨q, z⟩) (h.2.2 g hpg hFg) with q | q | q
      · exact cn_mono (fun x z => ⟨Or.inl ⟨z.1.1, z.2⟩, z.1.2⟩) q
      all_goals
        by_cases hfg : K f < K g
        · have up : ∀ {x y}, cn a b (fun x => (F x ∧ K x < K g) ∧ x ≠ f) x y → cn a b (fun x => ((F x ∧ x ≠ f) ∨ x = e) ∧ K x < K g) x y := fun q => cn_mono (fun x z => ⟨Or.inl ⟨z.1.1, z.2⟩, z.1.2⟩) q
          have hfe' := cn_mono (T := fun x => ((F x ∧ x ≠ f) ∨ x = e) ∧ K x < K g) (fun x z => ⟨z.1, Nat.lt_trans z.2 hfg⟩) hfe
          first
            | exact cn_trans (up q.1) (cn_trans hfe' (up q.2))
            | exact cn_trans (up q.1) (cn_trans (cn_symm hfe') (up q.2))
        · exact cn_mono (fun x z => ⟨Or.inl ⟨z.1, fun y => by rw [y] at z; exact hfg z.2⟩, z.2⟩) (h.2.2 g hpg hFg)
theorem msf_drop (h : msf a b K pr F) (hne : ¬ F e) : msf a b K (fun g => pr g ∧ g ≠ e) F :=
  ⟨fun g q => ⟨h.1 g q, fun z => hne (by rw [← z]; exact q)⟩, h.2.1, fun g hg hn => h.2.2 g hg.1 hn⟩
/-- the side of an edge of the forest, when it is taken away -/
def sd (a b : Nat → Nat) (F : Nat → Prop) (e x : Nat) : Prop := cn a b (fun g => F g ∧ g ≠ e) (a e) x
theorem sd_edge (h : F f ∧ f ≠ e) : sd a b F e (a f) ↔ sd a b F e (b f) := ⟨fun q => cn_trans q (cn_edge (S := fun g => F g ∧ g ≠ e) h), fun q => cn_trans q (cn_edge' (S := fun g => F g ∧ g ≠ e) h)⟩
theorem sd_cn {x y : Nat} (h : cn a b (fun g => F g ∧ g ≠ e) x y) : sd a b F e x ↔ sd a b F e y := ⟨fun q => cn_trans q h, fun q => cn_trans q (cn_symm h)⟩
/-- an edge of the forest is taken away, or has another key: nothing crosses -/
theorem msf_cut (h : msf a b K pr F) (he : F e) (hX : ∀ g, pr g → g ≠ e → (sd a b F e (a g) ↔ sd a b F e (b g))) : msf a b K (fun g => pr g ∧ g ≠ e) (fun g => F g ∧ g ≠ e) := by
  refine ⟨fun g q => ⟨h.1 g q.1, q.2⟩, fun g q hc => h.2.1 g q.1 (cn_mono (fun x z => ⟨z.1.1, z.2⟩) hc), fun g hg hn => ?_⟩
  have hFg : ¬ F g := fun z => hn ⟨z, hg.2⟩
  rcases cn_split (S := fun x => (F x ∧ x ≠ e) ∧ K x < K g) (e := e) (fun x q => by
    by_cases z : x = e
    · exact Or.inr z
    · exact Or.inl ⟨⟨q.1, z⟩, q.2⟩) (h.2.2 g hg.1 hFg) with q | ⟨q1, q2⟩ | ⟨q1, q2⟩
  · exact q
  · exfalso
    have m1 := cn_mono (T := fun x => F x ∧ x ≠ e) (fun x z => z.1) q1
    have m2 := cn_mono (T := fun x => F x ∧ x ≠ e) (fun x z => z.1) q2
    have s1 : sd a b F e (a g) := cn_symm m1
    have s2 := (hX g hg.1 hg.2).mp s1
    exact h.2.1 e he (cn_trans s2 (cn_symm m2))
  · exfalso
    have m1 := cn_mono (T := fun x => F x ∧ x ≠ e) (fun x z => z.1) q1
    have m2 := cn_mono (T := fun x => F x ∧ x ≠ e) (fun x z => z.1) q2
    have s1 : sd a b F e (b g) := m2
    have s2 := (hX g hg.1 hg.2).mpr s1
    exact h.2.1 e he (cn_trans s2 m1)
/-- an edge of the forest is taken away, or has another key: the first one that crosses, m, takes its place -/
theorem msf_repl (inj : ∀ x y, pr' x → pr' y → K' x = K' y → x = y) (h : msf a b K pr F) (he : F e) (hK : ∀ g, g ≠ e → K' g = K g) (h1 : ∀ g, pr' g → pr g) (h2 : ∀ g, pr g → g ≠ e → pr' g) (hm : pr' m) (hXm : ¬ (sd a b F e (a m) ↔ sd a b F e (b m)))
    (hmin : ∀ g, pr' g → ¬ (sd a b F e (a g) ↔ sd a b F e (b g)) → K' m ≤ K' g) : msf a b K' pr' (fun g => (F g ∧ g ≠ e) ∨ g = m) := by
  have hmF : ¬ (F m ∧ m ≠ e) := fun q => hXm (sd_edge q)
  -- e's ends are joined by what is no later than m
  have hjoin : cn a b (fun g => ((F g ∧ g ≠ e) ∨ g = m) ∧ K' g ≤ K' m) (a e) (b e) := by
    by_cases hme : m = e
    · subst hme
      exact cn_edge (S := fun g => ((F g ∧ g ≠ m) ∨ g = m) ∧ K' g ≤ K' m) ⟨Or.inr rfl, Nat.le_refl _⟩
    · have hFm : ¬ F m := fun z => hmF ⟨z, hme⟩
      have up : ∀ {x y}, cn a b (fun x => (F x ∧ x ≠ e) ∧ K x < K m) x y → cn a b (fun g => ((F g ∧ g ≠ e) ∨ g = m) ∧ K' g ≤ K' m) x y := fun q => cn_mono (fun x z => ⟨Or.inl z.1, by rw [hK x z.1.2, hK m hme]; exact Nat.le_of_lt z.2⟩) q
      have em : (fun g => ((F g ∧ g ≠ e) ∨ g = m) ∧ K' g ≤ K' m) m := ⟨Or.inr rfl, Nat.le_refl _⟩
      rcases cn_split (S := fun x => (F x ∧ x ≠ e) ∧ K x < K m) (e := e) (fun x q => by
        by_cases z : x = e
        · exact Or.inr z
        · exact Or.inl ⟨⟨q.1, z⟩, q.2⟩) (h.2.2 m (h1 m hm) hFm) with q | ⟨q1, q2⟩ | ⟨q1, q2⟩
      · exact absurd (sd_cn (cn_mono (fun x z => z.1) q)) hXm
      · exact cn_trans (cn_symm (up q1)) (cn_trans (cn_edge em) (cn_symm (up q2)))
      · exact cn_trans (up q2) (cn_trans (cn_edge' em) (up q1))
  refine ⟨fun g q => q.elim (fun z => h2 g (h.1 g z.1) z.2) (fun z => by rw [z]; exact hm), fun g hg hc => ?_, fun g hg hn => ?_⟩
  · by_cases hgm : g = m
    · subst hgm
      exact hXm (sd_cn (cn_mono (fun x q => q.1.elim id (fun z => absurd z q.2)) hc))
    · have hFg : F g ∧ g ≠ e := hg.elim id (fun z => absurd z hgm)
      rcases cn_split (S := fun x => (F x ∧ x ≠ e) ∧ x ≠ g) (e := m) (fun x q => q.1.elim (fun z => Or.inl ⟨z, q.2⟩) Or.inr) hc with q | ⟨q1, q2⟩ | ⟨q1, q2⟩
      · exact h.2.1 g hFg.1 (cn_mono (fun x z => ⟨z.1.1, z.2⟩) q)
      · have s1 := sd_cn (cn_mono (T := fun x => F x ∧ x ≠ e) (fun x z => z.1) q1)
        have s2 := sd_cn (cn_mono (T := fun x => F x ∧ x ≠ e) (fun x z => z.1) q2)
        exact hXm (s1.symm.trans ((sd_edge hFg).trans s2.symm))
      · have s1 := sd_cn (cn_mono (T := fun x => F x ∧ x ≠ e) (fun x z => z.1) q1)
        have s2 := sd_cn (cn_mono (T := fun x => F x ∧ x ≠ e) (fun x z => z.1) q2)
        exact hXm (s2.trans ((sd_edge hFg).symm.trans s1))
  · have hgm : g ≠ m := fun z => hn (Or.inr z)
    have lt_of : ¬ (sd a b F e (a g) ↔ sd a b F e (b g)) → K' m < K' g := fun q => Nat.lt_of_le_of_ne (hmin g hg q) (fun z => hgm (inj g m hg hm z.symm))
    by_cases hge : g = e
    · subst hge
      have hX : ¬ (sd a b F g (a g) ↔ sd a b F g (b g)) := fun q => h.2.1 g he (q.mp (cn_refl _ _))
      have := lt_of hX
      exact cn_mono (fun x z => ⟨z.1, Nat.lt_of_le_of_lt z.2 this⟩) hjoin
    · have hFg : ¬ F g := fun z => hn (Or.inl ⟨z, hge⟩)
      have up : ∀ {x y}, cn a b (fun x => (F x ∧ x ≠ e) ∧ K x < K g) x y → cn a b (fun x => ((F x ∧ x ≠ e) ∨ x = m) ∧ K' x < K' g) x y := fun q => cn_mono (fun x z => ⟨Or.inl z.1, by rw [hK x z.1.2, hK g hge]; exact z.2⟩) q
      rcases cn_split (S := fun x => (F x ∧ x ≠ e) ∧ K x < K g) (e := e) (fun x q => by
        by_cases z : x = e
        · exact Or.inr z
        · exact Or.inl ⟨⟨q.1, z⟩, q.2⟩) (h.2.2 g (h1 g hg) hFg) with q | ⟨q1, q2⟩ | ⟨q1, q2⟩
      · exact up q
      all_goals
        have m1 := cn_mono (T := fun x => F x ∧ x ≠ e) (fun x z => z.1) q1
        have m2 := cn_mono (T := fun x => F x ∧ x ≠ e) (fun x z => z.1) q2
        have hX : ¬ (sd a b F e (a g) ↔ sd a b F e (b g)) := by
          intro q
          first
            | exact h.2.1 e he (cn_trans (q.mp (cn_symm m1)) (cn_symm m2))
            | exact h.2.1 e he (cn_trans (q.mpr m2) m1)
        have hj := cn_mono (T := fun x => ((F x ∧ x ≠ e) ∨ x = m) ∧ K' x < K' g) (fun x z => ⟨z.1, Nat.lt_of_le_of_lt z.2 (lt_of hX)⟩) hjoin
        first
          | exact cn_trans (up q1) (cn_trans hj (up q2))
          | exact cn_trans (up q1) (cn_trans (cn_symm hj) (up q2))
end MSF
