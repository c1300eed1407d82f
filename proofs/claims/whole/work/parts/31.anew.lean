section SORT
def insl (so : Nat → Nat) (p e : Nat) : Nat → Nat := fun i => if i < p then so i else if i = p then e else so (i - 1)
def SO (K : Nat → Nat) (m : Nat) (so : Nat → Nat) (Q : Nat → Prop) : Prop := (∀ i j, i < j → j < m → K (so i) < K (so j)) ∧ (∀ g, Q g ↔ ∃ i, i < m ∧ so i = g)
theorem SO_mo {K : Nat → Nat} {m : Nat} {so : Nat → Nat} {Q : Nat → Prop} (h : SO K m so Q) : ∀ i j, i < j → j < m → K (so i) < K (so j) := h.1
theorem SO_im {K : Nat → Nat} {m : Nat} {so : Nat → Nat} {Q : Nat → Prop} (h : SO K m so Q) : ∀ g, Q g ↔ ∃ i, i < m ∧ so i = g := h.2
variable {n k : Nat} {a b w K : Nat → Nat} {pr F Q : Nat → Prop} {V V0 : Mm} {post : Int32 → Mm → Prop} {pos : Mm → Prop} {u v e p m i q : Nat} {ms x y : Int32} {so gr : Nat → Nat} {C : Nat → Prop}
theorem insl_lt (h : i < p) : insl so p e i = so i := if_pos h
theorem insl_eq : insl so p e p = e := by simp [insl]
theorem insl_gt (h : p < i) : insl so p e i = so (i - 1) := by simp [insl, show ¬ i < p by omega, show ¬ i = p by omega]
theorem SO_0 : SO K 0 so (fun _ => False) := ⟨fun i j _ h => absurd h (Nat.not_lt_zero _), fun g => ⟨False.elim, fun q => q.elim fun i q => absurd q.1 (Nat.not_lt_zero _)⟩⟩
theorem SO_ins (h : SO K m so Q) (hp : p ≤ m) (h1 : ∀ i, i < p → K (so i) < K e) (h2 : ∀ i, p ≤ i → i < m → K e < K (so i)) : SO K (m + 1) (insl so p e) (fun g => Q g ∨ g = e) := by
  refine ⟨fun i j hij hj => ?_, fun g => ?_⟩
  · rcases Nat.lt_trichotomy j p with q | q | q
    · rw [insl_lt q, insl_lt (by omega)]; exact SO_mo h i j hij (by omega)
    · subst q; rw [insl_eq, insl_lt hij]; exact h1 i hij
    · rw [insl_gt q]
      rcases Nat.lt_trichotomy i p with z | z | z
      · rw [insl_lt z]; exact SO_mo h i (j - 1) (by omega) (by omega)
      · subst z; rw [insl_eq]; exact h2 _ (by omega) (by omega)
      · rw [insl_gt z]; exact SO_mo h _ _ (by omega) (by omega)
  · show (Q g ∨ g = e) ↔ _
    rw [SO_im h]
    constructor
    · rintro (⟨i, q1, q2⟩ | q)
      · rcases Nat.lt_or_ge i p with z | z
        · exact ⟨i, by omega, by rw [insl_lt z]; exact q2⟩
        · exact ⟨i + 1, by omega, by rw [insl_gt (by omega)]; exact q2⟩
      · exact ⟨p, by omega, by rw [insl_eq, q]⟩
    · rintro ⟨i, q1, q2⟩
      rcases Nat.lt_trichotomy i p with z | z | z
      · rw [insl_lt z] at q2; exact Or.inl ⟨i, by omega, q2⟩
      · subst z; rw [insl_eq] at q2; exact Or.inr q2.symm
      · rw [insl_gt z] at q2; exact Or.inl ⟨i - 1, by omega, q2⟩
theorem SO_cnt (h : SO K m so Q) (hQ : ∀ g, Q g → g < k) : m ≤ k := by
  have h1 : ct (fun v => ∃ i, i < m ∧ so i = v) k = m := pig (fun i hi => hQ _ ((SO_im h _).mpr ⟨i, hi, rfl⟩)) (fun i j hij hj q => by have := SO_mo h i j hij hj; rw [q] at this; omega)
  rw [← h1]; exact ct_le k
theorem SO_cg {Q' : Nat → Prop} (h : SO K m so Q) (hQ : ∀ g, Q g ↔ Q' g) : SO K m so Q' := ⟨SO_mo h, fun g => by rw [← hQ]; exact SO_im h g⟩
/-- what stands before the place where e goes in -/
theorem SO_bef (h : SO K m so Q) (hp : p ≤ m) (he : ¬ Q e) (inj : ∀ g, Q g → K g = K e → g = e) (hn : p = 0 ∨ ¬ K e < K (so (p - 1))) : ∀ i, i < p → K (so i) < K e := by
  intro i hi
  have h1 : K (so (p - 1)) < K e := by
    rcases hn with q | q
    · omega
    · have hQ := (SO_im h (so (p - 1))).mpr ⟨p - 1, by omega, rfl⟩
      rcases Nat.lt_or_ge (K (so (p - 1))) (K e) with z | z
      · exact z
      · exact absurd (by rw [← inj _ hQ (by omega)]; exact hQ) he
  rcases Nat.lt_or_ge i (p - 1) with z | z
  · have := SO_mo h i (p - 1) z (by omega); omega
  · rw [show i = p - 1 by omega]; exact h1
def LB (n : Nat) (a b gr : Nat → Nat) (C : Nat → Prop) : Prop := ∀ u v, u < n → v < n → (gr u = gr v ↔ cn a b C u v)
theorem LB_0 : LB n a b id (fun _ => False) := fun u v _ _ => ⟨fun q => by rw [show u = v from q]; exact cn_refl _ _, fun q => q (fun z => id u = id z) rfl (fun _ z => z.elim)⟩
theorem LB_cg {C' : Nat → Prop} (h : LB n a b gr C) (hC : ∀ g, C g ↔ C' g) : LB n a b gr C' := by rw [← show C = C' from funext fun g => propext (hC g)]; exact h
theorem LB_join (h : LB n a b gr C) (hC : ∀ g, C g → a g < n ∧ b g < n) (hu : u < n) (hv : v < n) (hj : jn a b e u v) (hne : gr u ≠ gr v) {gr' : Nat → Nat} (hg : ∀ z, z < n → gr' z = if gr z = gr u then gr v else gr z) : LB n a b gr' (fun g => C g ∨ g = e) := by
  have hE : cn a b (fun g => C g ∨ g = e) u v := jn_cn hj (Or.inr rfl)
  have hm : ∀ {s t : Nat}, cn a b C s t → cn a b (fun g => C g ∨ g = e) s t := fun q => cn_mono (fun _ z => Or.inl z) q
  intro s t hs ht
  rw [hg s hs, hg t ht]
  constructor
  · intro q
    by_cases h1 : gr s = gr u
    · rw [if_pos h1] at q
      by_cases h2 : gr t = gr u
      · exact hm ((h s t hs ht).mp (h1.trans h2.symm))
      · rw [if_neg h2] at q
        exact cn_trans (hm ((h s u hs hu).mp h1)) (cn_trans hE (hm ((h v t hv ht).mp q)))
    · rw [if_neg h1] at q
      by_cases h2 : gr t = gr u
      · rw [if_pos h2] at q
        exact cn_trans (hm ((h s v hs hv).mp q)) (cn_trans (cn_symm hE) (hm ((h u t hu ht).mp h2.symm)))
      · rw [if_neg h2] at q
        exact hm ((h s t hs ht).mp q)
  · intro q
    have key : (if gr s = gr u then gr v else gr s) = (if gr t = gr u then gr v else gr t) := by
      refine q (fun z => (if gr s = gr u then gr v else gr s) = (if gr z = gr u then gr v else gr z)) rfl (fun g hg' => ?_)
      have he : (if gr (a g) = gr u then gr v else gr (a g)) = (if gr (b g) = gr u then gr v else gr (b g)) := by
        rcases hg' with z | z
        · rw [(h (a g) (b g) (hC g z).1 (hC g z).2).mpr (cn_edge z)]
        · subst z
          rcases hj with ⟨z1, z2⟩ | ⟨z1, z2⟩
          · rw [z1, z2, if_pos rfl, if_neg (Ne.symm hne)]
          · rw [z1, z2, if_pos rfl, if_neg (Ne.symm hne)]
      show (_ = _) ↔ (_ = _)
      rw [he]
    exact key
def KR (n : Nat) (a b K : Nat → Nat) (Q : Nat → Prop) (so : Nat → Nat) (q : Nat) (gr : Nat → Nat) (C : Nat → Prop) : Prop := (LB n a b gr C) ∧ (∀ g, C g → Q g ∧ ∃ i, i < q ∧ so i = g) ∧ (∀ i, i < q → Q (so i) → (C (so i) ↔ ¬ cn a b (fun f => C f ∧ K f < K (so i)) (a (so i)) (b (so i))))
theorem KR_lb {n : Nat} {a b K : Nat → Nat} {Q : Nat → Prop} {so : Nat → Nat} {q : Nat} {gr : Nat → Nat} {C : Nat → Prop} (h : KR n a b K Q so q gr C) : LB n a b gr C := h.1
theorem KR_ci {n : Nat} {a b K : Nat → Nat} {Q : Nat → Prop} {so : Nat → Nat} {q : Nat} {gr : Nat → Nat} {C : Nat → Prop} (h : KR n a b K Q so q gr C) : ∀ g, C g → Q g ∧ ∃ i, i < q ∧ so i = g := h.2.1
theorem KR_dc {n : Nat} {a b K : Nat → Nat} {Q : Nat → Prop} {so : Nat → Nat} {q : Nat} {gr : Nat → Nat} {C : Nat → Prop} (h : KR n a b K Q so q gr C) : ∀ i, i < q → Q (so i) → (C (so i) ↔ ¬ cn a b (fun f => C f ∧ K f < K (so i)) (a (so i)) (b (so i))) := h.2.2
theorem KR_0 : KR n a b K Q so 0 id (fun _ => False) := ⟨LB_0, fun g q => q.elim, fun i h => absurd h (Nat.not_lt_zero _)⟩
theorem KR_bef (h : KR n a b K Q so q gr C) (hm : ∀ i j, i < j → j < m → K (so i) < K (so j)) (hq : q < m) : ∀ g, C g → K g < K (so q) := fun g hg => by
  obtain ⟨-, i, h1, h2⟩ := KR_ci h g hg
  rw [← h2]; exact hm i q h1 hq
theorem KR_no (h : KR n a b K Q so q gr C) (hm : ∀ i j, i < j → j < m → K (so i) < K (so j)) (hq : q < m) : ¬ C (so q) := fun z => Nat.lt_irrefl _ (KR_bef h hm hq _ z)
theorem KR_skip (h : KR n a b K Q so q gr C) (hm : ∀ i j, i < j → j < m → K (so i) < K (so j)) (hq : q < m) (hc : Q (so q) → cn a b C (a (so q)) (b (so q))) : KR n a b K Q so (q + 1) gr C := by
  refine ⟨KR_lb h, fun g hg => ?_, fun i hi hQ => ?_⟩
  · obtain ⟨h0, i, h1, h2⟩ := KR_ci h g hg
    exact ⟨h0, i, by omega, h2⟩
  · rcases lt_or_eq1 hi with z | z
    · exact KR_dc h i z hQ
    · subst z
      exact ⟨fun z => absurd z (KR_no h hm hq), fun z => absurd (cn_mono (fun f hf => ⟨hf, KR_bef h hm hq f hf⟩) (hc hQ)) z⟩
theorem KR_take (h : KR n a b K Q so q gr C) (hm : ∀ i j, i < j → j < m → K (so i) < K (so j)) (hq : q < m) (hQ : Q (so q)) (hC : ∀ g, C g → a g < n ∧ b g < n) (hu : u < n) (hv : v < n) (hj : jn a b (so q) u v) (hne : gr u ≠ gr v) {gr' : Nat → Nat} (hg : ∀ z, z < n → gr' z = if gr z = gr u then gr v else gr z) : KR n a b K Q so (q + 1) gr' (fun g => C g ∨ g = so q) := by
  refine ⟨LB_join (KR_lb h) hC hu hv hj hne hg, fun g hg => ?_, fun i hi hQi => ?_⟩
  · rcases hg with z | z
    · obtain ⟨h0, i, h1, h2⟩ := KR_ci h g z
      exact ⟨h0, i, by omega, h2⟩
    · rw [z]; exact ⟨hQ, q, by omega, rfl⟩
  · rcases lt_or_eq1 hi with z | z
    · have hlt := hm i q z hq
      have hs : (fun f => (C f ∨ f = so q) ∧ K f < K (so i)) = (fun f => C f ∧ K f < K (so i)) := funext fun f => propext ⟨fun y => ⟨y.1.elim id (fun x => by rw [x] at y; omega), y.2⟩, fun y => ⟨Or.inl y.1, y.2⟩⟩
      rw [hs, ← KR_dc h i z hQi]
      exact ⟨fun y => y.elim id (fun x => by rw [x] at hlt; omega), Or.inl⟩
    · subst z
      refine ⟨fun _ y => ?_, fun _ => Or.inr rfl⟩
      have y2 : cn a b C (a (so i)) (b (so i)) := cn_mono (fun f hf => hf.1.elim id (fun x => by rw [x] at hf; omega)) y
      have y3 : cn a b C u v := by
        rcases hj with ⟨z1, z2⟩ | ⟨z1, z2⟩
        · rw [z1, z2] at y2; exact y2
        · rw [z1, z2] at y2; exact cn_symm y2
      exact hne ((KR_lb h u v hu hv).mpr y3)
theorem KR_fin (h : KR n a b K Q so m gr C) (hQ : ∀ g, Q g → ∃ i, i < m ∧ so i = g) : dcp a b K Q C := by
  refine ⟨fun g hg => (KR_ci h g hg).1, fun g hg => ?_⟩
  obtain ⟨i, h1, h2⟩ := hQ g hg
  have := KR_dc h i h1 (by rw [h2]; exact hg)
  rwa [h2] at this
end SORT
