/-! ROOTED TREES: R are the vertices of r's tree by the edges S, par their parents, dep their depths, pe the edge to the parent -/
def acy (a b : Nat → Nat) (S : Nat → Prop) : Prop := ∀ e, S e → ¬ cn a b (fun f => S f ∧ f ≠ e) (a e) (b e)
def rt (a b : Nat → Nat) (S : Nat → Prop) (r : Nat) (R : Nat → Prop) (par dep pe : Nat → Nat) : Prop :=
  R r ∧ dep r = 0 ∧ (∀ v, R v → v ≠ r → R (par v) ∧ dep v = dep (par v) + 1 ∧ S (pe v) ∧ ((a (pe v) = v ∧ b (pe v) = par v) ∨ (a (pe v) = par v ∧ b (pe v) = v))) ∧ ∀ e, S e → (R (a e) ↔ R (b e))
def up (par : Nat → Nat) : Nat → Nat → Nat
  | 0, v => v
  | i + 1, v => up par i (par v)
theorem up_succ (par : Nat → Nat) : ∀ i v, up par (i + 1) v = par (up par i v)
  | 0, _ => rfl
  | i + 1, v => up_succ par i (par v)
theorem up_add (par : Nat → Nat) : ∀ i j v, up par (i + j) v = up par i (up par j v)
  | i, 0, v => rfl
  | i, j + 1, v => up_add par i j (par v)
section RT
variable {a b : Nat → Nat} {S : Nat → Prop} {r : Nat} {R R' : Nat → Prop} {par dep pe par' dep' pe' : Nat → Nat} {u v w x y e : Nat}
theorem rt_ind (h : rt a b S r R par dep pe) {P : Nat → Prop} (h0 : P r) (hs : ∀ v, R v → v ≠ r → P (par v) → P v) : ∀ v, R v → P v := by
  have key : ∀ n v, R v → dep v < n → P v := by
    intro n
    induction n with
    | zero => intro v _ h; omega
    | succ n ih =>
      intro v hv hd
      by_cases hvr : v = r
      · rw [hvr]; exact h0
      · obtain ⟨h1, h2, -⟩ := h.2.2.1 v hv hvr
        exact hs v hv hvr (ih _ h1 (by omega))
  exact fun v hv => key (dep v + 1) v hv (Nat.lt_succ_self _)
theorem rt_pos (h : rt a b S r R par dep pe) (hv : R v) (hne : v ≠ r) : 0 < dep v := by have := (h.2.2.1 v hv hne).2.1; omega
theorem rt_dep0 (h : rt a b S r R par dep pe) (hv : R v) (hd : dep v = 0) : v = r := Classical.byContradiction fun q => by have := rt_pos h hv q; omega
theorem rt_step (h : rt a b S r R par dep pe) (hv : R v) (hne : v ≠ r) {T : Nat → Prop} (hT : T (pe v)) : cn a b T (par v) v := by
  rcases (h.2.2.1 v hv hne).2.2.2 with ⟨q1, q2⟩ | ⟨q1, q2⟩
  · have := cn_edge' (a := a) (b := b) hT; rw [q1, q2] at this; exact this
  · have := cn_edge (a := a) (b := b) hT; rw [q1, q2] at this; exact this
theorem rt_cn (h : rt a b S r R par dep pe) : R v ↔ cn a b S r v := by
  constructor
  · exact rt_ind h (P := fun v => cn a b S r v) (cn_refl S r) (fun v hv hne ih => cn_trans ih (rt_step h hv hne (h.2.2.1 v hv hne).2.2.1)) v
  · exact fun q => q R h.1 h.2.2.2
/-- the edge to the parent says whose it is -/
theorem rt_inj (h : rt a b S r R par dep pe) (hv : R v) (hvr : v ≠ r) (hw : R w) (hwr : w ≠ r) (he : pe v = pe w) : v = w := by
  obtain ⟨-, d1, -, q1⟩ := h.2.2.1 v hv hvr
  obtain ⟨-, d2, -, q2⟩ := h.2.2.1 w hw hwr
  rw [he] at q1
  rcases q1 with ⟨q1, q3⟩ | ⟨q1, q3⟩ <;> rcases q2 with ⟨q2, q4⟩ | ⟨q2, q4⟩
  · rw [← q1, q2]
  · have e1 : v = par w := by rw [← q1, q2]
    have e2 : par v = w := by rw [← q3, q4]
    rw [e2] at d1; rw [← e1] at d2; omega
  · have e1 : par v = w := by rw [← q1, q2]
    have e2 : v = par w := by rw [← q3, q4]
    rw [e1] at d1; rw [← e2] at d2; omega
  · rw [← q3, q4]
/-- what is less deep than v is joined to the root without v's edge, and any edge at v -/
theorem rt_off (h : rt a b S r R par dep pe) (he : a e = v ∨ b e = v) : ∀ w, R w → dep w < dep v → cn a b (fun f => S f ∧ f ≠ e) r w := by
  intro w hw
  refine rt_ind h (P := fun w => dep w < dep v → cn a b (fun f => S f ∧ f ≠ e) r w) (fun _ => cn_refl _ _) (fun w hw hne ih hd => ?_) w hw
  obtain ⟨h1, h2, h3, h4⟩ := h.2.2.1 w hw hne
  refine cn_trans (ih (by omega)) (rt_step h hw hne (T := fun f => S f ∧ f ≠ e) ⟨h3, fun q => ?_⟩)
  subst q
  rcases h4 with ⟨q1, q2⟩ | ⟨q1, q2⟩ <;> rcases he with he | he
  · rw [q1] at he; rw [he] at hd; omega
  · rw [q2] at he; rw [he] at h2; omega
  · rw [q1] at he; rw [he] at h2; omega
  · rw [q2] at he; rw [he] at hd; omega
theorem rt_end (h : rt a b S r R par dep pe) (hv : R v) (hne : v ≠ r) : a (pe v) = v ∨ b (pe v) = v := (h.2.2.1 v hv hne).2.2.2.elim (fun q => Or.inl q.1) (fun q => Or.inr q.2)
theorem rt_par (h : rt a b S r R par dep pe) (hv : R v) (hne : v ≠ r) : cn a b (fun f => S f ∧ f ≠ pe v) r (par v) :=
  rt_off h (rt_end h hv hne) (par v) (h.2.2.1 v hv hne).1 (by have := (h.2.2.1 v hv hne).2.1; omega)
theorem rt_sep (hA : acy a b S) (h : rt a b S r R par dep pe) (hv : R v) (hne : v ≠ r) : ¬ cn a b (fun f => S f ∧ f ≠ pe v) r v := by
  intro q
  have q2 := cn_trans (cn_symm (rt_par h hv hne)) q
  obtain ⟨-, -, h3, h4⟩ := h.2.2.1 v hv hne
  rcases h4 with ⟨e1, e2⟩ | ⟨e1, e2⟩
  · exact hA _ h3 (by rw [e1, e2]; exact cn_symm q2)
  · exact hA _ h3 (by rw [e1, e2]; exact q2)
/-- ONE TREE: parents and depths are the only ones -/
theorem rt_uni (hA : acy a b S) (h : rt a b S r R par dep pe) (h' : rt a b S r R' par' dep' pe') : ∀ v, R v → R' v ∧ dep' v = dep v ∧ (v ≠ r → par' v = par v ∧ pe' v = pe v) := by
  refine rt_ind h ⟨h'.1, by rw [h'.2.1, h.2.1], fun q => absurd rfl q⟩ (fun v hv hne ih => ?_)
  have hv' : R' v := (rt_cn h').mpr ((rt_cn h).mp hv)
  obtain ⟨h1, h2, h3, h4⟩ := h.2.2.1 v hv hne
  obtain ⟨h1', h2', h3', h4'⟩ := h'.2.2.1 v hv' hne
  have hpe : pe' v = pe v := by
    refine Classical.byContradiction fun q => rt_sep hA h hv hne ?_
    exact cn_trans (rt_off h' (rt_end h hv hne) (par' v) h1' (by omega)) (rt_step h' hv' hne (T := fun f => S f ∧ f ≠ pe v) ⟨h3', q⟩)
  have hp : par' v = par v := by
    rw [hpe] at h4'
    rcases h4 with ⟨q1, q2⟩ | ⟨q1, q2⟩ <;> rcases h4' with ⟨q3, q4⟩ | ⟨q3, q4⟩
    · rw [← q2, q4]
    · rw [← q3, ← q2, q1, q4]
    · rw [← q1, ← q4, q3, q2]
    · rw [← q1, q3]
  exact ⟨hv', by rw [h2', h2, hp, ih.2.1], fun _ => ⟨hp, hpe⟩⟩
theorem rt_up (h : rt a b S r R par dep pe) : ∀ i v, R v → i ≤ dep v → R (up par i v) ∧ dep (up par i v) + i = dep v
  | 0, v, hv, _ => ⟨hv, rfl⟩
  | i + 1, v, hv, hi => by
    have hne : v ≠ r := fun q => by rw [q, h.2.1] at hi; omega
    obtain ⟨h1, h2, -⟩ := h.2.2.1 v hv hne
    obtain ⟨g1, g2⟩ := rt_up h i (par v) h1 (by omega)
    exact ⟨g1, by show dep (up par i (par v)) + (i + 1) = dep v; omega⟩
theorem rt_top (h : rt a b S r R par dep pe) (hv : R v) : up par (dep v) v = r := by
  obtain ⟨h1, h2⟩ := rt_up h (dep v) v hv (Nat.le_refl _)
  exact rt_dep0 h h1 (by omega)
/-- x is an ancestor of v -/
def anc (par dep : Nat → Nat) (x v : Nat) : Prop := ∃ i, i ≤ dep v ∧ up par i v = x
theorem anc_self : anc par dep v v := ⟨0, Nat.zero_le _, rfl⟩
theorem anc_root (h : rt a b S r R par dep pe) (hv : R v) : anc par dep r v := ⟨dep v, Nat.le_refl _, rt_top h hv⟩
theorem anc_R (h : rt a b S r R par dep pe) (hv : R v) (hx : anc par dep x v) : R x ∧ dep x ≤ dep v := by
  obtain ⟨i, hi, rfl⟩ := hx
  obtain ⟨h1, h2⟩ := rt_up h i v hv hi
  exact ⟨h1, by omega⟩
theorem anc_step (h : rt a b S r R par dep pe) (hv : R v) (hne : v ≠ r) : anc par dep x v ↔ x = v ∨ anc par dep x (par v) := by
  obtain ⟨h1, h2, -⟩ := h.2.2.1 v hv hne
  constructor
  · rintro ⟨i, hi, q⟩
    cases i with
    | zero => exact Or.inl q.symm
    | succ i => exact Or.inr ⟨i, by omega, q⟩
  · rintro (q | ⟨i, hi, q⟩)
    · rw [q]; exact anc_self
    · exact ⟨i + 1, by omega, q⟩
theorem anc_of_root (h : rt a b S r R par dep pe) : anc par dep x r ↔ x = r := by
  constructor
  · rintro ⟨i, hi, q⟩
    rw [h.2.1] at hi
    rw [← q, show i = 0 by omega]; rfl
  · intro q; rw [q]; exact anc_self
/-- an ancestor is told by its edge: without it v is cut off -/
theorem anc_cut (hA : acy a b S) (h : rt a b S r R par dep pe) (hx : R x) (hxr : x ≠ r) (hv : R v) : anc par dep x v ↔ ¬ cn a b (fun f => S f ∧ f ≠ pe x) r v := by
  revert hv
  refine rt_ind h (P := fun v => anc par dep x v ↔ ¬ cn a b (fun f => S f ∧ f ≠ pe x) r v) ?_ ?_ v
  · rw [anc_of_root h]
    exact ⟨fun q => absurd q hxr, fun q => absurd (cn_refl _ _) q⟩
  · intro v hv hne ih
    rw [anc_step h hv hne]
    by_cases hxv : x = v
    · subst hxv
      exact ⟨fun _ => rt_sep hA h hv hne, fun _ => Or.inl rfl⟩
    · have hpe : pe v ≠ pe x := fun q => hxv (rt_inj h hv hne hx hxr q).symm
      have hs := rt_step h hv hne (T := fun f => S f ∧ f ≠ pe x) ⟨(h.2.2.1 v hv hne).2.2.1, hpe⟩
      rw [ih]
      constructor
      · rintro (q | q)
        · exact absurd q hxv
        · exact fun z => q (cn_trans z (cn_symm hs))
      · intro q
        exact Or.inr (fun z => q (cn_trans z hs))
/-- an edge that parts v from an ancestor is the edge of one below it -/
theorem anc_edge (h : rt a b S r R par dep pe) : ∀ i v, R v → i ≤ dep v → S e → ¬ cn a b (fun f => S f ∧ f ≠ e) (up par i v) v → ∃ j, j < i ∧ pe (up par j v) = e
  | 0, v, _, _, _, q => absurd (cn_refl _ _) q
  | i + 1, v, hv, hi, he, q => by
    have hne : v ≠ r := fun z => by rw [z, h.2.1] at hi; omega
    obtain ⟨h1, h2, h3, -⟩ := h.2.2.1 v hv hne
    by_cases hpe : pe v = e
    · exact ⟨0, Nat.succ_pos _, hpe⟩
    · have hs := rt_step h hv hne (T := fun f => S f ∧ f ≠ e) ⟨h3, hpe⟩
      obtain ⟨j, hj, q2⟩ := anc_edge h i (par v) h1 (by omega) he (fun z => q (cn_trans z hs))
      exact ⟨j + 1, by omega, q2⟩
/-- a vertex of the path: no edge parts it from both ends -/
def onp (a b : Nat → Nat) (S : Nat → Prop) (u v x : Nat) : Prop := cn a b S u x ∧ ∀ e, S e → cn a b (fun f => S f ∧ f ≠ e) u x ∨ cn a b (fun f => S f ∧ f ≠ e) v x
theorem anc_onp (hA : acy a b S) (h : rt a b S r R par dep pe) (hv : R v) : anc par dep x v ↔ onp a b S r v x := by
  constructor
  · rintro ⟨i, hi, rfl⟩
    obtain ⟨h1, h2⟩ := rt_up h i v hv hi
    refine ⟨(rt_cn h).mp h1, fun e he => Classical.byContradiction fun q => ?_⟩
    have q1 : ¬ cn a b (fun f => S f ∧ f ≠ e) r (up par i v) := fun z => q (Or.inl z)
    have q2 : ¬ cn a b (fun f => S f ∧ f ≠ e) (up par i v) v := fun z => q (Or.inr (cn_symm z))
    obtain ⟨j, hj, e1⟩ := anc_edge h i v hv hi he q2
    have hr : up par (dep (up par i v)) (up par i v) = r := rt_top h h1
    obtain ⟨j2, hj2, e2⟩ := anc_edge h (dep (up par i v)) (up par i v) h1 (Nat.le_refl _) he (by rw [hr]; exact q1)
    obtain ⟨g1, g2⟩ := rt_up h j v hv (by omega)
    obtain ⟨g3, g4⟩ := rt_up h j2 (up par i v) h1 (by omega)
    have n1 : up par j v ≠ r := fun z => by rw [z, h.2.1] at g2; omega
    have n2 : up par j2 (up par i v) ≠ r := fun z => by rw [z, h.2.1] at g4; omega
    have := rt_inj h g1 n1 g3 n2 (e1.trans e2.symm)
    rw [this] at g2
    omega
  · rintro ⟨h1, h2⟩
    have hx : R x := (rt_cn h).mpr h1
    by_cases hxr : x = r
    · rw [hxr]; exact anc_root h hv
    · rw [anc_cut hA h hx hxr hv]
      intro z
      rcases h2 (pe x) (h.2.2.1 x hx hxr).2.2.1 with q | q
      · exact rt_sep hA h hx hxr q
      · exact rt_sep hA h hx hxr (cn_trans z q)
theorem onp_symm (huv : cn a b S u v) (h : onp a b S u v x) : onp a b S v u x := ⟨cn_trans (cn_symm huv) h.1, fun e he => (h.2 e he).symm⟩
end RT
