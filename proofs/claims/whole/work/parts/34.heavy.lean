section HEAVY
variable {n k : Nat} {a b : Nat → Nat} {S : Nat → Prop} {r : Nat} {R D D' : Nat → Prop} {par dep pe : Nat → Nat} {u v x y c d m e f i : Nat} {g : Nat → Int32}
theorem sm_or {p q s : Nat → Prop} : ∀ {n : Nat}, (∀ i, i < n → (s i ↔ p i ∨ q i)) → (∀ i, i < n → p i → ¬ q i) → sm s g n = sm p g n + sm q g n
  | 0, _, _ => rfl
  | n + 1, h, hd => by
    have ih := sm_or (n := n) (fun i hi => h i (by omega)) (fun i hi => hd i (by omega))
    by_cases hp : p n
    · rw [sm_y ((h n (by omega)).mpr (Or.inl hp)), sm_y hp, sm_n (hd n (by omega) hp), ih, Int32.add_assoc, Int32.add_assoc, Int32.add_comm (sm q g n)]
    · by_cases hq : q n
      · rw [sm_y ((h n (by omega)).mpr (Or.inr hq)), sm_n hp, sm_y hq, ih, Int32.add_assoc]
      · rw [sm_n (fun z => ((h n (by omega)).mp z).elim hp hq), sm_n hp, sm_n hq, ih]
theorem sm_one {p : Nat → Prop} : ∀ n, sm p (fun _ => 1) n = nI (ct p n)
  | 0 => rfl
  | n + 1 => by
    by_cases hp : p n
    · rw [sm_y hp, ct_y hp, sm_one n, nI_1]
    · rw [sm_n hp, ct_n hp, sm_one n]
theorem sm_single (hv : v < n) : sm (fun x => x = v) g n = g v := by
  rw [sm_ins (p := fun _ => False) (e := v) hv id (fun i _ => ⟨Or.inr, fun q => q.elim False.elim id⟩), sm_0 (fun _ _ => id), Int32.zero_add]
/-- below v -/
def bel (R : Nat → Prop) (par dep : Nat → Nat) (v x : Nat) : Prop := R x ∧ anc par dep v x
def chd (R : Nat → Prop) (r : Nat) (par : Nat → Nat) (v c : Nat) : Prop := R c ∧ c ≠ r ∧ par c = v
def pst (R : Nat → Prop) (r : Nat) (par dep : Nat → Nat) (D : Nat → Prop) (v x : Nat) : Prop := R x ∧ (x = v ∨ ∃ c, D c ∧ chd R r par v c ∧ anc par dep c x)
theorem anc_child (h : rt a b S r R par dep pe) (hx : R x) (hv : anc par dep v x) (hne : x ≠ v) : ∃ c, chd R r par v c ∧ anc par dep c x := by
  obtain ⟨i, hi, q⟩ := hv
  cases i with
  | zero => exact absurd q hne
  | succ i =>
    obtain ⟨h1, h2, h3⟩ := up_lt h hx (show i < dep x by omega)
    rw [up_succ] at q
    exact ⟨up par i x, ⟨h1, h2, q⟩, i, by omega, rfl⟩
theorem chd_dep (h : rt a b S r R par dep pe) (hc : chd R r par v c) : R v ∧ dep c = dep v + 1 := by
  obtain ⟨h1, h2, -⟩ := h.2.2.1 c hc.1 hc.2.1
  rw [hc.2.2] at h1 h2
  exact ⟨h1, h2⟩
theorem chd_anc (hc : chd R r par v c) (h : rt a b S r R par dep pe) : anc par dep v c := (anc_step h hc.1 hc.2.1).mpr (Or.inr (by rw [hc.2.2]; exact anc_self))
theorem anc_same (h : rt a b S r R par dep pe) (hx : R x) (h1 : anc par dep u x) (h2 : anc par dep v x) (hd : dep u = dep v) : u = v := by
  obtain ⟨i, hi, q⟩ := h1
  obtain ⟨j, hj, z⟩ := h2
  obtain ⟨-, g1⟩ := rt_up h i x hx hi
  obtain ⟨-, g2⟩ := rt_up h j x hx hj
  rw [q] at g1; rw [z] at g2
  rw [← q, ← z, show i = j by omega]
theorem pst_all (h : rt a b S r R par dep pe) (hD : ∀ c, chd R r par v c → D c) (x : Nat) : pst R r par dep D v x ↔ bel R par dep v x := by
  constructor
  · rintro ⟨h1, q | ⟨c, h2, h3, h4⟩⟩
    · rw [q] at h1 ⊢; exact ⟨h1, anc_self⟩
    · exact ⟨h1, anc_tr h h1 h4 (chd_anc h3 h)⟩
  · rintro ⟨h1, h2⟩
    refine ⟨h1, ?_⟩
    by_cases q : x = v
    · exact Or.inl q
    · obtain ⟨c, h3, h4⟩ := anc_child h h1 h2 q
      exact Or.inr ⟨c, hD c h3, h3, h4⟩
theorem pst_none (hv : R v) (hD : ∀ c, chd R r par v c → ¬ D c) (x : Nat) : pst R r par dep D v x ↔ x = v :=
  ⟨fun q => q.2.elim id (fun ⟨c, h1, h2, _⟩ => absurd h1 (hD c h2)), fun q => ⟨by rw [q]; exact hv, Or.inl q⟩⟩
theorem pst_add (h : rt a b S r R par dep pe) (hc : chd R r par v c) (hn : ¬ D c) (hD : ∀ y, D' y ↔ D y ∨ y = c) (x : Nat) : (pst R r par dep D' v x ↔ pst R r par dep D v x ∨ bel R par dep c x) ∧ (pst R r par dep D v x → ¬ bel R par dep c x) := by
  refine ⟨⟨?_, ?_⟩, ?_⟩
  · rintro ⟨h1, q | ⟨d, h2, h3, h4⟩⟩
    · exact Or.inl ⟨h1, Or.inl q⟩
    · rcases (hD d).mp h2 with q | q
      · exact Or.inl ⟨h1, Or.inr ⟨d, q, h3, h4⟩⟩
      · rw [q] at h4; exact Or.inr ⟨h1, h4⟩
  · rintro (⟨h1, q | ⟨d, h2, h3, h4⟩⟩ | ⟨h1, h2⟩)
    · exact ⟨h1, Or.inl q⟩
    · exact ⟨h1, Or.inr ⟨d, (hD d).mpr (Or.inl h2), h3, h4⟩⟩
    · exact ⟨h1, Or.inr ⟨c, (hD c).mpr (Or.inr rfl), hc, h2⟩⟩
  · rintro ⟨h1, q | ⟨d, h2, h3, h4⟩⟩ ⟨-, h5⟩
    · rw [q] at h5 h1
      have := (anc_R h h1 h5).2
      have := (chd_dep h hc).2
      omega
    · have : d = c := anc_same h h1 h4 h5 (by rw [(chd_dep h hc).2, (chd_dep h h3).2])
      exact hn (by rw [← this]; exact h2)
theorem pst_off (hc : chd R r par v c) (hne : u ≠ v) (hD : ∀ y, D' y ↔ D y ∨ y = c) (x : Nat) : pst R r par dep D' u x ↔ pst R r par dep D u x := by
  constructor
  · rintro ⟨h1, q | ⟨d, h2, h3, h4⟩⟩
    · exact ⟨h1, Or.inl q⟩
    · rcases (hD d).mp h2 with q | q
      · exact ⟨h1, Or.inr ⟨d, q, h3, h4⟩⟩
      · rw [q] at h3; exact absurd (h3.2.2.symm.trans hc.2.2) hne
  · rintro ⟨h1, q | ⟨d, h2, h3, h4⟩⟩
    · exact ⟨h1, Or.inl q⟩
    · exact ⟨h1, Or.inr ⟨d, (hD d).mpr (Or.inl h2), h3, h4⟩⟩
/-- how many stand below v -/
noncomputable def sz (R : Nat → Prop) (par dep : Nat → Nat) (n v : Nat) : Nat := ct (bel R par dep v) n
/-- the heaviest of the children that D says -/
def hvD (R : Nat → Prop) (r : Nat) (par : Nat → Nat) (s : Nat → Nat) (D : Nat → Prop) (v : Nat) (x : Int32) : Prop := (x = -1 ∧ ∀ c, chd R r par v c → ¬ D c) ∨ ∃ c, chd R r par v c ∧ D c ∧ x = nI c ∧ ∀ d, chd R r par v d → D d → s d < s c ∨ (s d = s c ∧ c ≤ d)
/-- v goes on its parent's heavy path -/
def hvp (R : Nat → Prop) (r : Nat) (par : Nat → Nat) (s : Nat → Nat) (v : Nat) : Prop := ∀ d, chd R r par (par v) d → s d < s v ∨ (s d = s v ∧ v ≤ d)
theorem hvD_off {s : Nat → Nat} {z : Int32} (hc : chd R r par v c) (hne : u ≠ v) (hD : ∀ y, D' y ↔ D y ∨ y = c) (h : hvD R r par s D u z) : hvD R r par s D' u z := by
  have key : ∀ d, chd R r par u d → D' d → D d := fun d hd q => ((hD d).mp q).elim id (fun q => by rw [q] at hd; exact absurd (hd.2.2.symm.trans hc.2.2) hne)
  rcases h with ⟨h1, h2⟩ | ⟨d, h1, h2, h3, h4⟩
  · exact Or.inl ⟨h1, fun d hd q => h2 d hd (key d hd q)⟩
  · exact Or.inr ⟨d, h1, (hD d).mpr (Or.inl h2), h3, fun t ht q => h4 t ht (key t ht q)⟩
theorem hvD_is {s : Nat → Nat} {z : Int32} (hn : ∀ x, R x → x < 2 ^ 31) (hv : R v) (hr : v ≠ r) (h : hvD R r par s (fun _ => True) (par v) z) : z = nI v ↔ hvp R r par s v := by
  have hcv : chd R r par (par v) v := ⟨hv, hr, rfl⟩
  rcases h with ⟨h1, h2⟩ | ⟨c, h1, h2, h3, h4⟩
  · exact absurd trivial (h2 v hcv)
  · constructor
    · intro q
      have hcv2 : c = v := (nI_eq (hn c h1.1) (hn v hv)).mp (h3.symm.trans q)
      exact fun d hd => by have := h4 d hd trivial; rwa [hcv2] at this
    · intro q
      have q1 := q c h1
      have q2 := h4 v hcv trivial
      rw [h3, show c = v by omega]
theorem hvD_uni {s : Nat → Nat} {z z' : Int32} (h : hvD R r par s D v z) (h' : hvD R r par s D v z') : z = z' := by
  rcases h with ⟨h1, h2⟩ | ⟨c, h1, h2, h3, h4⟩
  · rcases h' with ⟨g1, g2⟩ | ⟨d, g1, g2, g3, g4⟩
    · rw [h1, g1]
    · exact absurd g2 (h2 d g1)
  · rcases h' with ⟨g1, g2⟩ | ⟨d, g1, g2, g3, g4⟩
    · exact absurd h2 (g2 c h1)
    · have q1 := g4 c h1 h2
      have q2 := h4 d g1 g2
      rw [h3, g3, show c = d by omega]
noncomputable def hdf (H : Nat → Prop) (par : Nat → Nat) : Nat → Nat → Nat
  | 0, v => v
  | i + 1, v => @ite _ (H v) (Classical.propDecidable _) (hdf H par i (par v)) v
noncomputable def sth (H : Nat → Prop) (par : Nat → Nat) (g : Nat → Int32) : Nat → Nat → Int32
  | 0, v => g v
  | i + 1, v => g v + @ite _ (H v) (Classical.propDecidable _) (sth H par g i (par v)) 0
noncomputable def lg (H : Nat → Prop) (par : Nat → Nat) : Nat → Nat → Nat
  | 0, _ => 0
  | i + 1, v => lg H par i (par v) + @ite _ (H v) (Classical.propDecidable _) 0 1
theorem hdf_y {H : Nat → Prop} (h : H v) : hdf H par (i + 1) v = hdf H par i (par v) := by simp [hdf, h]
theorem hdf_n {H : Nat → Prop} (h : ¬ H v) : hdf H par (i + 1) v = v := by simp [hdf, h]
theorem sth_y {H : Nat → Prop} (h : H v) : sth H par g (i + 1) v = g v + sth H par g i (par v) := by simp [sth, h]
theorem sth_n {H : Nat → Prop} (h : ¬ H v) : sth H par g (i + 1) v = g v := by simp [sth, h]
theorem lg_y {H : Nat → Prop} (h : H v) : lg H par (i + 1) v = lg H par i (par v) := by simp [lg, h]
theorem lg_n {H : Nat → Prop} (h : ¬ H v) : lg H par (i + 1) v = lg H par i (par v) + 1 := by simp [lg, h]
theorem lg_le {H : Nat → Prop} : ∀ i v, lg H par i v ≤ i
  | 0, v => Nat.le_refl _
  | i + 1, v => by
    have := lg_le (H := H) i (par v)
    by_cases h : H v
    · rw [lg_y h]; omega
    · rw [lg_n h]; omega
theorem hdf_R {H : Nat → Prop} (h : rt a b S r R par dep pe) : ∀ v, R v → R (hdf H par (dep v) v) ∧ dep (hdf H par (dep v) v) ≤ dep v := by
  refine rt_ind h ⟨by rw [h.2.1]; exact h.1, by rw [h.2.1]; show dep r ≤ 0; rw [h.2.1]; exact Nat.le_refl _⟩ (fun v hv hne ih => ?_)
  obtain ⟨h1, h2, -⟩ := h.2.2.1 v hv hne
  rw [h2]
  by_cases q : H v
  · rw [hdf_y q]; exact ⟨ih.1, by omega⟩
  · rw [hdf_n q]; exact ⟨hv, by omega⟩
theorem hdf_self {H : Nat → Prop} (h : rt a b S r R par dep pe) (hv : R v) : hdf H par (dep v) v = v ↔ (v = r ∨ ¬ H v) := by
  by_cases hne : v = r
  · rw [hne, h.2.1]; exact ⟨fun _ => Or.inl rfl, fun _ => rfl⟩
  · obtain ⟨h1, h2, -⟩ := h.2.2.1 v hv hne
    by_cases q : H v
    · rw [h2, hdf_y q]
      have := (hdf_R (H := H) h _ h1).2
      exact ⟨fun z => by rw [z] at this; omega, fun z => z.elim (fun z => absurd z hne) (fun z => absurd q z)⟩
    · rw [h2, hdf_n q]
      exact ⟨fun _ => Or.inr q, fun _ => rfl⟩
theorem sth_ps {H : Nat → Prop} (h : rt a b S r R par dep pe) : ∀ v, R v → (hdf H par (dep v) v = r → sth H par g (dep v) v = ps g par (dep v) v) ∧ (hdf H par (dep v) v ≠ r → sth H par g (dep v) v + ps g par (dep (par (hdf H par (dep v) v))) (par (hdf H par (dep v) v)) = ps g par (dep v) v) := by
  refine rt_ind h ⟨fun _ => by rw [h.2.1]; rfl, fun q => absurd (by rw [h.2.1]; rfl) q⟩ (fun v hv hne ih => ?_)
  obtain ⟨h1, h2, -⟩ := h.2.2.1 v hv hne
  rw [h2]
  by_cases q : H v
  · rw [hdf_y q, sth_y q]
    refine ⟨fun z => by rw [ih.1 z]; rfl, fun z => ?_⟩
    rw [Int32.add_assoc, ih.2 z]; rfl
  · rw [hdf_n q, sth_n q]
    exact ⟨fun z => absurd z hne, fun _ => rfl⟩
theorem ct_im {p : Nat → Prop} {ord : Nat → Nat} : ∀ {c : Nat}, (∀ i, i < c → ord i < n) → (∀ i j, i < j → j < c → ord i ≠ ord j) → ct (fun v => (∃ i, i < c ∧ ord i = v) ∧ p v) n = ct (fun i => p (ord i)) c
  | 0, _, _ => ct_0 (fun i _ q => q.1.elim fun j q => absurd q.1 (Nat.not_lt_zero _))
  | c + 1, h, hi => by
    have ih := ct_im (p := p) (c := c) (fun i q => h i (by omega)) (fun i j q q2 => hi i j q (by omega))
    by_cases hp : p (ord c)
    · rw [ct_y (p := fun i => p (ord i)) hp, ← ih]
      refine ct_ins (e := ord c) (h c (by omega)) (fun q => q.1.elim fun i q => hi i c q.1 (by omega) q.2) (fun v _ => ?_)
      constructor
      · rintro ⟨⟨i, h1, h2⟩, h3⟩
        rcases lt_or_eq1 h1 with q | q
        · exact Or.inl ⟨⟨i, q, h2⟩, h3⟩
        · right; rw [← h2, q]
      · rintro (⟨⟨i, h1, h2⟩, h3⟩ | q)
        · exact ⟨⟨i, by omega, h2⟩, h3⟩
        · exact ⟨⟨c, by omega, q.symm⟩, by rw [q]; exact hp⟩
    · rw [ct_n (p := fun i => p (ord i)) hp, ← ih]
      refine ct_congr (fun v _ => ?_)
      constructor
      · rintro ⟨⟨i, h1, h2⟩, h3⟩
        rcases lt_or_eq1 h1 with q | q
        · exact ⟨⟨i, q, h2⟩, h3⟩
        · rw [← h2, q] at h3; exact absurd h3 hp
      · rintro ⟨⟨i, h1, h2⟩, h3⟩
        exact ⟨⟨i, by omega, h2⟩, h3⟩
end HEAVY
