section NUM
theorem nI_neg {v : Nat} (h : v < 2 ^ 31) : nI v = -1 ↔ False := ⟨fun q => by
  have := congrArg Int32.toInt q
  rw [nI_toInt h] at this
  have h2 : (-1 : Int32).toInt = -1 := by decide
  omega, fun q => q.elim⟩
theorem neg_nI {v : Nat} (h : v < 2 ^ 31) : -1 = nI v ↔ False := ⟨fun q => (nI_neg h).mp q.symm, fun q => q.elim⟩
theorem nI_lt0 {v : Nat} (h : v < 2 ^ 31) : nI v < 0 ↔ False := ⟨fun q => nI_pos h q, fun q => q.elim⟩
theorem nI_eq0 {v : Nat} (h : v < 2 ^ 31) : nI v = 0 ↔ v = 0 := nI_eq (b := 0) h (by decide)
theorem nI_lt20 {v : Nat} (h : v < 2 ^ 31) : nI v < 20 ↔ v < 20 := nI_ltI (b := 20) h (by decide)
theorem nI_le20 {v : Nat} (h : v < 2 ^ 31) : 20 ≤ nI v ↔ 20 ≤ v := nI_leI (a := 20) (by decide) h
theorem nI_lt60 {v : Nat} (h : v < 2 ^ 31) : nI v < 60 ↔ v < 60 := nI_ltI (b := 60) h (by decide)
theorem nI_le60 {v : Nat} (h : v < 2 ^ 31) : 60 ≤ nI v ↔ 60 ≤ v := nI_leI (a := 60) (by decide) h
theorem nI_inI {v n : Nat} (h : v < n) (hn : n < 2 ^ 31) : vp_in (nI v) n ↔ True := ⟨fun _ => trivial, fun _ => nI_in h hn⟩
theorem neg_ltz : ((-1 : Int32) < 0) ↔ True := by decide
theorem neg_eqz : ((-1 : Int32) = 0) ↔ False := by decide
theorem one_eqz : ((1 : Int32) = 0) ↔ False := by decide
theorem nI_sub1 {v : Nat} (h : 0 < v) : nI v - 1 = nI (v - 1) := by
  have := nI_pred (v - 1)
  rwa [show v - 1 + 1 = v by omega] at this
theorem nI_sub {u v : Nat} (h : u ≤ v) : nI v - nI u = nI (v - u) := by
  have h1 : nI (v - u) + nI u = nI v := by rw [nI_add, show v - u + u = v by omega]
  rw [← h1, Int32.add_sub_cancel]
theorem upd_at (f : Nat → Int32) (k : Nat) (x : Int32) (i : Nat) : upd f k x i = if i = k then x else f i := rfl
theorem upd_eq (f : Nat → Int32) (k : Nat) (x : Int32) : upd f k x k = x := by simp [upd]
theorem upd_ne (f : Nat → Int32) {k i : Nat} (x : Int32) (h : i ≠ k) : upd f k x i = f i := by simp [upd, h]
theorem wr_at (V : Mm) (a j : Nat) (x : Int32) (c : Nat) : wr V a j x c = if c = a then upd (V a) j x else V c := rfl
theorem wr_eq (V : Mm) (a j : Nat) (x : Int32) : wr V a j x a = upd (V a) j x := by simp [wr_at]
theorem wr_ne (V : Mm) {a c : Nat} (j : Nat) (x : Int32) (h : c ≠ a) : wr V a j x c = V c := by simp [wr_at, h]
theorem wfill_at (V : Mm) (a m : Nat) (x : Int32) (c : Nat) : wfill V a m x c = if c = a then (fun j => if j < m then x else V a j) else V c := rfl
theorem wfill_ne (V : Mm) {a c : Nat} (m : Nat) (x : Int32) (h : c ≠ a) : wfill V a m x c = V c := by simp [wfill_at, h]
noncomputable def bI (p : Prop) : Int32 := @ite _ p (Classical.propDecidable p) 1 0
theorem bI_t {p : Prop} (h : p) : bI p = 1 := by simp [bI, h]
theorem bI_f {p : Prop} (h : ¬ p) : bI p = 0 := by simp [bI, h]
theorem bI_eq0 (p : Prop) : bI p = 0 ↔ ¬ p := by
  by_cases h : p
  · rw [bI_t h]; simp [h]
  · rw [bI_f h]; simp [h]
theorem bI_eq1 (p : Prop) : bI p = 1 ↔ p := by
  by_cases h : p
  · rw [bI_t h]; simp [h]
  · rw [bI_f h]; simp [h]
theorem bI_nar (p : Prop) : narrow .boolean (.int (bI p)) = .int (bI p) := by
  by_cases h : p
  · rw [bI_t h]; decide
  · rw [bI_f h]; decide
theorem bI_nar1 (p : Prop) : (narrow .boolean (.int (bI p)) = .int (bI p)) = True := eq_true (bI_nar p)
theorem bI_congr {p q : Prop} (h : p ↔ q) : bI p = bI q := by rw [propext h]
theorem bI_inj {p q : Prop} : bI p = bI q ↔ (p ↔ q) := by
  constructor
  · intro h
    have := bI_eq1 p
    rw [h, bI_eq1 q] at this
    exact this.symm
  · exact bI_congr
/-- a branch that is decided -/
theorem mb_t {c : Prop} {A B : Prop} (h : c) : ((c → A) ∧ (¬ c → B)) = A := propext ⟨fun q => q.1 h, fun q => ⟨fun _ => q, fun z => absurd h z⟩⟩
theorem mb_f {c : Prop} {A B : Prop} (h : ¬ c) : ((c → A) ∧ (¬ c → B)) = B := propext ⟨fun q => q.2 h, fun q => ⟨fun z => absurd z h, fun _ => q⟩⟩
end NUM
