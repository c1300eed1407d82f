/-! THE ABSTRACT LAYER: a method's walk over cells that are numbered, not addressed. A reference in an abstract value is the number of a cell; the cell of the number i lies at the address base + i. -/
abbrev ab_M : Type := Program × Launch × Env × Room × State × MethodId × Array Value × List Frame × Method × Code
abbrev ab_G : Type := Nat × va_G × (Nat → ClassId)
abbrev xp (X : ab_M) : Program := X.1
abbrev xl (X : ab_M) : Launch := X.2.1
abbrev xe (X : ab_M) : Env := X.2.2.1
abbrev xR (X : ab_M) : Room := X.2.2.2.1
abbrev xs (X : ab_M) : State := X.2.2.2.2.1
abbrev xm (X : ab_M) : MethodId := X.2.2.2.2.2.1
abbrev xa (X : ab_M) : Array Value := X.2.2.2.2.2.2.1
abbrev xb (X : ab_M) : List Frame := X.2.2.2.2.2.2.2.1
abbrev xt (X : ab_M) : Method := X.2.2.2.2.2.2.2.2.1
abbrev xc (X : ab_M) : Code := X.2.2.2.2.2.2.2.2.2
/-- an abstract value's own: a return address stands for a reference to what is no cell of the world -/
def cv (b : Nat) : Value → Value
  | .ref i => .ref (b + i)
  | .retAddr a => .ref a
  | v => v
theorem cv_cat (b : Nat) (v : Value) : (cv b v).category = v.category := by cases v <;> rfl
/-- a cell's own: its array class by its kind, its references by the base -/
def ce (b : Nat) (K : Nat → ClassId) : va_E → va_E
  | .inl (k, n, .inl f) => .inl (K k, n, .inl f)
  | .inl (k, n, .inr (.inl f)) => .inl (K k, n, .inr (.inl f))
  | .inl (k, n, .inr (.inr (.inl f))) => .inl (K k, n, .inr (.inr (.inl f)))
  | .inl (k, n, .inr (.inr (.inr (.inl f)))) => .inl (K k, n, .inr (.inr (.inr (.inl f))))
  | .inl (k, n, .inr (.inr (.inr (.inr f)))) => .inl (K k, n, .inr (.inr (.inr (.inr (fun j => (f j).map (fun i => b + i))))))
  | .inr (ci, fs) => .inr (ci, fs.map (cv b))
def cw (b : Nat) (K : Nat → ClassId) (ws : List va_E) : va_W := ws.zipIdx.map (fun q => (b + q.2, ce b K q.1))
theorem cw_at (b : Nat) (K : Nat → ClassId) (ws : List va_E) (i : Nat) : (cw b K ws)[i]? = (ws[i]?).map (fun e => (b + i, ce b K e)) := by
  unfold cw
  rw [List.getElem?_map, List.getElem?_zipIdx]
  cases ws[i]? <;> simp
theorem cw_get {b : Nat} {K : Nat → ClassId} {ws : List va_E} {i : Nat} {e : va_E} (h : ws[i]? = some e) : (cw b K ws)[i]? = some (b + i, ce b K e) := by
  rw [cw_at, h]; rfl
theorem cw_len (b : Nat) (K : Nat → ClassId) (ws : List va_E) : (cw b K ws).length = ws.length := by
  unfold cw; simp
theorem cw_set {b : Nat} {K : Nat → ClassId} {ws : List va_E} {i : Nat} {e : va_E} : (cw b K ws).set i (b + i, ce b K e) = cw b K (ws.set i e) := by
  apply List.ext_getElem?
  intro j
  rw [cw_at, List.getElem?_set, List.getElem?_set, cw_at, cw_len]
  by_cases h : i = j
  · subst h
    rw [if_pos rfl, if_pos rfl]
    by_cases hl : i < ws.length
    · rw [if_pos hl, if_pos hl]; rfl
    · rw [if_neg hl, if_neg hl]; rfl
  · rw [if_neg h, if_neg h]
theorem cw_push {b : Nat} {K : Nat → ClassId} {ws : List va_E} {e : va_E} : cw b K ws ++ [(b + ws.length, ce b K e)] = cw b K (ws ++ [e]) := by
  apply List.ext_getElem?
  intro j
  rw [cw_at]
  rcases Nat.lt_trichotomy j ws.length with h | h | h
  · rw [List.getElem?_append_left (by rw [cw_len]; exact h), List.getElem?_append_left h, cw_at]
  · subst h
    rw [List.getElem?_append_right (by rw [cw_len]; exact Nat.le_refl _), List.getElem?_append_right (Nat.le_refl _), cw_len, Nat.sub_self]; rfl
  · rw [List.getElem?_eq_none (by simp [cw_len]; omega), List.getElem?_eq_none (by simp; omega)]; rfl
theorem cw_D (b : Nat) (K : Nat → ClassId) (ws : List va_E) : va_D (fun q => b ≤ q) (cw b K ws) := by
  have key : ∀ (i : Nat) (p : Nat × va_E), (cw b K ws)[i]? = some p → p.1 = b + i := by
    intro i p h
    rw [cw_at] at h
    cases hw : ws[i]? with
    | none => rw [hw] at h; cases h
    | some e => rw [hw] at h; cases h; rfl
  refine ⟨fun i j p q hi hj h => ?_, fun k q hk => ?_⟩
  · have h1 := key i p hi
    have h2 := key j q hj
    omega
  · have h1 := key k q hk
    show b ≤ q.1
    omega
/-- what is known of the locals: none where nothing is -/
def ab_L (b : Nat) (ls : Array Slot) (nL : Nat) (L : List (Option Value)) : Prop := ls.size = nL ∧ lv_wf ls ∧ L.length = nL ∧ ∀ (i : Nat) (v : Value), L[i]? = some (some v) → ls[i]? = some (.val (cv b v)) ∧ v.category = 1
theorem ab_L.get {b : Nat} {ls : Array Slot} {nL : Nat} {L : List (Option Value)} (h : ab_L b ls nL L) {i : Nat} {v : Value} (hi : L[i]? = some (some v)) : ls[i]? = some (.val (cv b v)) := (h.2.2.2 i v hi).1
def ab_lv (b : Nat) (L : List (Option Value)) : List (Nat × Value) := L.zipIdx.filterMap (fun q => q.1.map (fun v => (q.2, cv b v)))
theorem ab_lv_mem {b : Nat} {L : List (Option Value)} {i : Nat} {w : Value} : (i, w) ∈ ab_lv b L ↔ ∃ v, L[i]? = some (some v) ∧ w = cv b v := by
  unfold ab_lv
  rw [List.mem_filterMap]
  constructor
  · rintro ⟨⟨o, j⟩, hm, h⟩
    rw [List.mem_zipIdx_iff_getElem?] at hm
    cases o with
    | none => cases h
    | some v =>
      cases h
      exact ⟨v, hm, rfl⟩
  · rintro ⟨v, h, rfl⟩
    exact ⟨(some v, i), by rw [List.mem_zipIdx_iff_getElem?]; exact h, rfl⟩
theorem ab_L.lv {b : Nat} {ls : Array Slot} {nL : Nat} {L : List (Option Value)} (h : ab_L b ls nL L) : lv_has ls nL (ab_lv b L) := ⟨h.1, h.2.1, fun q hq => by
  obtain ⟨v, h1, h2⟩ := ab_lv_mem.mp hq
  rw [h2]
  exact h.get h1⟩
theorem ab_L.put {b : Nat} {ls ls' : Array Slot} {nL : Nat} {L : List (Option Value)} (h : ab_L b ls nL L) {i : Nat} {v : Value} (hc : v.category = 1) (h' : lv_has ls' nL ((i, cv b v) :: (ab_lv b L).filter (fun q => !(q.1 == i) && !(q.1 + 1 == i && q.2.category == 2)))) : ab_L b ls' nL (L.set i (some v)) := by
  refine ⟨h'.1, h'.2.1, by rw [List.length_set]; exact h.2.2.1, fun j w hj => ?_⟩
  rw [List.getElem?_set] at hj
  by_cases hij : i = j
  · subst hij
    rw [if_pos rfl] at hj
    by_cases hl : i < L.length
    · rw [if_pos hl] at hj
      cases hj
      exact ⟨h'.2.2 _ List.mem_cons_self, hc⟩
    · rw [if_neg hl] at hj
      cases hj
  · rw [if_neg hij] at hj
    have hw := (h.2.2.2 j w hj).2
    refine ⟨h'.2.2 (j, cv b w) (List.mem_cons_of_mem _ (List.mem_filter.mpr ⟨ab_lv_mem.mpr ⟨w, hj, rfl⟩, ?_⟩)), hw⟩
    have h1 : (j == i) = false := beq_false_of_ne (fun e => hij e.symm)
    have h2 : ((cv b w).category == 2) = false := by rw [cv_cat, hw]; rfl
    simp only [h1, h2]
    simp
/-- the tables' words that may be handed on -/
def tk_w : List Cond := lw_tbl.filter goodWord
theorem tk_good (w : List Cond) (y : Cond) (h : ∀ c ∈ w, c ∈ tk_w) (hy : y ∈ tk_w) : GoodIn tk_w (y :: w) := fun c hc => by
  have h1 : c ∈ tk_w := by
    rcases List.mem_cons.mp hc with e | e
    · rw [e]; exact hy
    · exact h c e
  exact ⟨h1, good_of_word (List.mem_filter.mp h1).2⟩
def tk_ty (g : ab_G) : List (ClassId × FieldType) := [(g.2.2 0, .int), (g.2.2 1, .boolean), (g.2.2 2, .long), (g.2.2 3, .double), (g.2.2 4, .array .int)]
/-- what the start of a throw needs of the two statics -/
def tk_X (g : ab_G) (U : State) (H : Heap) : Prop := vx_Zq Bundle.tN "UNASSIGNED_STACK" Bundle.steD (fun q => g.1 ≤ q) U H ∧ vx_Zq Bundle.tN "SUPPRESSED_SENTINEL" Bundle.listD (fun q => g.1 ≤ q) U H
/-- what stands at the entry of a method whose code is cc, of the class own -/
def ab_Ok (X : ab_M) (g : ab_G) (cc : ByteArray) (own : String) : Prop :=
  (xp X).tables.exec = Jvm.exec ∧ (xc X).code = cc ∧ (xs X).vm.findClass own = some (xm X).cls ∧ (∀ w ∈ tk_w, w.before (xa X) (xs X) = true) ∧ va_K g.2.1 vwCl (tk_ty g) (xs X) ∧ g.1 ≤ (xs X).heap.size ∧ (xl X).stackTraces = false ∧ tk_X g (xs X) (xs X).heap ∧ (xt X).locks = false
abbrev ab_A (g : ab_G) : Nat → Prop := fun q => g.1 ≤ q
/-- from here the walk comes to its end -/
def Ab (X : ab_M) (g : ab_G) (cells slots : Nat) (Q : State → Prop) (pc : Nat) (L : List (Option Value)) (st : List Value) (ws : List va_E) : Prop :=
  ∀ (H : Heap) (locs : List Loc) (ls : Array Slot), va_P g.2.1 vwCl (cw g.1 g.2.2 ws) H → va_S (ab_A g) (xs X).heap H locs → ab_L g.1 ls (xc X).maxLocals L →
    W (xp X) (xl X) (xe X) (xR X) (xs X) (xm X) (xa X) (xb X) (xt X) (xc X) H locs cells slots Q (F0 (xm X) pc ls (st.map (cv g.1)))
section ABR
variable {X : ab_M} {g : ab_G} {cells slots : Nat} {Q : State → Prop} {pc : Nat} {L : List (Option Value)} {st : List Value} {ws : List va_E} {cc : ByteArray} {own : String}

theorem ab_iconst (O : ab_Ok X g cc own) {n : Int} (v : Int32) (hd : decode cc pc = .ok (.iconst n, 1)) (hv : Int32.ofInt n = v) (k : Ab X g cells slots Q (pc + 1) L (.int v :: st) ws) : Ab X g cells slots Q pc L st ws := by
  intro H locs ls hP hS hl
  exact lv_iconst O.1 O.2.1 hd hv (k H locs ls hP hS hl)

theorem ab_bipush (O : ab_Ok X g cc own) {n : Int} (v : Int32) (hd : decode cc pc = .ok (.bipush n, 2)) (hv : (Int8.ofInt n).toInt32 = v) (k : Ab X g cells slots Q (pc + 2) L (.int v :: st) ws) : Ab X g cells slots Q pc L st ws := by
  intro H locs ls hP hS hl
  exact lv_bipush O.1 O.2.1 hd hv (k H locs ls hP hS hl)

theorem ab_fconst0 (O : ab_Ok X g cc own) (hd : decode cc pc = .ok (.fconst 0, 1)) (k : Ab X g cells slots Q (pc + 1) L (.float 0 :: st) ws) : Ab X g cells slots Q pc L st ws := by
  intro H locs ls hP hS hl
  exact lv_fconst0 O.1 O.2.1 hd (k H locs ls hP hS hl)

theorem ab_lconst (O : ab_Ok X g cc own) {n : Fin 2} (v : Int64) (hd : decode cc pc = .ok (.lconst n, 1)) (hv : Int64.ofNat n = v) (k : Ab X g cells slots Q (pc + 1) L (.long v :: st) ws) : Ab X g cells slots Q pc L st ws := by
  intro H locs ls hP hS hl
  exact lv_lconst O.1 O.2.1 hd hv (k H locs ls hP hS hl)

theorem ab_iload_n (O : ab_Ok X g cc own) {k0 : Fin 4} (i : Nat) {x : Int32} (hd : decode cc pc = .ok (.iload_n k0, 1)) (hi : (k0 : Nat) = i) (hx : L[i]? = some (some (.int x))) (k : Ab X g cells slots Q (pc + 1) L (.int x :: st) ws) : Ab X g cells slots Q pc L st ws := by
  intro H locs ls hP hS hl
  exact lv_iload_n O.1 O.2.1 hd hi (hl.get hx) (k H locs ls hP hS hl)

theorem ab_iload (O : ab_Ok X g cc own) {i : Nat} {x : Int32} (hd : decode cc pc = .ok (.iload i, 2)) (hx : L[i]? = some (some (.int x))) (k : Ab X g cells slots Q (pc + 2) L (.int x :: st) ws) : Ab X g cells slots Q pc L st ws := by
  intro H locs ls hP hS hl
  exact lv_iload O.1 O.2.1 hd (hl.get hx) (k H locs ls hP hS hl)

theorem ab_istore_n (O : ab_Ok X g cc own) {k0 : Fin 4} (i : Nat) {x : Int32} (hd : decode cc pc = .ok (.istore_n k0, 1)) (hi : (k0 : Nat) = i) (hn : i < L.length) (k : Ab X g cells slots Q (pc + 1) (L.set i (some (.int x))) st ws)  : Ab X g cells slots Q pc L (.int x :: st) ws := by
  intro H locs ls hP hS hl
  exact lv_istore_n O.1 O.2.1 hd hi hl.lv (by rw [← hl.2.2.1]; exact hn) rfl (fun ls2 h2 => k H locs ls2 hP hS (hl.put rfl h2))

theorem ab_istore (O : ab_Ok X g cc own) {i : Nat} {x : Int32} (hd : decode cc pc = .ok (.istore i, 2)) (hn : i < L.length) (k : Ab X g cells slots Q (pc + 2) (L.set i (some (.int x))) st ws)  : Ab X g cells slots Q pc L (.int x :: st) ws := by
  intro H locs ls hP hS hl
  exact lv_istore O.1 O.2.1 hd hl.lv (by rw [← hl.2.2.1]; exact hn) rfl (fun ls2 h2 => k H locs ls2 hP hS (hl.put rfl h2))

theorem ab_aload_n (O : ab_Ok X g cc own) {k0 : Fin 4} (i : Nat) {x : Nat} (hd : decode cc pc = .ok (.aload_n k0, 1)) (hi : (k0 : Nat) = i) (hx : L[i]? = some (some (.ref x))) (k : Ab X g cells slots Q (pc + 1) L (.ref x :: st) ws) : Ab X g cells slots Q pc L st ws := by
  intro H locs ls hP hS hl
  exact lv_aload_n O.1 O.2.1 hd hi (hl.get hx) (k H locs ls hP hS hl)

theorem ab_aload (O : ab_Ok X g cc own) {i : Nat} {x : Nat} (hd : decode cc pc = .ok (.aload i, 2)) (hx : L[i]? = some (some (.ref x))) (k : Ab X g cells slots Q (pc + 2) L (.ref x :: st) ws) : Ab X g cells slots Q pc L st ws := by
  intro H locs ls hP hS hl
  exact lv_aload O.1 O.2.1 hd (hl.get hx) (k H locs ls hP hS hl)

theorem ab_astore_n (O : ab_Ok X g cc own) {k0 : Fin 4} (i : Nat) {x : Nat} (hd : decode cc pc = .ok (.astore_n k0, 1)) (hi : (k0 : Nat) = i) (hn : i < L.length) (k : Ab X g cells slots Q (pc + 1) (L.set i (some (.ref x))) st ws)  : Ab X g cells slots Q pc L (.ref x :: st) ws := by
  intro H locs ls hP hS hl
  exact lv_astore_n O.1 O.2.1 hd hi hl.lv (by rw [← hl.2.2.1]; exact hn) rfl (fun ls2 h2 => k H locs ls2 hP hS (hl.put rfl h2))

theorem ab_astore (O : ab_Ok X g cc own) {i : Nat} {x : Nat} (hd : decode cc pc = .ok (.astore i, 2)) (hn : i < L.length) (k : Ab X g cells slots Q (pc + 2) (L.set i (some (.ref x))) st ws)  : Ab X g cells slots Q pc L (.ref x :: st) ws := by
  intro H locs ls hP hS hl
  exact lv_astore O.1 O.2.1 hd hl.lv (by rw [← hl.2.2.1]; exact hn) rfl (fun ls2 h2 => k H locs ls2 hP hS (hl.put rfl h2))

theorem ab_fload_n (O : ab_Ok X g cc own) {k0 : Fin 4} (i : Nat) {x : UInt32} (hd : decode cc pc = .ok (.fload_n k0, 1)) (hi : (k0 : Nat) = i) (hx : L[i]? = some (some (.float x))) (k : Ab X g cells slots Q (pc + 1) L (.float x :: st) ws) : Ab X g cells slots Q pc L st ws := by
  intro H locs ls hP hS hl
  exact lv_fload_n O.1 O.2.1 hd hi (hl.get hx) (k H locs ls hP hS hl)

theorem ab_fload (O : ab_Ok X g cc own) {i : Nat} {x : UInt32} (hd : decode cc pc = .ok (.fload i, 2)) (hx : L[i]? = some (some (.float x))) (k : Ab X g cells slots Q (pc + 2) L (.float x :: st) ws) : Ab X g cells slots Q pc L st ws := by
  intro H locs ls hP hS hl
  exact lv_fload O.1 O.2.1 hd (hl.get hx) (k H locs ls hP hS hl)

theorem ab_fstore_n (O : ab_Ok X g cc own) {k0 : Fin 4} (i : Nat) {x : UInt32} (hd : decode cc pc = .ok (.fstore_n k0, 1)) (hi : (k0 : Nat) = i) (hn : i < L.length) (k : Ab X g cells slots Q (pc + 1) (L.set i (some (.float x))) st ws)  : Ab X g cells slots Q pc L (.float x :: st) ws := by
  intro H locs ls hP hS hl
  exact lv_fstore_n O.1 O.2.1 hd hi hl.lv (by rw [← hl.2.2.1]; exact hn) rfl (fun ls2 h2 => k H locs ls2 hP hS (hl.put rfl h2))

theorem ab_fstore (O : ab_Ok X g cc own) {i : Nat} {x : UInt32} (hd : decode cc pc = .ok (.fstore i, 2)) (hn : i < L.length) (k : Ab X g cells slots Q (pc + 2) (L.set i (some (.float x))) st ws)  : Ab X g cells slots Q pc L (.float x :: st) ws := by
  intro H locs ls hP hS hl
  exact lv_fstore O.1 O.2.1 hd hl.lv (by rw [← hl.2.2.1]; exact hn) rfl (fun ls2 h2 => k H locs ls2 hP hS (hl.put rfl h2))

theorem ab_iinc (O : ab_Ok X g cc own) {i : Nat} {n : Int} {x : Int32} (v : Int32) (hd : decode cc pc = .ok (.iinc i n, 3)) (hx : L[i]? = some (some (.int x))) (hv : x + Int32.ofInt n = v) (k : Ab X g cells slots Q (pc + 3) (L.set i (some (.int v))) st ws) : Ab X g cells slots Q pc L st ws := by
  intro H locs ls hP hS hl
  have hm : (i, cv g.1 (.int x)) ∈ ab_lv g.1 L := ab_lv_mem.mpr ⟨_, hx, rfl⟩
  obtain ⟨j, hj⟩ := List.getElem?_of_mem hm
  have hn : i < (xc X).maxLocals := by rw [← hl.2.2.1]; exact (List.getElem?_eq_some_iff.mp hx).1
  exact lv_iinc O.1 O.2.1 hd hl.lv hj hv hn rfl (fun ls2 h2 => k H locs ls2 hP hS (hl.put rfl h2))

theorem ab_iadd (O : ab_Ok X g cc own) {x y : Int32} (hd : decode cc pc = .ok (.iadd, 1)) (k : Ab X g cells slots Q (pc + 1) L (.int (x + y) :: st) ws) : Ab X g cells slots Q pc L (.int y :: .int x :: st) ws := by
  intro H locs ls hP hS hl
  exact lv_iadd O.1 O.2.1 hd (k H locs ls hP hS hl)

theorem ab_isub (O : ab_Ok X g cc own) {x y : Int32} (hd : decode cc pc = .ok (.isub, 1)) (k : Ab X g cells slots Q (pc + 1) L (.int (x - y) :: st) ws) : Ab X g cells slots Q pc L (.int y :: .int x :: st) ws := by
  intro H locs ls hP hS hl
  exact lv_isub O.1 O.2.1 hd (k H locs ls hP hS hl)

theorem ab_iand (O : ab_Ok X g cc own) {x y : Int32} (hd : decode cc pc = .ok (.iand, 1)) (k : Ab X g cells slots Q (pc + 1) L (.int (x &&& y) :: st) ws) : Ab X g cells slots Q pc L (.int y :: .int x :: st) ws := by
  intro H locs ls hP hS hl
  exact lv_iand O.1 O.2.1 hd (k H locs ls hP hS hl)

theorem ab_ishr (O : ab_Ok X g cc own) {x y : Int32} (hd : decode cc pc = .ok (.ishr, 1)) (k : Ab X g cells slots Q (pc + 1) L (.int (x >>> (y &&& 31)) :: st) ws) : Ab X g cells slots Q pc L (.int y :: .int x :: st) ws := by
  intro H locs ls hP hS hl
  exact lv_ishr O.1 O.2.1 hd (k H locs ls hP hS hl)

theorem ab_i2f (O : ab_Ok X g cc own) {x : Int32} (hd : decode cc pc = .ok (.i2f, 1)) (k : Ab X g cells slots Q (pc + 1) L (.float (FP.i2f x) :: st) ws) : Ab X g cells slots Q pc L (.int x :: st) ws := by
  intro H locs ls hP hS hl
  exact lv_i2f O.1 O.2.1 hd (k H locs ls hP hS hl)

theorem ab_i2l (O : ab_Ok X g cc own) {x : Int32} (hd : decode cc pc = .ok (.i2l, 1)) (k : Ab X g cells slots Q (pc + 1) L (.long x.toInt64 :: st) ws) : Ab X g cells slots Q pc L (.int x :: st) ws := by
  intro H locs ls hP hS hl
  exact lv_i2l O.1 O.2.1 hd rfl (k H locs ls hP hS hl)

theorem ab_i2c (O : ab_Ok X g cc own) {x : Int32} (hd : decode cc pc = .ok (.i2c, 1)) (k : Ab X g cells slots Q (pc + 1) L (.int (x.toUInt32 % 65536).toInt32 :: st) ws) : Ab X g cells slots Q pc L (.int x :: st) ws := by
  intro H locs ls hP hS hl
  exact lv_i2c O.1 O.2.1 hd rfl (k H locs ls hP hS hl)

theorem ab_fdiv (O : ab_Ok X g cc own) {x y : UInt32} (hd : decode cc pc = .ok (.fdiv, 1)) (hne : vf_n32 (FP.fdiv x y)) (k : Ab X g cells slots Q (pc + 1) L (.float (FP.fdiv x y) :: st) ws) : Ab X g cells slots Q pc L (.float y :: .float x :: st) ws := by
  intro H locs ls hP hS hl
  exact lv_fdiv O.1 O.2.1 hd hne (k H locs ls hP hS hl)

theorem ab_f2d (O : ab_Ok X g cc own) {x : UInt32} (hd : decode cc pc = .ok (.f2d, 1)) (hne : vf_n64 (FP.f2d x)) (k : Ab X g cells slots Q (pc + 1) L (.double (FP.f2d x) :: st) ws) : Ab X g cells slots Q pc L (.float x :: st) ws := by
  intro H locs ls hP hS hl
  exact lv_f2d O.1 O.2.1 hd hne (k H locs ls hP hS hl)

theorem ab_lcmp (O : ab_Ok X g cc own) {x y : Int64} (hd : decode cc pc = .ok (.lcmp, 1)) (k : Ab X g cells slots Q (pc + 1) L (.int (lg_cmp x y) :: st) ws) : Ab X g cells slots Q pc L (.long y :: .long x :: st) ws := by
  intro H locs ls hP hS hl
  exact W.lcmp O.1 O.2.1 hd (k H locs ls hP hS hl)

theorem ab_dcmp (O : ab_Ok X g cc own) {x y : UInt64} {op : CmpOp} (hd : decode cc pc = .ok (.dcmp op, 1)) (k : Ab X g cells slots Q (pc + 1) L (.int (Op.cmpValue (FP.dcmp x y) op) :: st) ws) : Ab X g cells slots Q pc L (.double y :: .double x :: st) ws := by
  intro H locs ls hP hS hl
  exact lv_dcmp O.1 O.2.1 hd (k H locs ls hP hS hl)

theorem ab_fcmp (O : ab_Ok X g cc own) {x y : UInt32} {op : CmpOp} (hd : decode cc pc = .ok (.fcmp op, 1)) (k : Ab X g cells slots Q (pc + 1) L (.int (Op.cmpValue (FP.fcmp x y) op) :: st) ws) : Ab X g cells slots Q pc L (.float y :: .float x :: st) ws := by
  intro H locs ls hP hS hl
  exact lv_fcmp O.1 O.2.1 hd (k H locs ls hP hS hl)

theorem ab_dup (O : ab_Ok X g cc own) {v : Value} (hd : decode cc pc = .ok (.dup, 1)) (hc : v.category = 1) (k : Ab X g cells slots Q (pc + 1) L (v :: v :: st) ws) : Ab X g cells slots Q pc L (v :: st) ws := by
  intro H locs ls hP hS hl
  exact lv_dup O.1 O.2.1 hd (by rw [cv_cat]; exact hc) (k H locs ls hP hS hl)

theorem ab_dup2 (O : ab_Ok X g cc own) {v u : Value} (hd : decode cc pc = .ok (.dup2, 1)) (hc : v.category = 1) (hu : u.category = 1) (k : Ab X g cells slots Q (pc + 1) L (v :: u :: v :: u :: st) ws) : Ab X g cells slots Q pc L (v :: u :: st) ws := by
  intro H locs ls hP hS hl
  exact lv_dup2_11 O.1 O.2.1 hd (by rw [cv_cat]; exact hc) (by rw [cv_cat]; exact hu) (k H locs ls hP hS hl)

theorem ab_pop (O : ab_Ok X g cc own) {v : Value} (hd : decode cc pc = .ok (.pop, 1)) (hc : v.category = 1) (k : Ab X g cells slots Q (pc + 1) L st ws) : Ab X g cells slots Q pc L (v :: st) ws := by
  intro H locs ls hP hS hl
  exact lv_pop O.1 O.2.1 hd (by rw [cv_cat]; exact hc) (k H locs ls hP hS hl)

theorem ab_goto (O : ab_Ok X g cc own) {off : Int} (tgt : Nat) (hd : decode cc pc = .ok (.goto off, 3)) (ht : (pc : Int) + off = (tgt : Int)) (k : Ab X g cells slots Q tgt L st ws) : Ab X g cells slots Q pc L st ws := by
  intro H locs ls hP hS hl
  exact lv_goto O.1 O.2.1 hd ht (k H locs ls hP hS hl)

theorem ab_if_eq (O : ab_Ok X g cc own) {x : Int32} {off : Int} (tgt : Nat) (hd : decode cc pc = .ok (.ifCond .eq off, 3)) (ht : (pc : Int) + off = (tgt : Int)) (kt : x = 0 → Ab X g cells slots Q tgt L st ws) (kf : ¬ x = 0 → Ab X g cells slots Q (pc + 3) L st ws) : Ab X g cells slots Q pc L (.int x :: st) ws := by
  intro H locs ls hP hS hl
  exact lv_if_eq O.1 O.2.1 hd ht (fun h => kt h H locs ls hP hS hl) (fun h => kf h H locs ls hP hS hl)

theorem ab_icmp_eq (O : ab_Ok X g cc own) {x y : Int32} {off : Int} (tgt : Nat) (hd : decode cc pc = .ok (.if_icmp .eq off, 3)) (ht : (pc : Int) + off = (tgt : Int)) (kt : x = y → Ab X g cells slots Q tgt L st ws) (kf : ¬ x = y → Ab X g cells slots Q (pc + 3) L st ws) : Ab X g cells slots Q pc L (.int y :: .int x :: st) ws := by
  intro H locs ls hP hS hl
  exact lv_icmp_eq O.1 O.2.1 hd ht (fun h => kt h H locs ls hP hS hl) (fun h => kf h H locs ls hP hS hl)

theorem ab_if_ne (O : ab_Ok X g cc own) {x : Int32} {off : Int} (tgt : Nat) (hd : decode cc pc = .ok (.ifCond .ne off, 3)) (ht : (pc : Int) + off = (tgt : Int)) (kt : ¬ x = 0 → Ab X g cells slots Q tgt L st ws) (kf : x = 0 → Ab X g cells slots Q (pc + 3) L st ws) : Ab X g cells slots Q pc L (.int x :: st) ws := by
  intro H locs ls hP hS hl
  exact lv_if_ne O.1 O.2.1 hd ht (fun h => kt h H locs ls hP hS hl) (fun h => kf h H locs ls hP hS hl)

theorem ab_icmp_ne (O : ab_Ok X g cc own) {x y : Int32} {off : Int} (tgt : Nat) (hd : decode cc pc = .ok (.if_icmp .ne off, 3)) (ht : (pc : Int) + off = (tgt : Int)) (kt : ¬ x = y → Ab X g cells slots Q tgt L st ws) (kf : x = y → Ab X g cells slots Q (pc + 3) L st ws) : Ab X g cells slots Q pc L (.int y :: .int x :: st) ws := by
  intro H locs ls hP hS hl
  exact lv_icmp_ne O.1 O.2.1 hd ht (fun h => kt h H locs ls hP hS hl) (fun h => kf h H locs ls hP hS hl)

theorem ab_if_lt (O : ab_Ok X g cc own) {x : Int32} {off : Int} (tgt : Nat) (hd : decode cc pc = .ok (.ifCond .lt off, 3)) (ht : (pc : Int) + off = (tgt : Int)) (kt : x < 0 → Ab X g cells slots Q tgt L st ws) (kf : ¬ x < 0 → Ab X g cells slots Q (pc + 3) L st ws) : Ab X g cells slots Q pc L (.int x :: st) ws := by
  intro H locs ls hP hS hl
  exact lv_if_lt O.1 O.2.1 hd ht (fun h => kt h H locs ls hP hS hl) (fun h => kf h H locs ls hP hS hl)

theorem ab_icmp_lt (O : ab_Ok X g cc own) {x y : Int32} {off : Int} (tgt : Nat) (hd : decode cc pc = .ok (.if_icmp .lt off, 3)) (ht : (pc : Int) + off = (tgt : Int)) (kt : x < y → Ab X g cells slots Q tgt L st ws) (kf : ¬ x < y → Ab X g cells slots Q (pc + 3) L st ws) : Ab X g cells slots Q pc L (.int y :: .int x :: st) ws := by
  intro H locs ls hP hS hl
  exact lv_icmp_lt O.1 O.2.1 hd ht (fun h => kt h H locs ls hP hS hl) (fun h => kf h H locs ls hP hS hl)

theorem ab_if_ge (O : ab_Ok X g cc own) {x : Int32} {off : Int} (tgt : Nat) (hd : decode cc pc = .ok (.ifCond .ge off, 3)) (ht : (pc : Int) + off = (tgt : Int)) (kt : 0 ≤ x → Ab X g cells slots Q tgt L st ws) (kf : ¬ 0 ≤ x → Ab X g cells slots Q (pc + 3) L st ws) : Ab X g cells slots Q pc L (.int x :: st) ws := by
  intro H locs ls hP hS hl
  exact lv_if_ge O.1 O.2.1 hd ht (fun h => kt h H locs ls hP hS hl) (fun h => kf h H locs ls hP hS hl)

theorem ab_icmp_ge (O : ab_Ok X g cc own) {x y : Int32} {off : Int} (tgt : Nat) (hd : decode cc pc = .ok (.if_icmp .ge off, 3)) (ht : (pc : Int) + off = (tgt : Int)) (kt : y ≤ x → Ab X g cells slots Q tgt L st ws) (kf : ¬ y ≤ x → Ab X g cells slots Q (pc + 3) L st ws) : Ab X g cells slots Q pc L (.int y :: .int x :: st) ws := by
  intro H locs ls hP hS hl
  exact lv_icmp_ge O.1 O.2.1 hd ht (fun h => kt h H locs ls hP hS hl) (fun h => kf h H locs ls hP hS hl)

theorem ab_if_gt (O : ab_Ok X g cc own) {x : Int32} {off : Int} (tgt : Nat) (hd : decode cc pc = .ok (.ifCond .gt off, 3)) (ht : (pc : Int) + off = (tgt : Int)) (kt : 0 < x → Ab X g cells slots Q tgt L st ws) (kf : ¬ 0 < x → Ab X g cells slots Q (pc + 3) L st ws) : Ab X g cells slots Q pc L (.int x :: st) ws := by
  intro H locs ls hP hS hl
  exact lv_if_gt O.1 O.2.1 hd ht (fun h => kt h H locs ls hP hS hl) (fun h => kf h H locs ls hP hS hl)

theorem ab_icmp_gt (O : ab_Ok X g cc own) {x y : Int32} {off : Int} (tgt : Nat) (hd : decode cc pc = .ok (.if_icmp .gt off, 3)) (ht : (pc : Int) + off = (tgt : Int)) (kt : y < x → Ab X g cells slots Q tgt L st ws) (kf : ¬ y < x → Ab X g cells slots Q (pc + 3) L st ws) : Ab X g cells slots Q pc L (.int y :: .int x :: st) ws := by
  intro H locs ls hP hS hl
  exact lv_icmp_gt O.1 O.2.1 hd ht (fun h => kt h H locs ls hP hS hl) (fun h => kf h H locs ls hP hS hl)

theorem ab_if_le (O : ab_Ok X g cc own) {x : Int32} {off : Int} (tgt : Nat) (hd : decode cc pc = .ok (.ifCond .le off, 3)) (ht : (pc : Int) + off = (tgt : Int)) (kt : x ≤ 0 → Ab X g cells slots Q tgt L st ws) (kf : ¬ x ≤ 0 → Ab X g cells slots Q (pc + 3) L st ws) : Ab X g cells slots Q pc L (.int x :: st) ws := by
  intro H locs ls hP hS hl
  exact lv_if_le O.1 O.2.1 hd ht (fun h => kt h H locs ls hP hS hl) (fun h => kf h H locs ls hP hS hl)

theorem ab_icmp_le (O : ab_Ok X g cc own) {x y : Int32} {off : Int} (tgt : Nat) (hd : decode cc pc = .ok (.if_icmp .le off, 3)) (ht : (pc : Int) + off = (tgt : Int)) (kt : x ≤ y → Ab X g cells slots Q tgt L st ws) (kf : ¬ x ≤ y → Ab X g cells slots Q (pc + 3) L st ws) : Ab X g cells slots Q pc L (.int y :: .int x :: st) ws := by
  intro H locs ls hP hS hl
  exact lv_icmp_le O.1 O.2.1 hd ht (fun h => kt h H locs ls hP hS hl) (fun h => kf h H locs ls hP hS hl)

/-- a field's link, at the place index of own's pool: the field k of the class ci -/
def fl_ok (own : String) (index ci k : Nat) (C : String) (T : u_T) (N : Nat) : Prop := vwCl[ci]? = some (C, T, N) ∧ k < N ∧ Cond.fieldLink own index (T k).1 (T k).2.1 (T k).2.2.1 ∈ tk_w ∧ ∀ w ∈ u_ws C T N, w ∈ tk_w
def cl_ok (T : u_T) (N : Nat) (ty : Nat → FieldType) : Prop := (∀ k, k < N → parseFieldDescriptor (T k).2.2.1 = some (ty k)) ∧ ∀ a, a < N → ∀ b, b < N → a ≠ b → (T a).2.1 ≠ (T b).2.1
theorem cw_fs {b k : Nat} {fs : List Value} {v : Value} (h : fs[k]? = some v) : (fs.map (cv b))[k]? = some (cv b v) := by rw [List.getElem?_map, h]; rfl
theorem ab_get (O : ab_Ok X g cc own) {index i ci k N : Nat} {C : String} {T : u_T} {fs : List Value} {v : Value} (F : fl_ok own index ci k C T N) (hd : decode cc pc = .ok (.getfield index, 3)) (he : ws[i]? = some (.inr (ci, fs))) (hv : fs[k]? = some v) (kk : Ab X g cells slots Q (pc + 3) L (v :: st) ws) : Ab X g cells slots Q pc L (.ref i :: st) ws := by
  intro H locs ls hP hS hl
  exact va_get O.1 O.2.1 O.2.2.2.1 F.2.2.2 O.2.2.1 O.2.2.2.2.1 hP i (cw_get he) F.1 k F.2.1 (O.2.2.2.1 _ F.2.2.1) (fun _ h => h) (cw_fs hv) hd (kk H locs ls hP hS hl)

theorem ab_put (O : ab_Ok X g cc own) {index i ci k N : Nat} {C : String} {T : u_T} {ty0 : Nat → FieldType} {fs : List Value} {v : Value} (F : fl_ok own index ci k C T N) (E : cl_ok T N ty0) (hd : decode cc pc = .ok (.putfield index, 3)) (he : ws[i]? = some (.inr (ci, fs))) (hfin : (T k).2.2.2 = false) (ty : FieldType) (hty : parseFieldDescriptor (T k).2.2.1 = some ty) (hn : ∀ b, narrow ty (cv b v) = cv b v) (hf : ∀ b, fits ty (cv b v) = true) (hk : k < fs.length) (kk : Ab X g cells slots Q (pc + 3) L st (ws.set i (.inr (ci, fs.set k v)))) : Ab X g cells slots Q pc L (v :: .ref i :: st) ws := by
  intro H locs ls hP hS hl
  refine va_put O.1 O.2.1 O.2.2.2.1 F.2.2.2 ty0 E.1 E.2 O.2.2.1 O.2.2.2.2.1 hP (cw_D _ _ _) hS i (cw_get he) F.1 k F.2.1 (O.2.2.2.1 _ F.2.2.1) (fun _ h => h) hfin hty (hn _) (hf _) (by rw [List.length_map]; exact hk) hd (fun H1 locs1 hP1 hD1 hS1 => ?_)
  have e1 : (fs.map (cv g.1)).set k (cv g.1 v) = (fs.set k v).map (cv g.1) := by rw [List.map_set]
  rw [e1] at hP1
  have e2 : (cw g.1 g.2.2 ws).set i (g.1 + i, .inr (ci, (fs.set k v).map (cv g.1))) = cw g.1 g.2.2 (ws.set i (.inr (ci, fs.set k v))) := cw_set (e := .inr (ci, fs.set k v))
  rw [e2] at hP1
  exact kk H1 locs1 ls hP1 hS1 hl

theorem ab_putF (O : ab_Ok X g cc own) {index i ci k N : Nat} {C : String} {T : u_T} {ty0 : Nat → FieldType} {fs : List Value} {v : Value} (F : fl_ok own index ci k C T N) (E : cl_ok T N ty0) (hd : decode cc pc = .ok (.putfield index, 3)) (he : ws[i]? = some (.inr (ci, fs))) (hfin : (T k).2.2.2 = true) (hin : (xt X).name = "<init>") (hdecl : (T k).1 = own) (ty : FieldType) (hty : parseFieldDescriptor (T k).2.2.1 = some ty) (hn : ∀ b, narrow ty (cv b v) = cv b v) (hf : ∀ b, fits ty (cv b v) = true) (hk : k < fs.length) (kk : Ab X g cells slots Q (pc + 3) L st (ws.set i (.inr (ci, fs.set k v)))) : Ab X g cells slots Q pc L (v :: .ref i :: st) ws := by
  intro H locs ls hP hS hl
  refine va_putF O.1 O.2.1 O.2.2.2.1 F.2.2.2 ty0 E.1 E.2 O.2.2.1 O.2.2.2.2.1 hP (cw_D _ _ _) hS i (cw_get he) F.1 k F.2.1 (O.2.2.2.1 _ F.2.2.1) (fun _ h => h) hfin hin hdecl hty (hn _) (hf _) (by rw [List.length_map]; exact hk) hd (fun H1 locs1 hP1 hD1 hS1 => ?_)
  have e1 : (fs.map (cv g.1)).set k (cv g.1 v) = (fs.set k v).map (cv g.1) := by rw [List.map_set]
  rw [e1] at hP1
  have e2 : (cw g.1 g.2.2 ws).set i (g.1 + i, .inr (ci, (fs.set k v).map (cv g.1))) = cw g.1 g.2.2 (ws.set i (.inr (ci, fs.set k v))) := cw_set (e := .inr (ci, fs.set k v))
  rw [e2] at hP1
  exact kk H1 locs1 ls hP1 hS1 hl

theorem ab_iald (O : ab_Ok X g cc own) {i n : Nat} {f : Nat → Int32} {j : Int32} (hd : decode cc pc = .ok (.iaload, 1)) (he : ws[i]? = some (.inl (0, n, .inl f))) (hin : vp_in j n) (k : Ab X g cells slots Q (pc + 1) L (.int (f j.toNatClampNeg) :: st) ws) : Ab X g cells slots Q pc L (.int j :: .ref i :: st) ws := by
  intro H locs ls hP hS hl
  exact va_iald O.1 O.2.1 O.2.2.2.2.1 hP i 0 (cw_get he) rfl hin hd (k H locs ls hP hS hl)

theorem ab_zald (O : ab_Ok X g cc own) {i n : Nat} {f : Nat → Int32} {j : Int32} (hd : decode cc pc = .ok (.baload, 1)) (he : ws[i]? = some (.inl (1, n, .inl f))) (hin : vp_in j n) (k : Ab X g cells slots Q (pc + 1) L (.int (f j.toNatClampNeg) :: st) ws) : Ab X g cells slots Q pc L (.int j :: .ref i :: st) ws := by
  intro H locs ls hP hS hl
  exact va_zald O.1 O.2.1 O.2.2.2.2.1 hP i 1 (cw_get he) rfl hin hd (k H locs ls hP hS hl)

theorem ab_lald (O : ab_Ok X g cc own) {i n : Nat} {f : Nat → Int64} {j : Int32} (hd : decode cc pc = .ok (.laload, 1)) (he : ws[i]? = some (.inl (2, n, .inr (.inl f)))) (hin : vp_in j n) (k : Ab X g cells slots Q (pc + 1) L (.long (f j.toNatClampNeg) :: st) ws) : Ab X g cells slots Q pc L (.int j :: .ref i :: st) ws := by
  intro H locs ls hP hS hl
  exact va_lald O.1 O.2.1 O.2.2.2.2.1 hP i 2 (cw_get he) rfl hin hd (k H locs ls hP hS hl)

theorem ab_dald (O : ab_Ok X g cc own) {i n : Nat} {f : Nat → UInt64} {j : Int32} (hd : decode cc pc = .ok (.daload, 1)) (he : ws[i]? = some (.inl (3, n, .inr (.inr (.inr (.inl f)))))) (hin : vp_in j n) (k : Ab X g cells slots Q (pc + 1) L (.double (f j.toNatClampNeg) :: st) ws) : Ab X g cells slots Q pc L (.int j :: .ref i :: st) ws := by
  intro H locs ls hP hS hl
  exact va_dald O.1 O.2.1 O.2.2.2.2.1 hP i 3 (cw_get he) rfl hin hd (k H locs ls hP hS hl)

theorem ab_aald (O : ab_Ok X g cc own) {i n r : Nat} {f : Nat → Option Nat} {j : Int32} (hd : decode cc pc = .ok (.aaload, 1)) (he : ws[i]? = some (.inl (4, n, .inr (.inr (.inr (.inr f)))))) (hin : vp_in j n) (hr : f j.toNatClampNeg = some r) (k : Ab X g cells slots Q (pc + 1) L (.ref r :: st) ws) : Ab X g cells slots Q pc L (.int j :: .ref i :: st) ws := by
  intro H locs ls hP hS hl
  have hlt : j.toNatClampNeg < n := Nat.not_le.mp fun q => hin (Or.inr q)
  have ha := hP i _ (cw_get he)
  refine W.aald (v := .ref (g.1 + r)) (ty := .array .int) O.1 O.2.1 ha ((O.2.2.2.2.1.2 4 _ rfl).1 n (fun j => va_rf ((f j).map (fun i => g.1 + i)))) rfl (fun q => by cases q) (by show ¬ (j < 0 ∨ (arrV _ _ _).slots.size ≤ _); rw [arrV_size]; exact hin) (by show (arrV _ _ _).slots[_]? = _; rw [arrV_read _ _ hlt]; show some (va_rf ((f j.toNatClampNeg).map _)) = _; rw [hr]; rfl) rfl rfl hd (k H locs ls hP hS hl)

theorem ab_iast (O : ab_Ok X g cc own) {i n : Nat} {f : Nat → Int32} {j : Int32} {x : Int32} (hd : decode cc pc = .ok (.iastore, 1)) (he : ws[i]? = some (.inl (0, n, .inl f))) (hin : vp_in j n) (kk : Ab X g cells slots Q (pc + 1) L st (ws.set i (.inl (0, n, .inl (upd f j.toNatClampNeg x))))) : Ab X g cells slots Q pc L (.int x :: .int j :: .ref i :: st) ws := by
  intro H locs ls hP hS hl
  refine va_iast O.1 O.2.1 O.2.2.2.2.1 hP (cw_D _ _ _) hS i 0 (cw_get he) rfl hin hd (fun H1 locs1 hP1 hD1 hS1 => ?_)
  have e2 : (cw g.1 g.2.2 ws).set i (g.1 + i, ce g.1 g.2.2 (.inl (0, n, .inl (upd f j.toNatClampNeg x)))) = _ := cw_set
  exact kk H1 locs1 ls (e2 ▸ hP1) hS1 hl

theorem ab_zast (O : ab_Ok X g cc own) {i n : Nat} {f : Nat → Int32} {j : Int32} {x : Int32} (hd : decode cc pc = .ok (.bastore, 1)) (he : ws[i]? = some (.inl (1, n, .inl f))) (hin : vp_in j n) (kk : Ab X g cells slots Q (pc + 1) L st (ws.set i (.inl (1, n, .inl (upd f j.toNatClampNeg (vp_nar .boolean x)))))) : Ab X g cells slots Q pc L (.int x :: .int j :: .ref i :: st) ws := by
  intro H locs ls hP hS hl
  refine va_zast O.1 O.2.1 O.2.2.2.2.1 hP (cw_D _ _ _) hS i 1 (cw_get he) rfl hin hd (fun H1 locs1 hP1 hD1 hS1 => ?_)
  have e2 : (cw g.1 g.2.2 ws).set i (g.1 + i, ce g.1 g.2.2 (.inl (1, n, .inl (upd f j.toNatClampNeg (vp_nar .boolean x))))) = _ := cw_set
  exact kk H1 locs1 ls (e2 ▸ hP1) hS1 hl

theorem ab_last (O : ab_Ok X g cc own) {i n : Nat} {f : Nat → Int64} {j : Int32} {x : Int64} (hd : decode cc pc = .ok (.lastore, 1)) (he : ws[i]? = some (.inl (2, n, .inr (.inl f)))) (hin : vp_in j n) (kk : Ab X g cells slots Q (pc + 1) L st (ws.set i (.inl (2, n, .inr (.inl (vp_updL f j.toNatClampNeg x)))))) : Ab X g cells slots Q pc L (.long x :: .int j :: .ref i :: st) ws := by
  intro H locs ls hP hS hl
  refine va_last O.1 O.2.1 O.2.2.2.2.1 hP (cw_D _ _ _) hS i 2 (cw_get he) rfl hin hd (fun H1 locs1 hP1 hD1 hS1 => ?_)
  have e2 : (cw g.1 g.2.2 ws).set i (g.1 + i, ce g.1 g.2.2 (.inl (2, n, .inr (.inl (vp_updL f j.toNatClampNeg x))))) = _ := cw_set
  exact kk H1 locs1 ls (e2 ▸ hP1) hS1 hl

theorem ab_dast (O : ab_Ok X g cc own) {i n : Nat} {f : Nat → UInt64} {j : Int32} {x : UInt64} (hd : decode cc pc = .ok (.dastore, 1)) (he : ws[i]? = some (.inl (3, n, .inr (.inr (.inr (.inl f)))))) (hin : vp_in j n) (kk : Ab X g cells slots Q (pc + 1) L st (ws.set i (.inl (3, n, .inr (.inr (.inr (.inl (vf_upd f j.toNatClampNeg x)))))))) : Ab X g cells slots Q pc L (.double x :: .int j :: .ref i :: st) ws := by
  intro H locs ls hP hS hl
  refine va_dast O.1 O.2.1 O.2.2.2.2.1 hP (cw_D _ _ _) hS i 3 (cw_get he) rfl hin hd (fun H1 locs1 hP1 hD1 hS1 => ?_)
  have e2 : (cw g.1 g.2.2 ws).set i (g.1 + i, ce g.1 g.2.2 (.inl (3, n, .inr (.inr (.inr (.inl (vf_upd f j.toNatClampNeg x))))))) = _ := cw_set
  exact kk H1 locs1 ls (e2 ▸ hP1) hS1 hl

theorem ab_alen (O : ab_Ok X g cc own) {i n : Nat} {f : Nat → Int32} {v : Int32} (hd : decode cc pc = .ok (.arraylength, 1)) (he : ws[i]? = some (.inl (0, n, .inl f))) (hv : Int32.ofNat n = v) (k : Ab X g cells slots Q (pc + 1) L (.int v :: st) ws) : Ab X g cells slots Q pc L (.ref i :: st) ws := by
  intro H locs ls hP hS hl
  exact va_alen O.1 O.2.1 O.2.2.2.2.1 hP i 0 (cw_get he) rfl hv hd (k H locs ls hP hS hl)

theorem ab_max (O : ab_Ok X g cc own) {index : Nat} {x y : Int32} (hd : decode cc pc = .ok (.invokestatic index, 3)) (hlink : Cond.methodLink own index Lib.Math.max.name ∈ tk_w) (hstat : Cond.static Lib.Math.max.name ∈ tk_w) (hini : Cond.initialized "java/lang/Math" ∈ tk_w) (hcode : Cond.code Lib.Math.max.name Lib.Math.max.code 2 (some .int) ∈ tk_w) (hfr : 1 ≤ (xR X).frames) (hlo : (st.map fun v => v.category).sum + 13 ≤ (xR X).locals) (hc : cells ≤ (xR X).cells) (hs : slots ≤ (xR X).slots) (k : Ab X g cells slots Q (pc + 3) L (.int (if x < y then y else x) :: st) ws) : Ab X g cells slots Q pc L (.int y :: .int x :: st) ws := by
  intro H locs ls hP hS hl
  have ec : ((st.map (cv g.1)).map fun v => v.category) = st.map fun v => v.category := by rw [List.map_map]; exact List.map_congr_left (fun v _ => cv_cat _ v)
  exact va_mmax O.1 O.2.1 hl.1.symm O.2.2.1 (O.2.2.2.1 _ hlink) (O.2.2.2.1 _ hstat) (O.2.2.2.1 _ hini) (O.2.2.2.1 _ hcode) hfr (by rw [ec]; exact hlo) hc hs hd (k H locs ls hP hS hl)

theorem ab_widen {c2 s2 : Nat} (h1 : cells ≤ c2) (h2 : slots ≤ s2) (k : Ab X g c2 s2 Q pc L st ws) : Ab X g cells slots Q pc L st ws := fun H locs ls hP hS hl => W.widen h1 h2 (k H locs ls hP hS hl)
theorem ab_eq {pc2 : Nat} {L2 : List (Option Value)} {st2 : List Value} {ws2 : List va_E} (h : Ab X g cells slots Q pc2 L2 st2 ws2) (e1 : pc2 = pc) (e2 : L2 = L) (e3 : st2 = st) (e4 : ws2 = ws) : Ab X g cells slots Q pc L st ws := by
  subst e1; subst e2; subst e3; subst e4; exact h
end ABR
