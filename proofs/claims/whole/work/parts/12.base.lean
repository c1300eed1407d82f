/-! what a walk may forget; Arrays.fill; the throw whose class has another pool -/
def ab_le : List (Option Value) → List (Option Value) → Prop
  | [], [] => True
  | a :: as, b :: bs => (a = none ∨ a = b) ∧ ab_le as bs
  | _, _ => False
theorem ab_le_0 : ab_le [] [] := trivial
theorem ab_le_n {as bs : List (Option Value)} {b : Option Value} (h : ab_le as bs) : ab_le (none :: as) (b :: bs) := ⟨Or.inl rfl, h⟩
theorem ab_le_s {as bs : List (Option Value)} {b : Option Value} (h : ab_le as bs) : ab_le (b :: as) (b :: bs) := ⟨Or.inr rfl, h⟩
theorem ab_le_len : ∀ {as bs : List (Option Value)}, ab_le as bs → as.length = bs.length
  | [], [], _ => rfl
  | _ :: _, _ :: _, h => by rw [List.length_cons, List.length_cons, ab_le_len h.2]
  | [], _ :: _, h => h.elim
  | _ :: _, [], h => h.elim
theorem ab_le_at : ∀ {as bs : List (Option Value)}, ab_le as bs → ∀ (i : Nat) (v : Value), as[i]? = some (some v) → bs[i]? = some (some v)
  | [], [], _, i, v, h => by simp at h
  | a :: _, b :: _, h, 0, v, e => by
    rcases h.1 with q | q
    · rw [q] at e; simp at e
    · rw [← q]; exact e
  | _ :: as, _ :: bs, h, i + 1, v, e => by
    rw [List.getElem?_cons_succ] at e ⊢
    exact ab_le_at h.2 i v e
  | [], _ :: _, h, _, _, _ => h.elim
  | _ :: _, [], h, _, _, _ => h.elim
theorem ab_less {X : ab_M} {g : ab_G} {cells slots : Nat} {Q : State → Prop} {pc : Nat} {L L' : List (Option Value)} {st : List Value} {ws : List va_E} (h : Ab X g cells slots Q pc L' st ws) (e : ab_le L' L) : Ab X g cells slots Q pc L st ws := fun H locs ls hP hS hl => h H locs ls hP hS ⟨hl.1, hl.2.1, (ab_le_len e).trans hl.2.2.1, fun i v hi => hl.2.2.2 i v (ab_le_at e i v hi)⟩
theorem fill_loop {X : ab_M} {g : ab_G} {l : Launch} {fr : Prop} {d i n : Nat} {v : Int32} {ws : List va_E} {Qc : Array Value → State → Outcome → State → Prop} (O : ab_Ok X g cJ7_fill_53178 RJ7) (hn : n < 2 ^ 31) (f : Nat → Int32) (hi : i < ws.length)
    (hk : Ab X g 0 0 (tk_Q X g Qc (fun _ _ => False) 0 0) 20 [some (.ref i), some (.int v), some (.int (nI n)), some (.int (nI n))] [] (ws.set i (.inl (0, n, .inl (fun j => if j < n then v else f j))))) :
    ∀ (m k : Nat), k ≤ n → n - k < m → Ab X g 0 0 (tk_Q X g Qc (fun _ _ => False) 0 0) 5 [some (.ref i), some (.int v), some (.int (nI k)), some (.int (nI n))] [] (ws.set i (.inl (0, n, .inl (fun j => if j < k then v else f j)))) := by
  intro m
  induction m with
  | zero => intro k h1 h2; omega
  | succ m ih =>
    intro k h1 h2
    refine ab_iload_n O 2 dJ7_fill_53178_5 rfl rfl ?_
    refine ab_iload_n O 3 dJ7_fill_53178_6 rfl rfl ?_
    refine ab_icmp_ge O 20 dJ7_fill_53178_7 rfl (fun q => ?_) (fun q => ?_)
    · have hkn : k = n := by
        rcases Nat.lt_or_ge k n with z | z
        · exact absurd q (nI_ge z hn)
        · omega
      subst hkn
      exact hk
    · have hkn : k < n := by
        rcases Nat.lt_or_ge k n with z | z
        · exact z
        · exact absurd (nI_le z (by omega)) q
      refine ab_aload_n O 0 dJ7_fill_53178_10 rfl rfl ?_
      refine ab_iload_n O 2 dJ7_fill_53178_11 rfl rfl ?_
      refine ab_iload_n O 1 dJ7_fill_53178_12 rfl rfl ?_
      refine ab_iast O dJ7_fill_53178_13 (List.getElem?_set_self hi) (vp_in_nI hkn hn) ?_
      refine ab_iinc O (nI (k + 1)) dJ7_fill_53178_14 rfl (by rw [← nI_1]; rfl) ?_
      refine ab_goto O 5 dJ7_fill_53178_17 rfl ?_
      refine ab_eq (ih (k + 1) hkn (by omega)) rfl rfl rfl ?_
      rw [List.set_set, nI_clamp (by omega)]
      congr 5
      funext j
      show (if j < k + 1 then v else f j) = if j = k then v else if j < k then v else f j
      by_cases e1 : j = k
      · subst e1; simp
      · by_cases e2 : j < k
        · simp [e2, Nat.lt_succ_of_lt e2]
        · simp [e1, e2, show ¬ j < k + 1 by omega]
/-- Arrays.fill(int[], int) -/
theorem c_fill (l : Launch) (hl : l.stackTraces = false) (g : ab_G) (fr : Prop) (d : Nat) (ws : List va_E) (i n : Nat) (v : Int32) (f : Nat → Int32) (he : ws[i]? = some (.inl (0, n, .inl f))) (hn : n < 2 ^ 31) :
    Ct l g tk_strs fr d 0 0 yJ7_fill_53178 cJ7_fill_53178 4 none [.ref i, .int v] ws (tk_V g (fun u => u = ws.set i (.inl (0, n, .inl (fun j => if j < n then v else f j))))) (fun _ _ => False) := by
  refine ct_in (by decide +kernel) (show 2 ≤ 4 by decide) (by simp [Value.category]) hl (fun X I O _ => ?_)
  show Ab X g 0 0 _ 0 [some (.ref i), some (.int v), none, none] [] _
  have hi : i < ws.length := (List.getElem?_eq_some_iff.mp he).1
  refine ab_iconst O 0 dJ7_fill_53178_0 rfl ?_
  refine ab_istore_n O 2 dJ7_fill_53178_1 rfl (show 2 < 4 by decide) ?_
  refine ab_aload_n O 0 dJ7_fill_53178_2 rfl rfl ?_
  refine ab_alen O dJ7_fill_53178_3 he (v := nI n) rfl ?_
  refine ab_istore_n O 3 dJ7_fill_53178_4 rfl (show 3 < 4 by decide) ?_
  refine ab_eq (fill_loop (l := l) (fr := fr) (d := d) O hn f hi ?_ (n + 1) 0 (Nat.zero_le _) (by omega)) rfl rfl rfl ?_
  · exact ab_return O I dJ7_fill_53178_20 (by decide) (by decide) rfl
  · have e : (fun j => if j < 0 then v else f j) = f := funext fun j => if_neg (Nat.not_lt_zero j)
    rw [e]
    apply List.ext_getElem?
    intro j
    rw [List.getElem?_set]
    by_cases h : i = j
    · subst h; rw [if_pos rfl, if_pos hi, he]
    · rw [if_neg h]

theorem sw_fill_31 (V : Mm) (o : Nat → Int64) (D : Nat → UInt64) (x : Int32) : (SW V o D).set 31 (.inl (0, 20, .inl (fun j => if j < 20 then x else V 31 j))) = SW (wfill V 31 20 x) o D := rfl
theorem sw_fill_32 (V : Mm) (o : Nat → Int64) (D : Nat → UInt64) (x : Int32) : (SW V o D).set 32 (.inl (0, 20, .inl (fun j => if j < 20 then x else V 32 j))) = SW (wfill V 32 20 x) o D := rfl
section NSE
variable {p : Program} {l : Launch} {e : Env} {R : Room} {s : State} {m : MethodId} {args : Array Value} {below : List Frame} {meth : Method} {c : Code} {W0 : State} {locs : List Loc} {cells slots : Nat}
theorem ns_six_0 : decode ns_six 0 = .ok (.aload_n 0, 1) := by decide +kernel
theorem ns_six_1 : decode ns_six 1 = .ok (.aload_n 1, 1) := by decide +kernel
theorem ns_six_2 : decode ns_six 2 = .ok (.invokespecial 13, 3) := by decide +kernel
theorem ns_six_5 : decode ns_six 5 = .ok (.return_, 1) := by decide +kernel
set_option maxHeartbeats 4000000 in
theorem ns_ctor (X : Stand p l e R s m args below meth c W0 locs cells slots) (hexec : p.tables.exec = Jvm.exec) (htr : e.platform.stackTraces = false) {own cls : String} {ic : Nat}
    (hown : s.vm.findClass own = some m.cls) (hcls : Bundle.fit cls = true) (h : ∀ a ∈ ns_full own ic cls, a.before args s = true)
    (hlocs : ∀ x ∈ locs, ∀ cell, s.heap[x.base]? = some cell → cell.vm.isStatics = false)
    {a : Addr} {cX : ClassId} {kX : Class} (hfoundX : s.vm.findClass cls = some cX) (hkX : s.vm.classes[cX]? = some kX) (hcell : W0.heap[a]? = some (freshCell cX kX)) (hnew : s.heap.size ≤ a) {msg : Value} (hmsg : msg.isRef = true)
    {g : JFrame} (hg : g.method = m) (hsize : g.locals.size = c.maxLocals) (hlocked : g.locked = none) (hentered : g.entered = []) {rest : List Value} (hstack : g.stack = msg :: .ref a :: .ref a :: rest)
    (hd6 : decode c.code g.pc = .ok (.invokespecial ic, 3)) (hd9 : decode c.code (g.pc + 3) = .ok (.athrow, 1)) (hout : ∀ x ∈ c.exceptionTable.toList, covers x (g.pc + 3) = false)
    (hRframes : 5 < R.frames) (hRlocals : 2 * g.monitorRoom + ((Value.ref a :: rest).map fun v => v.category).sum + 81 ≤ R.locals) (hlocks : meth.locks = false) :
    ∃ U : State, Steps p.tables e below (W0.setTop g) U ∧ U.status = .running ∧ Ended U below (.threw a) ∧ s.WarmedH U.vm ∧ s.sameButNew ({ U with vm := s.vm } : State) locs cells slots ∧
      ∃ ce, U.heap[a]? = some ce ∧ ce.vm = .none ∧ s.vm.findClass cls = some ce.cls := by
  have howns : e.platform.frameOwnsMonitors = true := by rw [X.admits.platform]
  have hfin : e.platform.finalization = false := by rw [X.admits.platform]
  have hpl : e.platform.magicAccessors = ({} : Platform).magicAccessors := by rw [X.admits.platform]
  have a' : ∀ x, x ∈ ns_full own ic cls → x.holds args s none s [] = true := fun x hx => h x hx
  obtain ⟨T, Z0, L, -, Y⟩ := ThrowableC.of_atoms (args := args) howns hfin hpl (fun x hx => h x (by simp [ns_full, hx]))
  obtain ⟨Z, M, LZ, LM, hnZ⟩ := Init0T.ofS_atoms (args := args) hpl L Y (fun x hx => h x (by simp [ns_full, hx]))
  obtain ⟨P0, L0, hP0m, hP0s⟩ := PassC.ofS_atoms (args := args) (s := s) hpl (X := cls) (Y := "java/lang/RuntimeException") (Bundle.fit_spec hcls).1 (by decide) ns_six_0 ns_six_1 ns_six_2 ns_six_5 (fun x hx => h x (by simp only [ns_full, List.mem_append]; exact Or.inl (Or.inr (Or.inl hx))))
  obtain ⟨P1, Ps, hlen, L1, hL, hP1m, hlink1, hlink⟩ := Bundle.chainS (args := args) hpl hnZ ["java/lang/Exception"] "java/lang/RuntimeException" (by decide +kernel) (by decide +kernel) (fun x hx => h x (by simp only [ns_full, List.mem_append]; exact Or.inl (Or.inr (Or.inr hx))))
  have hsup0 : P0.sup = P1.m := Option.some.inj (hP0s.symm.trans hP1m)
  have hfound : s.vm.findClass cls = some P0.m.cls := findClass_of_methodNamed hP0m
  cases Option.some.inj (hfoundX.symm.trans hfound)
  obtain ⟨c1, kX', hc1, hk, hord, -, -, hn6⟩ := Cond.instantiable_spec (a' (.instantiable cls 6) (by simp [ns_full]))
  cases Option.some.inj (hc1.symm.trans hfound)
  cases Option.some.inj (hkX.symm.trans hk)
  have hsel0 : selectMethod e.platform s.vm P0.m.cls T.fill0 = .method T.fill0 := by
    obtain ⟨c2, r2, m2, q1, q2, q3, q4, -⟩ := Cond.selects_spec (a' (.selects cls Bundle.tFill0 Bundle.tFill0) (by simp [ns_full]))
    cases Option.some.inj (q1.symm.trans hfound)
    cases Option.some.inj (q2.symm.trans (State.methodFound?_of_named Y.fill0 (by decide)))
    cases Option.some.inj (q3.symm.trans Y.fill0)
    rw [Launch.admits_selectMethod X.admits]; exact q4
  have hselF : selectMethod e.platform s.vm P0.m.cls T.fill = .method T.fill := by
    obtain ⟨c2, r2, m2, q1, q2, q3, q4, -⟩ := Cond.selects_spec (a' (.selects cls Bundle.tFill Bundle.tFill) (by simp [ns_full]))
    cases Option.some.inj (q1.symm.trans hfound)
    cases Option.some.inj (q2.symm.trans (State.methodFound?_of_named Y.fill (by decide)))
    cases Option.some.inj (q3.symm.trans Y.fill)
    rw [Launch.admits_selectMethod X.admits]; exact q4
  obtain ⟨cellS0, hcS0, hiss⟩ := Y.statics
  obtain ⟨u0, hu0⟩ := Cond.staticRefV Y.unassigned L.unassignedStatic L.statics hcS0 hiss (a' (.isRef (.static Bundle.tN "UNASSIGNED_STACK" Bundle.steD)) (by simp [ns_full]))
  obtain ⟨sen, hsen⟩ := Cond.staticRefV Y.sentinel L.sentinelStatic L.statics hcS0 hiss (a' (.isRef (.static Bundle.tN "SUPPRESSED_SENTINEL" Bundle.listD)) (by simp [ns_full]))
  obtain ⟨ci198, i198, fB, hk198, hg198, ha198, hsB, -, hnB, htB, hffB⟩ := Cond.ownField (t := .object "java/lang/Object") Y.found L.cls (by decide +kernel) (a' (.fieldLink Bundle.tN 198 Bundle.tN "backtrace" "Ljava/lang/Object;") (by simp [ns_full])) (a' (.lays Bundle.tN Bundle.tN "backtrace" "Ljava/lang/Object;") (by simp [ns_full])) e.platform hpl
  obtain ⟨cellS, hcS', heS, -, hkeep⟩ := X.same.2.2.2.2.2 T.aS cellS0 hcS0
  have hcellS : W0.heap[T.aS]? = some cellS := hcS'
  have hout' : ∀ i, (⟨T.aS, i⟩ : Loc) ∉ locs := fun i hmem => by
    have := hlocs _ hmem cellS0 hcS0
    rw [hiss] at this; cases this
  have hknownS : cellS.vm ≠ .unknown := by
    rw [heS]; intro hu
    rw [show cellS0.vm = .unknown from hu] at hiss
    cases hiss
  have hneS : T.aS ≠ a := Nat.ne_of_lt (Nat.lt_of_lt_of_le (Array.getElem?_eq_some_iff.mp hcS0).1 hnew)
  obtain ⟨iM, hffM⟩ := Y.msg
  obtain ⟨tyC, dC, hdC, hdnC⟩ := Cond.laysAt hfound hk Y.cause (a' (.lays cls Bundle.tN "cause" "Ljava/lang/Throwable;") (by simp [ns_full]))
  obtain ⟨tyS, dS, hdS, hdnS⟩ := Cond.laysAt hfound hk Y.stack (a' (.lays cls Bundle.tN "stackTrace" Bundle.steD) (by simp [ns_full]))
  obtain ⟨tyP, dP, hdP, hdnP⟩ := Cond.laysAt hfound hk Y.supp (a' (.lays cls Bundle.tN "suppressedExceptions" Bundle.listD) (by simp [ns_full]))
  obtain ⟨tyM, dM, hdM, hdnM⟩ := Cond.laysAt hfound hk hffM (a' (.lays cls Bundle.tN "detailMessage" "Ljava/lang/String;") (by simp [ns_full]))
  obtain ⟨tyB, dB, hdB, hdnB⟩ := Cond.laysAt hfound hk hffB (a' (.lays cls Bundle.tN "backtrace" "Ljava/lang/Object;") (by simp [ns_full]))
  have bC := Cond.laysApart hdB hdC hdnB hdnC (by rw [hnB, Y.causeName]; decide)
  have bS := Cond.laysApart hdB hdS hdnB hdnS (by rw [hnB, Y.stackName]; decide)
  have bP := Cond.laysApart hdB hdP hdnB hdnP (by rw [hnB, Y.suppName]; decide)
  have hskip : SkipFacts T e.platform s (fun u => u) u0 ((preparedCellV T.toThrowableT (freshCell P0.m.cls kX) a u0 sen).withEntry W0.cur) :=
    ⟨{ ci198 := ci198, i198 := i198, fBack := fB }, ⟨hk198, hg198, ha198, hsB⟩, by
      have := fresh_default (c := P0.m.cls) tyB
      rw [htB] at this
      simpa [preparedCellV, Cell.setSlot, Cell.withEntry, Array.getElem?_setIfInBounds, bC, bS, bP, bC.symm, bS.symm, bP.symm, defaultValue] using this, fun _ _ => rfl⟩
  obtain ⟨tm, methC, cdC, kC, vm₁, hnC, -, -, -, -, -, -, -, hW₁, st1⟩ := Steps.initColdS (tb := p.tables) (e := e) (below := below) (s := s) (U := W0) X.here hexec X.warmed hpl hown (t := Bundle.initS cls) rfl rfl (Bundle.fit_spec hcls).2
    (a' (.methodLink own ic (Bundle.initS cls)) (by simp [ns_full])) (h (.instanceMethod (Bundle.initS cls)) (by simp [ns_full, Bundle.passSAtoms])) (bytes := ns_six) (maxL := 2) (h (.code (Bundle.initS cls) ns_six 2 none) (by simp [ns_full, Bundle.passSAtoms]))
    (f := g) hg (a := a) (msg := msg) (rest := .ref a :: rest) hstack hd6
  cases Option.some.inj (hnC.symm.trans hP0m)
  have X₁ := X.noted hW₁
  have hlk : P0.sup = firstOf (Z.m T.toThrowableT) ((P1 :: Ps).map (·.toPassT)) := hsup0
  obtain ⟨vm₂, X₂, st2⟩ := X₁.ctorMessageOffV hexec (g := { g with stack := .ref a :: rest }) hg hsize T L Z LZ M LM (P0 :: P1 :: Ps)
    (fun P hP => by
      rcases List.mem_cons.mp hP with rfl | hP
      · exact L0
      · rcases List.mem_cons.mp hP with rfl | hP
        · exact L1
        · exact hL P hP) ⟨hlk, hlink1, hlink⟩ (u0 := u0) (sen := sen) (self := a) hmsg (cell := freshCell P0.m.cls kX) (cellS := cellS)
    hcell (fun _ => by simp) (by simp) rfl rfl hsel0 hselF hcellS hneS hknownS (by rw [hkeep _ (hout' _)]; exact hu0) (by rw [hkeep _ (hout' _)]; exact hsen)
    (Takes.of_laid hk hord tyC (by rw [Y.causeType]; rfl)) (Takes.of_laid hk hord tyS (by rw [Y.stackType]; exact fits_refV_array _ u0)) (Takes.of_laid hk hord tyP (by rw [Y.suppType]; exact fits_refV_object _ sen))
    (Takes.of_laid hk hord tyM (by rw [Y.msgType]; exact fits_refV_object _ ⟨msg, hmsg⟩)) Y.objLocals hskip htr [] hd6
    (by simp only [List.length_cons, hlen, List.length_nil]; omega) (by simp only [List.length_cons, hlen, List.length_nil]; exact hRlocals)
  obtain ⟨hwalk, hrun, hended, hWU, hsame⟩ := X₂.athrowLeaves hexec (g := { g with stack := .ref a :: rest, pc := g.pc + 3 }) hg hlocked hentered hout (a := a) (rest := rest) rfl hd9
  have hlt : a < ((W0.setVm vm₁).setVm vm₂).heap.size := (Array.getElem?_eq_some_iff.mp hcell).1
  have hU := heapAt_setCell_self (s := (W0.setVm vm₁).setVm vm₂) (plainBareV T.toThrowableT (freshCell P0.m.cls kX) a u0 sen msg) hlt
  refine ⟨_, st1 _ (fun acts => ?_), hrun, hended, hWU, hsame.weaken (fun y hy hlt' => ?_) (Nat.le_refl _) (Nat.le_refl _), _, hU, rfl, hfound⟩
  · rw [doInvoke_state]
    exact st2 _ hwalk
  · rcases List.mem_append.mp hy with h1 | h1
    · exact h1
    · exfalso
      have hb : y.base = a := by
        simp only [List.mem_cons, List.not_mem_nil, or_false] at h1
        rcases h1 with rfl | rfl | rfl | rfl | rfl <;> rfl
      rw [hb] at hlt'
      exact Nat.not_lt.mpr hnew hlt'

set_option maxHeartbeats 4000000 in
theorem ns_throw {H : Heap} {ls : Array Slot} {rest : List Value} {free : Addr → Prop} {Qc : Array Value → State → Outcome → State → Prop} {XC : String → State → State → Prop} {cc : ByteArray} {pc : Nat} (hexec : p.tables.exec = Jvm.exec) (hb : c.code = cc) (hl : l.stackTraces = false) {own cls text : String} {ik is ic mc ms sa : Nat} {A : Nat → Prop}
    (hown : s.vm.findClass own = some m.cls) (hcls : Bundle.fit cls = true)
    (hk : (Cond.classLink own ik cls).before args s = true) (hini : (Cond.initialized cls).before args s = true) (hstr : vk_R own is text sa s) (hat : ∀ w ∈ ns_at own ic cls, w.before args s = true)
    (hgood : ∀ w ∈ Cond.classLink own ik cls :: Cond.initialized cls :: ns_at own ic cls, vx_ot w = true)
    (hU : vx_Zq Bundle.tN "UNASSIGNED_STACK" Bundle.steD A s s.heap) (hN : vx_Zq Bundle.tN "SUPPRESSED_SENTINEL" Bundle.listD A s s.heap) (hS : va_S A s.heap H locs) (hsize : ls.size = c.maxLocals)
    (d0 : decode cc pc = .ok (.new ik, 3)) (d3 : decode cc (pc + 3) = .ok (.dup, 1)) (d4 : decode cc (pc + 4) = .ok (.ldc is, 2)) (d6 : decode cc (pc + 6) = .ok (.invokespecial ic, 3)) (d9 : decode cc (pc + 9) = .ok (.athrow, 1))
    (hout : ∀ x ∈ c.exceptionTable.toList, covers x (pc + 9) = false)
    (hRframes : 5 < R.frames) (hRlocals : (rest.map fun v => v.category).sum + 82 ≤ R.locals) (hRcells : cells + 1 ≤ R.cells) (hRslots : slots + 6 ≤ R.slots) (hlocks : meth.locks = false)
    (hx : ∀ t : State, s.vm.Alike t.vm → H.size ≤ t.heap.size → (∀ q : Nat, q < H.size → t.heap[q]? = H[q]?) → XC cls s t)
    (hf : ∀ z ∈ locs, free z.base) (hc : cells + 1 ≤ mc) (hs : slots + 6 ≤ ms) :
    W p l e R s m args below meth c H locs cells slots (vx_MQ below Qc XC args s mc ms free) (F0 m pc ls rest) := by
  intro T hT X
  have htr : e.platform.stackTraces = false := (show e.platform.stackTraces = l.stackTraces by rw [X.admits.platform]).trans hl
  have Y := vx_rebase X (R' := { frames := R.frames, locals := R.locals, cells := 1, slots := 6 }) (Nat.le_refl _) (Nat.le_refl _) hRcells hRslots
  obtain ⟨s', hA⟩ : ∃ z, z = (T.setVm s.vm).setFrames (.invoking m args :: below) := ⟨_, rfl⟩
  rw [← hA] at Y
  have hvm : s'.vm = s.vm := by rw [hA]; rfl
  have hhp : s'.heap = H := by rw [hA]; exact hT
  have hW0 : s.WarmedH s'.vm := by rw [hvm]; exact State.WarmedH.refl s
  have hat' : ∀ w ∈ ns_at own ic cls, w.before args s' = true := fun w hw => vx_ot_at hW0 hvm.symm (hgood w (List.mem_cons_of_mem _ (List.mem_cons_of_mem _ hw))) (hat w hw)
  have hk' : (Cond.classLink own ik cls).before args s' = true := vx_ot_at hW0 hvm.symm (hgood _ List.mem_cons_self) hk
  have hini' : (Cond.initialized cls).before args s' = true := vx_ot_at hW0 hvm.symm (hgood _ (List.mem_cons_of_mem _ List.mem_cons_self)) hini
  have hU' : vx_Zq Bundle.tN "UNASSIGNED_STACK" Bundle.steD A s' s'.heap := by rw [hhp]; exact vx_Zq.moved hW0.alike (hU.kept hS.2.1)
  have hN' : vx_Zq Bundle.tN "SUPPRESSED_SENTINEL" Bundle.listD A s' s'.heap := by rw [hhp]; exact vx_Zq.moved hW0.alike (hN.kept hS.2.1)
  have h : ∀ w ∈ ns_full own ic cls, w.before args s' = true := vx_own hat' (vx_isRefq hU'.1) (vx_isRefq hN'.1) hU'.2.word hN'.2.word
  have hown' : s'.vm.findClass own = some m.cls := by rw [hvm]; exact hown
  have hins : (Cond.instantiable cls 6).before args s' = true := h _ (by simp [ns_full])
  obtain ⟨vm₁, cX, kX, hfX, hkX, -, -, X₁, st1⟩ := Y.newCold hexec (own := own) (C := cls) (index := ik) (n := 6) hown' hk' hins hini'
    (g := F0 m pc ls rest) rfl (by rw [hb]; exact d0) (Nat.le_refl _) (Nat.le_refl _)
  generalize hT1 : (T.setVm vm₁).pushCell { cls := cX, slots := kX.instanceTypes.map defaultValue, vm := .none } = T1 at X₁ st1
  have hcat : (Value.ref T.heap.size).category = 1 := rfl
  have hcellA : T1.heap[T.heap.size]? = some (freshCell cX kX) := by rw [← hT1]; exact State.heap_pushCell_size _ _
  have d3' : decode c.code (pc + 3) = .ok (.dup, 1) := by rw [hb]; exact d3
  have d4' : decode c.code (pc + 4) = .ok (.ldc is, 2) := by rw [hb]; exact d4
  have hstr' : vk_R own is text sa s' := vk_R.warm hW0 hstr
  obtain ⟨U, hsteps, hrun, hend, hW, hsame, ce, hce, hvn, hcl0⟩ := ns_ctor X₁ hexec htr (own := own) (cls := cls) (ic := ic) hown' hcls h (fun x hx => nomatch hx) hfX hkX hcellA (by rw [hhp, hT]; exact Nat.le_refl _) (msg := .ref sa) rfl
    (g := { method := m, pc := pc + 6, locals := ls, stack := .ref sa :: .ref T.heap.size :: .ref T.heap.size :: rest, locked := none }) rfl hsize rfl rfl (rest := rest) rfl
    (by rw [hb]; exact d6) (by rw [hb]; exact d9) hout hRframes (by simp only [List.map_cons, List.sum_cons, hcat]; omega) hlocks
  obtain ⟨f1, f2⟩ := vx_frame hsame
  rw [hhp] at f1 f2
  have hWs : s.WarmedH U.vm := State.WarmedH.trans hW0 hW
  have hcl : s.vm.findClass cls = some ce.cls := by
    have h9 := hcl0
    rw [hvm] at h9
    exact h9
  have hall : s.sameButNew ({ U with vm := s.vm } : State) locs mc ms := by
    subst hA
    obtain ⟨e1, e2⟩ := hsame
    rw [State.setFrames_setFrames] at e1
    have h2 : (T.setVm s.vm).sameButNew ({ U with vm := s.vm } : State) [] (0 + 1) (0 + 6) := ⟨e1, e2⟩
    have h3 := X.same.trans h2
    rw [List.append_nil] at h3
    exact h3.mono hc hs
  refine ⟨U, ?_, .threw T.heap.size, hrun, hend, Or.inr ⟨T.heap.size, rfl, cls, ce, locs, hx U hWs.alike f1 (fun q hq => f2 q hq (fun z hz => nomatch hz)), hce, hvn, hcl, hWs, hall, hf⟩⟩
  refine st1 _ ?_
  show Steps p.tables e below (T1.setTop { method := m, pc := pc + 3, locals := ls, stack := .ref T.heap.size :: rest, locked := none }) _
  jvm_step X₁.here [X₁.here.top, hexec, d3', Value.category]
  exact X₁.ldcString hexec (own := own) (text := text) (index := is) (a := sa) hown' hstr'.1 hstr'.2
    (g := { method := m, pc := pc + 4, locals := ls, stack := .ref T.heap.size :: .ref T.heap.size :: rest, locked := none }) rfl d4' _ hsteps

set_option maxHeartbeats 4000000 in
theorem ns_throwW {H : Heap} {ls : Array Slot} {rest : List Value} {free : Addr → Prop} {Qc : Array Value → State → Outcome → State → Prop} {XC : String → State → State → Prop} {cc : ByteArray} {pc : Nat} (hexec : p.tables.exec = Jvm.exec) (hb : c.code = cc) (hl : l.stackTraces = false) {own cls text : String} {ik is ic mc ms sa : Nat} {A : Nat → Prop}
    (hown : s.vm.findClass own = some m.cls) (hcls : Bundle.fit cls = true)
    (hk : (Cond.classLink own ik cls).before args s = true) (hini : (Cond.initialized cls).before args s = true) (hstr : vk_R own is text sa s) (hat : ∀ w ∈ ns_at own ic cls, w.before args s = true)
    (hgood : ∀ w ∈ Cond.classLink own ik cls :: Cond.initialized cls :: ns_at own ic cls, vx_ot w = true)
    (hU : vx_Zq Bundle.tN "UNASSIGNED_STACK" Bundle.steD A s s.heap) (hN : vx_Zq Bundle.tN "SUPPRESSED_SENTINEL" Bundle.listD A s s.heap) (hS : va_S A s.heap H locs) (hsize : ls.size = c.maxLocals)
    (d0 : decode cc pc = .ok (.new ik, 3)) (d3 : decode cc (pc + 3) = .ok (.dup, 1)) (d4 : decode cc (pc + 4) = .ok (.ldc_w is, 3)) (d6 : decode cc (pc + 7) = .ok (.invokespecial ic, 3)) (d9 : decode cc (pc + 10) = .ok (.athrow, 1))
    (hout : ∀ x ∈ c.exceptionTable.toList, covers x (pc + 10) = false)
    (hRframes : 5 < R.frames) (hRlocals : (rest.map fun v => v.category).sum + 82 ≤ R.locals) (hRcells : cells + 1 ≤ R.cells) (hRslots : slots + 6 ≤ R.slots) (hlocks : meth.locks = false)
    (hx : ∀ t : State, s.vm.Alike t.vm → H.size ≤ t.heap.size → (∀ q : Nat, q < H.size → t.heap[q]? = H[q]?) → XC cls s t)
    (hf : ∀ z ∈ locs, free z.base) (hc : cells + 1 ≤ mc) (hs : slots + 6 ≤ ms) :
    W p l e R s m args below meth c H locs cells slots (vx_MQ below Qc XC args s mc ms free) (F0 m pc ls rest) := by
  intro T hT X
  have htr : e.platform.stackTraces = false := (show e.platform.stackTraces = l.stackTraces by rw [X.admits.platform]).trans hl
  have Y := vx_rebase X (R' := { frames := R.frames, locals := R.locals, cells := 1, slots := 6 }) (Nat.le_refl _) (Nat.le_refl _) hRcells hRslots
  obtain ⟨s', hA⟩ : ∃ z, z = (T.setVm s.vm).setFrames (.invoking m args :: below) := ⟨_, rfl⟩
  rw [← hA] at Y
  have hvm : s'.vm = s.vm := by rw [hA]; rfl
  have hhp : s'.heap = H := by rw [hA]; exact hT
  have hW0 : s.WarmedH s'.vm := by rw [hvm]; exact State.WarmedH.refl s
  have hat' : ∀ w ∈ ns_at own ic cls, w.before args s' = true := fun w hw => vx_ot_at hW0 hvm.symm (hgood w (List.mem_cons_of_mem _ (List.mem_cons_of_mem _ hw))) (hat w hw)
  have hk' : (Cond.classLink own ik cls).before args s' = true := vx_ot_at hW0 hvm.symm (hgood _ List.mem_cons_self) hk
  have hini' : (Cond.initialized cls).before args s' = true := vx_ot_at hW0 hvm.symm (hgood _ (List.mem_cons_of_mem _ List.mem_cons_self)) hini
  have hU' : vx_Zq Bundle.tN "UNASSIGNED_STACK" Bundle.steD A s' s'.heap := by rw [hhp]; exact vx_Zq.moved hW0.alike (hU.kept hS.2.1)
  have hN' : vx_Zq Bundle.tN "SUPPRESSED_SENTINEL" Bundle.listD A s' s'.heap := by rw [hhp]; exact vx_Zq.moved hW0.alike (hN.kept hS.2.1)
  have h : ∀ w ∈ ns_full own ic cls, w.before args s' = true := vx_own hat' (vx_isRefq hU'.1) (vx_isRefq hN'.1) hU'.2.word hN'.2.word
  have hown' : s'.vm.findClass own = some m.cls := by rw [hvm]; exact hown
  have hins : (Cond.instantiable cls 6).before args s' = true := h _ (by simp [ns_full])
  obtain ⟨vm₁, cX, kX, hfX, hkX, -, -, X₁, st1⟩ := Y.newCold hexec (own := own) (C := cls) (index := ik) (n := 6) hown' hk' hins hini'
    (g := F0 m pc ls rest) rfl (by rw [hb]; exact d0) (Nat.le_refl _) (Nat.le_refl _)
  generalize hT1 : (T.setVm vm₁).pushCell { cls := cX, slots := kX.instanceTypes.map defaultValue, vm := .none } = T1 at X₁ st1
  have hcat : (Value.ref T.heap.size).category = 1 := rfl
  have hcellA : T1.heap[T.heap.size]? = some (freshCell cX kX) := by rw [← hT1]; exact State.heap_pushCell_size _ _
  have d3' : decode c.code (pc + 3) = .ok (.dup, 1) := by rw [hb]; exact d3
  have d4' : decode c.code (pc + 4) = .ok (.ldc_w is, 3) := by rw [hb]; exact d4
  have hstr' : vk_R own is text sa s' := vk_R.warm hW0 hstr
  obtain ⟨U, hsteps, hrun, hend, hW, hsame, ce, hce, hvn, hcl0⟩ := ns_ctor X₁ hexec htr (own := own) (cls := cls) (ic := ic) hown' hcls h (fun x hx => nomatch hx) hfX hkX hcellA (by rw [hhp, hT]; exact Nat.le_refl _) (msg := .ref sa) rfl
    (g := { method := m, pc := pc + 7, locals := ls, stack := .ref sa :: .ref T.heap.size :: .ref T.heap.size :: rest, locked := none }) rfl hsize rfl rfl (rest := rest) rfl
    (by rw [hb]; exact d6) (by rw [hb]; exact d9) hout hRframes (by simp only [List.map_cons, List.sum_cons, hcat]; omega) hlocks
  obtain ⟨f1, f2⟩ := vx_frame hsame
  rw [hhp] at f1 f2
  have hWs : s.WarmedH U.vm := State.WarmedH.trans hW0 hW
  have hcl : s.vm.findClass cls = some ce.cls := by
    have h9 := hcl0
    rw [hvm] at h9
    exact h9
  have hall : s.sameButNew ({ U with vm := s.vm } : State) locs mc ms := by
    subst hA
    obtain ⟨e1, e2⟩ := hsame
    rw [State.setFrames_setFrames] at e1
    have h2 : (T.setVm s.vm).sameButNew ({ U with vm := s.vm } : State) [] (0 + 1) (0 + 6) := ⟨e1, e2⟩
    have h3 := X.same.trans h2
    rw [List.append_nil] at h3
    exact h3.mono hc hs
  refine ⟨U, ?_, .threw T.heap.size, hrun, hend, Or.inr ⟨T.heap.size, rfl, cls, ce, locs, hx U hWs.alike f1 (fun q hq => f2 q hq (fun z hz => nomatch hz)), hce, hvn, hcl, hWs, hall, hf⟩⟩
  refine st1 _ ?_
  show Steps p.tables e below (T1.setTop { method := m, pc := pc + 3, locals := ls, stack := .ref T.heap.size :: rest, locked := none }) _
  jvm_step X₁.here [X₁.here.top, hexec, d3', Value.category]
  exact X₁.ldcStringW hexec (own := own) (text := text) (index := is) (a := sa) hown' hstr'.1 hstr'.2
    (g := { method := m, pc := pc + 4, locals := ls, stack := .ref T.heap.size :: .ref T.heap.size :: rest, locked := none }) rfl d4' _ hsteps

end NSE
theorem ab_throwN {X : ab_M} {g : ab_G} {cells slots : Nat} {pc : Nat} {L : List (Option Value)} {st : List Value} {ws : List va_E} {cc : ByteArray} {own : String} {l : Launch} {strs : List (String × Nat × String)} {nL : Nat} {ret : Option FieldType} {name : String} {d mc ms : Nat} {px : String → List va_E → Prop} {Qc : Array Value → State → Outcome → State → Prop} (O : ab_Ok X g cc own) (I : ab_I X l strs nL ret name d mc ms) {cls text : String} {ik is ic : Nat} (T : th_okN own cls ik ic) (hstr : (own, is, text) ∈ strs)
    (d0 : decode cc pc = .ok (.new ik, 3)) (d3 : decode cc (pc + 3) = .ok (.dup, 1)) (d4 : decode cc (pc + 4) = .ok (.ldc is, 2)) (d6 : decode cc (pc + 6) = .ok (.invokespecial ic, 3)) (d9 : decode cc (pc + 9) = .ok (.athrow, 1))
    (hfr : 5 < d) (hlo : (st.map fun v => v.category).sum + 82 ≤ 36 * d) (hc : cells + 1 ≤ mc) (hs : slots + 6 ≤ ms) (hp : px cls ws) : Ab X g cells slots (tk_Q X g Qc px mc ms) pc L st ws := by
  intro H locs ls hP hS hl
  obtain ⟨sa, hsa⟩ := I.2.2.2.2.2.2.1 _ hstr
  have hR : xR X = tk_rm d mc ms := I.2.1
  refine ns_throw (own := own) (cls := cls) (ik := ik) (is := is) (ic := ic) (A := ab_A g) O.1 O.2.1 O.2.2.2.2.2.2.1 O.2.2.1 T.1 (O.2.2.2.1 _ T.2.1) (O.2.2.2.1 _ T.2.2.1) hsa (fun w hw => (T.2.2.2.2 w hw).elim (fun q => O.2.2.2.1 _ q) (fun q => tk_oth_at I.2.2.2.2.2.2 T.2.2.2.1 q)) ?_ O.2.2.2.2.2.2.2.1.1 O.2.2.2.2.2.2.2.1.2 hS hl.1 d0 d3 d4 d6 d9 (fun x hx => (I.2.2.2.2.2.1 x hx).elim) (by rw [hR]; exact hfr) (by rw [tk_cat, hR]; exact hlo) (by rw [hR]; exact hc) (by rw [hR]; exact hs) O.2.2.2.2.2.2.2.2 ?_ hS.2.2 hc hs
  · intro w hw
    have hm : w ∈ tk_w ∨ w ∈ tk_oth cls := by
      rcases List.mem_cons.mp hw with e | hw
      · rw [e]; exact Or.inl T.2.1
      · rcases List.mem_cons.mp hw with e | hw
        · rw [e]; exact Or.inl T.2.2.1
        · exact T.2.2.2.2 w hw
    show (w.onTables || goodWord w) = true
    rcases hm with hm | hm
    · rw [(List.mem_filter.mp hm).2, Bool.or_true]
    · rw [tk_oth_tab hm]; rfl
  · intro t _ h1 h2
    exact ⟨ws, trivial, ⟨hp, tk_kept hP h2⟩, Nat.le_trans hS.1 h1, fun q hq hA => (h2 q (Nat.lt_of_lt_of_le hq hS.1)).trans (hS.2.1 q hq hA)⟩
theorem ab_throwWN {X : ab_M} {g : ab_G} {cells slots : Nat} {pc : Nat} {L : List (Option Value)} {st : List Value} {ws : List va_E} {cc : ByteArray} {own : String} {l : Launch} {strs : List (String × Nat × String)} {nL : Nat} {ret : Option FieldType} {name : String} {d mc ms : Nat} {px : String → List va_E → Prop} {Qc : Array Value → State → Outcome → State → Prop} (O : ab_Ok X g cc own) (I : ab_I X l strs nL ret name d mc ms) {cls text : String} {ik is ic : Nat} (T : th_okN own cls ik ic) (hstr : (own, is, text) ∈ strs)
    (d0 : decode cc pc = .ok (.new ik, 3)) (d3 : decode cc (pc + 3) = .ok (.dup, 1)) (d4 : decode cc (pc + 4) = .ok (.ldc_w is, 3)) (d6 : decode cc (pc + 7) = .ok (.invokespecial ic, 3)) (d9 : decode cc (pc + 10) = .ok (.athrow, 1))
    (hfr : 5 < d) (hlo : (st.map fun v => v.category).sum + 82 ≤ 36 * d) (hc : cells + 1 ≤ mc) (hs : slots + 6 ≤ ms) (hp : px cls ws) : Ab X g cells slots (tk_Q X g Qc px mc ms) pc L st ws := by
  intro H locs ls hP hS hl
  obtain ⟨sa, hsa⟩ := I.2.2.2.2.2.2.1 _ hstr
  have hR : xR X = tk_rm d mc ms := I.2.1
  refine ns_throwW (own := own) (cls := cls) (ik := ik) (is := is) (ic := ic) (A := ab_A g) O.1 O.2.1 O.2.2.2.2.2.2.1 O.2.2.1 T.1 (O.2.2.2.1 _ T.2.1) (O.2.2.2.1 _ T.2.2.1) hsa (fun w hw => (T.2.2.2.2 w hw).elim (fun q => O.2.2.2.1 _ q) (fun q => tk_oth_at I.2.2.2.2.2.2 T.2.2.2.1 q)) ?_ O.2.2.2.2.2.2.2.1.1 O.2.2.2.2.2.2.2.1.2 hS hl.1 d0 d3 d4 d6 d9 (fun x hx => (I.2.2.2.2.2.1 x hx).elim) (by rw [hR]; exact hfr) (by rw [tk_cat, hR]; exact hlo) (by rw [hR]; exact hc) (by rw [hR]; exact hs) O.2.2.2.2.2.2.2.2 ?_ hS.2.2 hc hs
  · intro w hw
    have hm : w ∈ tk_w ∨ w ∈ tk_oth cls := by
      rcases List.mem_cons.mp hw with e | hw
      · rw [e]; exact Or.inl T.2.1
      · rcases List.mem_cons.mp hw with e | hw
        · rw [e]; exact Or.inl T.2.2.1
        · exact T.2.2.2.2 w hw
    show (w.onTables || goodWord w) = true
    rcases hm with hm | hm
    · rw [(List.mem_filter.mp hm).2, Bool.or_true]
    · rw [tk_oth_tab hm]; rfl
  · intro t _ h1 h2
    exact ⟨ws, trivial, ⟨hp, tk_kept hP h2⟩, Nat.le_trans hS.1 h1, fun q hq hA => (h2 q (Nat.lt_of_lt_of_le hq hS.1)).trans (hS.2.1 q hq hA)⟩
