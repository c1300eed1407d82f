/-! CONTRACTS over numbered cells -/
def tk_rm (d mc ms : Nat) : Room := { frames := d, cells := mc, slots := ms, locals := 36 * d }
/-- the strings that the class's throws load; a nest mate's constructor; which exceptions are which -/
def tk_exs : List String := ["java/lang/IllegalArgumentException", "java/lang/IllegalStateException", "java/lang/IndexOutOfBoundsException", "java/lang/UnsupportedOperationException", "java/util/NoSuchElementException"]
def tk_dcl : List MethodName := [Bundle.initS "java/lang/RuntimeException", Bundle.initS "java/lang/Exception", Bundle.initS Bundle.tN]
def tk_oth (cls : String) : List Cond := .castable cls cls :: tk_dcl.map Cond.declares
def tk_S (strs : List (String × Nat × String)) (U : State) : Prop := (∀ q ∈ strs, ∃ sa : Nat, vk_R q.1 q.2.1 q.2.2 sa U) ∧ (va_Nw (.methodLinkNest RX8 9 yX3_init RX8) U ∧ va_Nw (.arrayOver (.array .int)) U) ∧ (∀ x ∈ tk_dcl, va_Nw (.declares x) U) ∧ ∀ E ∈ tk_exs, va_Nw (.castable E E) U ∧ ∀ F ∈ tk_exs, E ≠ F → va_Nc E F U
/-- a method's start: fr: nothing stands in the heap behind the cells -/
def tk_P (g : ab_G) (strs : List (String × Nat × String)) (fr : Prop) (ws : List va_E) : State → Prop := fun U => va_P g.2.1 vwCl (cw g.1 g.2.2 ws) U.heap ∧ (fr → U.heap.size = g.1 + ws.length) ∧ va_K g.2.1 vwCl (tk_ty g) U ∧ g.1 ≤ U.heap.size ∧ tk_X g U U.heap ∧ tk_S strs U
def tk_B (g : ab_G) (ws : List va_E) (t : State) : Prop := va_P g.2.1 vwCl (cw g.1 g.2.2 ws) t.heap
/-- its end where it throws -/
def tk_E (g : ab_G) (px : String → List va_E → Prop) : String → State → State → Prop := vx_X (fun _ : List va_E => True) (fun E u t => px E u ∧ tk_B g u t) (ab_A g)
abbrev tk_I (g : ab_G) (post : Int32 → List va_E → Prop) : Array Value → State → Outcome → State → Prop := va_Qi post (tk_B g) (ab_A g)
abbrev tk_V (g : ab_G) (post : List va_E → Prop) : Array Value → State → Outcome → State → Prop := va_Qv post (tk_B g) (ab_A g)
abbrev tk_F (g : ab_G) (post : UInt32 → List va_E → Prop) : Array Value → State → Outcome → State → Prop := va_Qf post (tk_B g) (ab_A g)
/-- a method's contract: depth d, at most mc cells of ms slots made -/
def Ct (l : Launch) (g : ab_G) (strs : List (String × Nat × String)) (fr : Prop) (d mc ms : Nat) (y : MethodName) (cc : ByteArray) (nL : Nat) (ret : Option FieldType) (args : List Value) (ws : List va_E) (Qc : Array Value → State → Outcome → State → Prop) (px : String → List va_E → Prop) : Prop :=
  vx_Met l y (.code y cc nL ret :: tk_w) (tk_rm d mc ms) (va_Pc (args.map (cv g.1)) (tk_P g strs fr ws)) Qc (tk_E g px) mc ms (ab_A g)
/-- the end that a walk owes -/
def tk_Q (X : ab_M) (g : ab_G) (Qc : Array Value → State → Outcome → State → Prop) (px : String → List va_E → Prop) (mc ms : Nat) : State → Prop := vx_MQ (xb X) Qc (tk_E g px) (xa X) (xs X) mc ms (ab_A g)
/-- what a walk knows of its own frame -/
def ab_I (X : ab_M) (l : Launch) (strs : List (String × Nat × String)) (nL : Nat) (ret : Option FieldType) (name : String) (d mc ms : Nat) : Prop :=
  xl X = l ∧ xR X = tk_rm d mc ms ∧ (xc X).maxLocals = nL ∧ (xt X).sig.returnType = ret ∧ (xt X).name = name ∧ (∀ x ∈ (xc X).exceptionTable.toList, False) ∧ tk_S strs (xs X)
theorem lv_args_at : ∀ (vs : List Value) (k i : Nat) (v : Value), (∀ u ∈ vs, u.category = 1) → vs[i]? = some v → (k + i, v) ∈ lv_args k vs
  | [], _, _, _, _, h => by simp at h
  | u :: vs, k, 0, v, _, h => by
    simp at h
    subst h
    exact List.mem_cons_self
  | u :: vs, k, i + 1, v, hc, h => by
    have h1 : u.category = 1 := hc u List.mem_cons_self
    have h2 := lv_args_at vs (k + 1) i v (fun x hx => hc x (List.mem_cons_of_mem _ hx)) (by simpa using h)
    have e : k + (i + 1) = k + 1 + i := by omega
    rw [e]
    refine List.mem_cons_of_mem _ ?_
    rw [if_neg (by rw [h1]; decide)]
    exact h2
theorem lg_sl_len : ∀ (vs : List Value), (∀ u ∈ vs, u.category = 1) → (lg_sl vs).length = vs.length
  | [], _ => rfl
  | u :: vs, hc => by
    have h1 : u.category = 1 := hc u List.mem_cons_self
    have h2 := lg_sl_len vs (fun x hx => hc x (List.mem_cons_of_mem _ hx))
    cases u <;> first | (exact absurd h1 (show ¬ (2 : Nat) = 1 by decide)) | (show (lg_sl vs).length + 1 = vs.length + 1; rw [h2])
theorem tk_S.moved {strs : List (String × Nat × String)} {u U : State} (hW : u.WarmedH U.vm) (h : tk_S strs u) : tk_S strs U := ⟨fun q hq => by
  obtain ⟨sa, h1⟩ := h.1 q hq
  exact ⟨sa, h1.warm hW⟩, ⟨h.2.1.1.warmM hW, Jvm.Stand.arrayOver_alikeB hW.alike h.2.1.2⟩, fun x hx => (h.2.2.1 x hx).warmD hW, fun E hE => ⟨(h.2.2.2 E hE).1.warmC hW, fun F hF hne => ((h.2.2.2 E hE).2 F hF hne).moved hW.alike⟩⟩
/-- into a method -/
theorem ct_in {l : Launch} {g : ab_G} {strs : List (String × Nat × String)} {fr : Prop} {d mc ms : Nat} {y : MethodName} {cc : ByteArray} {nL : Nat} {ret : Option FieldType} {args : List Value} {ws : List va_E} {Qc : Array Value → State → Outcome → State → Prop} {px : String → List va_E → Prop}
    (hy : plainName y.cls = true) (hn : args.length ≤ nL) (hc : ∀ u ∈ args, u.category = 1) (hl : l.stackTraces = false)
    (body : ∀ X : ab_M, ab_I X l strs nL ret y.name d mc ms → ab_Ok X g cc y.cls → (fr → (xs X).heap.size = g.1 + ws.length) → Ab X g 0 0 (tk_Q X g Qc px mc ms) 0 (args.map some ++ List.replicate (nL - args.length) none) [] ws) :
    Ct l g strs fr d mc ms y cc nL ret args ws Qc px := by
  refine vx_ofW (cc := cc) (maxL := nL) (ret := ret) hy rfl ?_
  intro p e s m a below meth c s₁ B hml hno hv
  obtain ⟨rfl, hP, hz, hK, hb, hX, hS⟩ := hv
  have hts := atoms_spec (ws := Cond.code y cc nL ret :: tk_w) B.pre
  have hcv : ∀ u ∈ args.map (cv g.1), u.category = 1 := fun u hu => by
    obtain ⟨v, hv, rfl⟩ := List.mem_map.mp hu
    rw [cv_cat]; exact hc v hv
  have hlen : (lg_sl (args.map (cv g.1))).length ≤ nL := by rw [lg_sl_len _ hcv, List.length_map]; exact hn
  have hL := lv_entry (args.map (cv g.1)) (n := nL) hlen
  rw [lg_entry_eq]
  have k := body (p, l, e, (headSpec (Cond.code y cc nL ret :: tk_w) (tk_rm d mc ms)).room, s, m, (args.map (cv g.1)).toArray, below, meth, c)
    ⟨rfl, rfl, hml, B.returns, (name_of_methodNamed B.named B.method).1, hno, hS⟩
    ⟨B.exec, B.bytes, findClass_of_methodNamed B.named, fun w hw => hts w (List.mem_cons_of_mem _ hw), hK, hb, hl, hX, B.notSynchronized⟩ hz
  refine k s.heap [] _ hP va_S.rf ⟨hL.1.trans hml.symm, hL.2.1, ?_, fun i v hi => ?_⟩
  · show _ = c.maxLocals
    rw [hml, List.length_append, List.length_map, List.length_replicate]; omega
  · by_cases hil : i < args.length
    · rw [List.getElem?_append_left (by rw [List.length_map]; exact hil), List.getElem?_map] at hi
      cases ha : args[i]? with
      | none => rw [ha] at hi; cases hi
      | some u =>
        rw [ha] at hi
        cases hi
        have h1 : (args.map (cv g.1))[i]? = some (cv g.1 v) := by rw [List.getElem?_map, ha]; rfl
        have h2 := lv_args_at (args.map (cv g.1)) 0 i _ hcv h1
        rw [Nat.zero_add] at h2
        exact ⟨hL.2.2 _ h2, hc v (List.mem_of_getElem? ha)⟩
    · rw [List.getElem?_append_right (by rw [List.length_map]; omega), List.getElem?_replicate] at hi
      split at hi <;> cases hi
section ABC
variable {X : ab_M} {g : ab_G} {cells slots : Nat} {pc : Nat} {L : List (Option Value)} {st : List Value} {ws : List va_E} {cc : ByteArray} {own : String} {Q : State → Prop}
variable {l : Launch} {strs : List (String × Nat × String)} {nL : Nat} {ret : Option FieldType} {name : String} {d mc ms : Nat} {px : String → List va_E → Prop}
theorem ab_ireturn {post : Int32 → List va_E → Prop} {ty : FieldType} {v : Int32} (O : ab_Ok X g cc own) (I : ab_I X l strs nL (some ty) name d mc ms) (hd : decode cc pc = .ok (.ireturn, 1)) (hc : cells ≤ mc) (hs : slots ≤ ms) (hn : narrow ty (.int v) = .int v) (hp : post v ws) : Ab X g cells slots (tk_Q X g (tk_I g post) px mc ms) pc L [.int v] ws := by
  intro H locs ls hP hS hl
  refine W.widen hc hs ?_
  refine vx_ret ?_
  exact W.zret (v := v) O.1 O.2.1 I.2.2.2.1 hn (fun t ht hW => ⟨⟨v, ws, rfl, hp, by show va_P _ _ _ t.heap; rw [ht]; exact hP⟩, hS.F ht⟩) hS.2.2 hd O.2.2.2.2.2.2.2.2
theorem ab_return {post : List va_E → Prop} (O : ab_Ok X g cc own) (I : ab_I X l strs nL none name d mc ms) (hd : decode cc pc = .ok (.return_, 1)) (hc : cells ≤ mc) (hs : slots ≤ ms) (hp : post ws) : Ab X g cells slots (tk_Q X g (tk_V g post) px mc ms) pc L [] ws := by
  intro H locs ls hP hS hl
  refine W.widen hc hs ?_
  refine vx_ret ?_
  exact W.vret O.1 O.2.1 I.2.2.2.1 (fun t ht hW => ⟨⟨ws, rfl, hp, by show va_P _ _ _ t.heap; rw [ht]; exact hP⟩, hS.F ht⟩) hS.2.2 hd O.2.2.2.2.2.2.2.2
theorem ab_freturn {post : UInt32 → List va_E → Prop} {v : UInt32} (O : ab_Ok X g cc own) (I : ab_I X l strs nL (some .float) name d mc ms) (hd : decode cc pc = .ok (.freturn, 1)) (hc : cells ≤ mc) (hs : slots ≤ ms) (hp : post v ws) : Ab X g cells slots (tk_Q X g (tk_F g post) px mc ms) pc L [.float v] ws := by
  intro H locs ls hP hS hl
  refine W.widen hc hs ?_
  refine vx_ret ?_
  exact W.fret (v := v) O.1 O.2.1 I.2.2.2.1 (fun t ht hW => ⟨⟨v, ws, rfl, hp, by show va_P _ _ _ t.heap; rw [ht]; exact hP⟩, hS.F ht⟩) hS.2.2 hd O.2.2.2.2.2.2.2.2
theorem ab_init {index : Nat} {i : Nat} (O : ab_Ok X g cc own) (hd : decode cc pc = .ok (.invokespecial index, 3)) (hlink : Cond.methodLink own index Lib.objectInit ∈ tk_w) (hinst : Cond.instanceMethod Lib.objectInit ∈ tk_w) (hcode : Cond.code Lib.objectInit ⟨#[0xb1]⟩ 1 none ∈ tk_w) (hfr : 1 ≤ (xR X).frames) (hlo : (st.map fun v => v.category).sum + 12 ≤ (xR X).locals) (k : Ab X g cells slots Q (pc + 3) L st ws) : Ab X g cells slots Q pc L (.ref i :: st) ws := by
  intro H locs ls hP hS hl
  have ec : ((st.map (cv g.1)).map fun v => v.category) = st.map fun v => v.category := by rw [List.map_map]; exact List.map_congr_left (fun v _ => cv_cat _ v)
  refine W.objInit O.1 O.2.1 O.2.2.1 (O.2.2.2.1 _ hlink) (O.2.2.2.1 _ hinst) (O.2.2.2.1 _ hcode) (g := F0 (xm X) pc ls (.ref (g.1 + i) :: st.map (cv g.1))) rfl hl.1 rfl hd hfr ?_ (k H locs ls hP hS hl)
  show 2 * 0 + ((st.map (cv g.1)).map fun v => v.category).sum + 12 ≤ _
  rw [ec]; omega
end ABC

/-- a throw of a new object of the class cls with a text -/
def th_ok (own cls : String) (ik ic : Nat) (names : List String) : Prop := Bundle.fit cls = true ∧ (∀ n ∈ names, Bundle.fit n = true) ∧ Cond.classLink own ik cls ∈ tk_w ∧ Cond.initialized cls ∈ tk_w ∧ cls ∈ tk_exs ∧ ∀ w ∈ vx_atS own ic cls names, w ∈ tk_w ∨ w ∈ tk_oth cls
/-- the same for java.util.NoSuchElementException, whose constructor calls RuntimeException's by the entry 13 of its pool -/
def ns_six : ByteArray := ⟨#[0x2a, 0x2b, 0xb7, 0x00, 0x0d, 0xb1]⟩
def ns_full (own : String) (ic : Nat) (X : String) : List Cond :=
  Bundle.throwableAtoms ++ Bundle.throwableSAtoms ++ (Bundle.passSAtoms X "java/lang/RuntimeException" 13 ns_six ++ Bundle.chainSAtoms "java/lang/RuntimeException" ["java/lang/Exception"]) ++
  ([.methodLink own ic (Bundle.initS X), .instantiable X 6, .castable X X, .selects X Bundle.tFill0 Bundle.tFill0, .selects X Bundle.tFill Bundle.tFill,
   .lays X Bundle.tN "cause" "Ljava/lang/Throwable;", .lays X Bundle.tN "stackTrace" Bundle.steD, .lays X Bundle.tN "suppressedExceptions" Bundle.listD, .lays X Bundle.tN "detailMessage" "Ljava/lang/String;",
   .isRef (.static Bundle.tN "UNASSIGNED_STACK" Bundle.steD), .isRef (.static Bundle.tN "SUPPRESSED_SENTINEL" Bundle.listD),
   .fieldLink Bundle.tN 198 Bundle.tN "backtrace" "Ljava/lang/Object;", .lays Bundle.tN Bundle.tN "backtrace" "Ljava/lang/Object;", .lays X Bundle.tN "backtrace" "Ljava/lang/Object;"] : List Cond)
def ns_at (own : String) (ic : Nat) (X : String) : List Cond := (ns_full own ic X).filter vx_no
def th_okN (own cls : String) (ik ic : Nat) : Prop := Bundle.fit cls = true ∧ Cond.classLink own ik cls ∈ tk_w ∧ Cond.initialized cls ∈ tk_w ∧ cls ∈ tk_exs ∧ ∀ w ∈ ns_at own ic cls, w ∈ tk_w ∨ w ∈ tk_oth cls
theorem tk_oth_at {strs : List (String × Nat × String)} {args : Array Value} {s : State} {cls : String} {w : Cond} (h : tk_S strs s) (hc : cls ∈ tk_exs) (hw : w ∈ tk_oth cls) : w.before args s = true := by
  rcases List.mem_cons.mp hw with e | hw
  · rw [e]; exact va_Nw.use rfl (h.2.2.2 cls hc).1
  · obtain ⟨x, hx, rfl⟩ := List.mem_map.mp hw
    exact va_Nw.use rfl (h.2.2.1 x hx)
theorem tk_oth_tab {cls : String} {w : Cond} (hw : w ∈ tk_oth cls) : w.onTables = true := by
  rcases List.mem_cons.mp hw with e | hw
  · rw [e]; rfl
  · obtain ⟨x, hx, rfl⟩ := List.mem_map.mp hw
    rfl
/-- in a frame, an exception of the class E thrown -/
def AbX (X : ab_M) (g : ab_G) (cells slots : Nat) (Q : State → Prop) (pc : Nat) (L : List (Option Value)) (E : String) (ws : List va_E) : Prop :=
  ∀ (H : Heap) (locs : List Loc) (ls : Array Slot) (rest : List Value) (ce : Cell) (q : Addr), va_P g.2.1 vwCl (cw g.1 g.2.2 ws) H → va_S (ab_A g) (xs X).heap H locs → ab_L g.1 ls (xc X).maxLocals L → H[q]? = some ce → ce.vm = .none → (xs X).vm.findClass E = some ce.cls →
    vx_W (xp X) (xl X) (xe X) (xR X) (xs X) (xm X) (xa X) (xb X) (xt X) (xc X) H locs cells slots Q (F0 (xm X) pc ls rest) q
section ABD
variable {X : ab_M} {g : ab_G} {cells slots : Nat} {pc : Nat} {L : List (Option Value)} {st : List Value} {ws : List va_E} {cc : ByteArray} {own : String} {Q : State → Prop}
variable {l : Launch} {strs : List (String × Nat × String)} {nL : Nat} {ret : Option FieldType} {name : String} {d mc ms : Nat} {px : String → List va_E → Prop} {Qc : Array Value → State → Outcome → State → Prop}
theorem tk_kept {H H1 : Heap} (hP : va_P g.2.1 vwCl (cw g.1 g.2.2 ws) H) (h : ∀ q : Nat, q < H.size → H1[q]? = H[q]?) : va_P g.2.1 vwCl (cw g.1 g.2.2 ws) H1 := hP.kept (fun k q hk => h q.1 ((hP k q hk).lt))
theorem abx_out (O : ab_Ok X g cc own) (I : ab_I X l strs nL ret name d mc ms) {E : String} (hc : cells ≤ mc) (hs : slots ≤ ms) (hp : px E ws) : AbX X g cells slots (tk_Q X g Qc px mc ms) pc L E ws := by
  intro H locs ls rest ce q hP hS hl h1 h2 h3
  exact vx_out (fun x hx => (I.2.2.2.2.2.1 x hx).elim) O.2.2.2.2.2.2.2.2 h1 h2 h3 (fun t ht _ => ⟨ws, trivial, ⟨hp, by show va_P _ _ _ t.heap; rw [ht]; exact hP⟩, hS.F ht⟩) hS.2.2 hc hs
theorem tk_cat (b : Nat) (st : List Value) : ((st.map (cv b)).map fun v => v.category) = st.map fun v => v.category := by rw [List.map_map]; exact List.map_congr_left (fun v _ => cv_cat _ v)

theorem ab_throw (O : ab_Ok X g cc own) (I : ab_I X l strs nL ret name d mc ms) {cls text : String} {ik is ic : Nat} {names : List String} (T : th_ok own cls ik ic names) (hstr : (own, is, text) ∈ strs)
    (d0 : decode cc pc = .ok (.new ik, 3)) (d3 : decode cc (pc + 3) = .ok (.dup, 1)) (d4 : decode cc (pc + 4) = .ok (.ldc is, 2)) (d6 : decode cc (pc + 6) = .ok (.invokespecial ic, 3)) (d9 : decode cc (pc + 9) = .ok (.athrow, 1))
    (hfr : names.length + 3 < d) (hlo : (st.map fun v => v.category).sum + (13 * (names.length + 1) + 43) ≤ 36 * d) (hc : cells + 1 ≤ mc) (hs : slots + 6 ≤ ms) (hp : px cls ws) : Ab X g cells slots (tk_Q X g Qc px mc ms) pc L st ws := by
  intro H locs ls hP hS hl
  obtain ⟨sa, hsa⟩ := I.2.2.2.2.2.2.1 _ hstr
  have hR : xR X = tk_rm d mc ms := I.2.1
  refine vx_throwS (own := own) (cls := cls) (names := names) (ik := ik) (is := is) (ic := ic) (A := ab_A g) O.1 O.2.1 O.2.2.2.2.2.2.1 O.2.2.1 T.1 T.2.1 (O.2.2.2.1 _ T.2.2.1) (O.2.2.2.1 _ T.2.2.2.1) hsa (fun w hw => (T.2.2.2.2.2 w hw).elim (fun q => O.2.2.2.1 _ q) (fun q => tk_oth_at I.2.2.2.2.2.2 T.2.2.2.2.1 q)) ?_ O.2.2.2.2.2.2.2.1.1 O.2.2.2.2.2.2.2.1.2 hS hl.1 d0 d3 d4 d6 d9 (fun x hx => (I.2.2.2.2.2.1 x hx).elim) (by rw [hR]; exact hfr) (by rw [tk_cat, hR]; exact hlo) (by rw [hR]; exact hc) (by rw [hR]; exact hs) O.2.2.2.2.2.2.2.2 ?_ hS.2.2 hc hs
  · intro w hw
    have hm : w ∈ tk_w ∨ w ∈ tk_oth cls := by
      rcases List.mem_cons.mp hw with e | hw
      · rw [e]; exact Or.inl T.2.2.1
      · rcases List.mem_cons.mp hw with e | hw
        · rw [e]; exact Or.inl T.2.2.2.1
        · exact T.2.2.2.2.2 w hw
    show (w.onTables || goodWord w) = true
    rcases hm with hm | hm
    · rw [(List.mem_filter.mp hm).2, Bool.or_true]
    · rw [tk_oth_tab hm]; rfl
  · intro t _ h1 h2
    exact ⟨ws, trivial, ⟨hp, tk_kept hP h2⟩, Nat.le_trans hS.1 h1, fun q hq hA => (h2 q (Nat.lt_of_lt_of_le hq hS.1)).trans (hS.2.1 q hq hA)⟩

theorem ab_throwW (O : ab_Ok X g cc own) (I : ab_I X l strs nL ret name d mc ms) {cls text : String} {ik is ic : Nat} {names : List String} (T : th_ok own cls ik ic names) (hstr : (own, is, text) ∈ strs)
    (d0 : decode cc pc = .ok (.new ik, 3)) (d3 : decode cc (pc + 3) = .ok (.dup, 1)) (d4 : decode cc (pc + 4) = .ok (.ldc_w is, 3)) (d6 : decode cc (pc + 7) = .ok (.invokespecial ic, 3)) (d9 : decode cc (pc + 10) = .ok (.athrow, 1))
    (hfr : names.length + 3 < d) (hlo : (st.map fun v => v.category).sum + (13 * (names.length + 1) + 43) ≤ 36 * d) (hc : cells + 1 ≤ mc) (hs : slots + 6 ≤ ms) (hp : px cls ws) : Ab X g cells slots (tk_Q X g Qc px mc ms) pc L st ws := by
  intro H locs ls hP hS hl
  obtain ⟨sa, hsa⟩ := I.2.2.2.2.2.2.1 _ hstr
  have hR : xR X = tk_rm d mc ms := I.2.1
  refine vx_throwSW (own := own) (cls := cls) (names := names) (ik := ik) (is := is) (ic := ic) (A := ab_A g) O.1 O.2.1 O.2.2.2.2.2.2.1 O.2.2.1 T.1 T.2.1 (O.2.2.2.1 _ T.2.2.1) (O.2.2.2.1 _ T.2.2.2.1) hsa (fun w hw => (T.2.2.2.2.2 w hw).elim (fun q => O.2.2.2.1 _ q) (fun q => tk_oth_at I.2.2.2.2.2.2 T.2.2.2.2.1 q)) ?_ O.2.2.2.2.2.2.2.1.1 O.2.2.2.2.2.2.2.1.2 hS hl.1 d0 d3 d4 d6 d9 (fun x hx => (I.2.2.2.2.2.1 x hx).elim) (by rw [hR]; exact hfr) (by rw [tk_cat, hR]; exact hlo) (by rw [hR]; exact hc) (by rw [hR]; exact hs) O.2.2.2.2.2.2.2.2 ?_ hS.2.2 hc hs
  · intro w hw
    have hm : w ∈ tk_w ∨ w ∈ tk_oth cls := by
      rcases List.mem_cons.mp hw with e | hw
      · rw [e]; exact Or.inl T.2.2.1
      · rcases List.mem_cons.mp hw with e | hw
        · rw [e]; exact Or.inl T.2.2.2.1
        · exact T.2.2.2.2.2 w hw
    show (w.onTables || goodWord w) = true
    rcases hm with hm | hm
    · rw [(List.mem_filter.mp hm).2, Bool.or_true]
    · rw [tk_oth_tab hm]; rfl
  · intro t _ h1 h2
    exact ⟨ws, trivial, ⟨hp, tk_kept hP h2⟩, Nat.le_trans hS.1 h1, fun q hq hA => (h2 q (Nat.lt_of_lt_of_le hq hS.1)).trans (hS.2.1 q hq hA)⟩

/-- the heap holds no less than the cells, and no more where all that was made is a cell -/
theorem tk_low {H : Heap} {locs : List Loc} (hb : g.1 ≤ (xs X).heap.size) (hP : va_P g.2.1 vwCl (cw g.1 g.2.2 ws) H) (hS : va_S (ab_A g) (xs X).heap H locs) : g.1 + ws.length ≤ H.size := by
  cases hw : ws with
  | nil => exact Nat.le_trans hb hS.1
  | cons e t =>
    have hl : t.length < ws.length := by rw [hw]; exact Nat.lt_succ_self _
    have h1 := (hP t.length _ (cw_get (List.getElem?_eq_getElem hl))).lt
    show g.1 + (t.length + 1) ≤ H.size
    have h2 : g.1 + t.length < H.size := h1
    omega
theorem tk_size {T : State} {H : Heap} {locs : List Loc} (hT : T.heap = H) (Xs : Stand (xp X) (xl X) (xe X) (xR X) (xs X) (xm X) (xa X) (xb X) (xt X) (xc X) T locs cells slots) (hb : g.1 ≤ (xs X).heap.size) (hP : va_P g.2.1 vwCl (cw g.1 g.2.2 ws) H) (hS : va_S (ab_A g) (xs X).heap H locs) (hF : (xs X).heap.size + cells ≤ g.1 + ws.length) : H.size = g.1 + ws.length := by
  have h1 := tk_low hb hP hS
  have h2 : T.heap.size ≤ (xs X).heap.size + cells := Xs.same.2.2.1
  rw [hT] at h2
  omega
theorem tk_blind {av : List Value} {fr : Prop} : FrameBlind (va_Pc av (tk_P g strs fr ws)) := fun a U g9 mk q => ⟨q.1, q.2.1, q.2.2.1, va_K.moved (u := U) (U := U.calling g9 mk a) (Vm.Alike.refl U.vm) q.2.2.2.1, q.2.2.2.2.1, ⟨vx_Zq.moved (u := U) (U := U.calling g9 mk a) (Vm.Alike.refl U.vm) q.2.2.2.2.2.1.1, vx_Zq.moved (u := U) (U := U.calling g9 mk a) (Vm.Alike.refl U.vm) q.2.2.2.2.2.1.2⟩, tk_S.moved (u := U) (U := U.calling g9 mk a) (State.WarmedH.refl U) q.2.2.2.2.2.2⟩
theorem tk_pre {fr : Prop} {H : Heap} {locs : List Loc} (O : ab_Ok X g cc own) (hI : tk_S strs (xs X)) (hP : va_P g.2.1 vwCl (cw g.1 g.2.2 ws) H) (hS : va_S (ab_A g) (xs X).heap H locs) (hz : fr → H.size = g.1 + ws.length) (U : State) (hU : U.heap = H) (hW : (xs X).WarmedH U.vm) : tk_P g strs fr ws U := by
  refine ⟨by rw [hU]; exact hP, by rw [hU]; exact hz, va_K.moved hW.alike O.2.2.2.2.1, by rw [hU]; exact Nat.le_trans O.2.2.2.2.2.1 hS.1, ⟨?_, ?_⟩, hI.moved hW⟩
  · rw [hU]; exact (O.2.2.2.2.2.2.2.1.1.kept hS.2.1).moved hW.alike
  · rw [hU]; exact (O.2.2.2.2.2.2.2.1.2.kept hS.2.1).moved hW.alike
/-- what the tables say of a call -/
def cs_ok (own : String) (index : Nat) (y : MethodName) (c2 : ByteArray) (nL2 : Nat) (ret2 : Option FieldType) (n : Nat) : Prop := (y.cls ≠ "java/lang/invoke/MethodHandle" ∧ y.cls ≠ "java/lang/invoke/VarHandle" ∧ (parseMethodDescriptor y.desc).map (fun d => d.parameters.length) = some n) ∧ Cond.methodLink own index y ∈ tk_w ∧ Cond.initialized y.cls ∈ tk_w ∧ Cond.code y c2 nL2 ret2 ∈ tk_w
def cv_ok (own : String) (index : Nat) (y : MethodName) (c2 : ByteArray) (nL2 : Nat) (ret2 : Option FieldType) (n : Nat) : Prop := cs_ok own index y c2 nL2 ret2 n ∧ Cond.instanceMethod y ∈ tk_w ∧ Cond.selects y.cls y y ∈ tk_w
def ct_ok (own : String) (index : Nat) (y : MethodName) (c2 : ByteArray) (nL2 : Nat) (ret2 : Option FieldType) (n : Nat) : Prop := cs_ok own index y c2 nL2 ret2 n ∧ Cond.static y ∈ tk_w
def ci_ok (own : String) (index : Nat) (y : MethodName) (c2 : ByteArray) (nL2 : Nat) (n : Nat) : Prop := cs_ok own index y c2 nL2 none n ∧ Cond.instanceMethod y ∈ tk_w ∧ y.name = "<init>"
theorem tk_callB {R : Room} {s : State} {args : Array Value} {index n nL2 d2 mc2 ms2 : Nat} {y : MethodName} {c2 : ByteArray} {ret2 : Option FieldType} (hts : ∀ w ∈ tk_w, w.before args s = true) (h : cs_ok own index y c2 nL2 ret2 n) (hR : d2 + 1 ≤ R.frames ∧ 8 + (nL2 + 11) + 36 * d2 ≤ R.locals) : CallB R s args own index y c2 nL2 ret2 (.code y c2 nL2 ret2 :: tk_w) (tk_rm d2 mc2 ms2) mc2 ms2 n :=
  callB_of n hts (tk_good tk_w _ (fun _ h => h) h.2.2.2) rfl rfl rfl (hts _ h.2.2.1) (hts _ h.2.1) h.1 hR
theorem tk_recv {H : Heap} {i ci N : Nat} {C : String} {T : u_T} {fs : List Value} (O : ab_Ok X g cc own) (hP : va_P g.2.1 vwCl (cw g.1 g.2.2 ws) H) (hc : vwCl[ci]? = some (C, T, N)) (he : ws[i]? = some (.inr (ci, fs))) : ∃ cell : Cell, H[g.1 + i]? = some cell ∧ cell.vm.isStatics = false ∧ (xs X).vm.findClass C = some cell.cls :=
  va_recv O.2.2.2.2.1 hP hc (cw_get he)

theorem ab_callvI (O : ab_Ok X g cc own) (hI : tk_S strs (xs X)) {fr : Prop} {index n nL2 d2 mc2 ms2 : Nat} {y : MethodName} {c2 : ByteArray} {ret2 : Option FieldType} {args stk : List Value} {post : Int32 → List va_E → Prop} {px2 : String → List va_E → Prop} (h : cv_ok own index y c2 nL2 ret2 n) {i ci N : Nat} {T : u_T} {fs : List Value} (hcl : vwCl[ci]? = some (y.cls, T, N)) (he : ws[i]? = some (.inr (ci, fs))) (hd : decode cc pc = .ok (.invokevirtual index, 3))
    (hM : Ct (xl X) g strs fr d2 mc2 ms2 y c2 nL2 ret2 (.ref i :: args) ws (tk_I g post) px2) (hst : stk = args.reverse ++ .ref i :: st) (hn : args.length = n) (hR : d2 + 1 ≤ (xR X).frames ∧ 8 + (nL2 + 11) + 36 * d2 ≤ (xR X).locals) (hW : (st.map fun v => v.category).sum ≤ 8) (hroom : cells + mc2 ≤ (xR X).cells ∧ slots + ms2 ≤ (xR X).slots) (hF : fr → (xs X).heap.size + cells ≤ g.1 + ws.length)
    (kx : ∀ (E : String) (u : List va_E), px2 E u → AbX X g (cells + mc2) (slots + ms2) Q pc L E u) (kk : ∀ (r : Int32) (u : List va_E), post r u → Ab X g (cells + mc2) (slots + ms2) Q (pc + 3) L (.int r :: st) u) : Ab X g cells slots Q pc L stk ws := by
  subst hst
  intro H locs ls hP hS hl T hT Xs
  have hz : fr → H.size = g.1 + ws.length := fun q => tk_size hT Xs O.2.2.2.2.2.1 hP hS (hF q)
  refine vx_calli (A0 := ab_A g) (A1 := ab_A g) (AX := ab_A g) (a := ((.ref i :: args).map (cv g.1)).toArray) (rest := st.map (cv g.1)) (vx_runV (C := y.cls) (As := args.map (cv g.1)) (b := g.1 + i) (rest := st.map (cv g.1)) ⟨O.1, O.2.1, rfl, O.2.2.1, O.2.2.2.1⟩ hM ⟨tk_callB O.2.2.2.1 h.1 hR, O.2.2.2.1 _ h.2.1, O.2.2.2.1 _ h.2.2⟩ ⟨tk_blind, tk_recv O hP hcl he, fun U hU hW => ⟨rfl, tk_pre O hI hP hS hz U hU hW⟩⟩ rfl (by rw [List.length_map]; exact hn) hl.1 (by simp [F0, cv]) (by show 2 * 0 + _ ≤ 8; rw [tk_cat]; omega) hd hroom) hS (fun _ _ q => q) (fun _ q => q) (fun _ _ q => q) ?_ ?_ T hT Xs
  · exact fun E ce q9 u t H1 locs1 e1 _ _ hp _ _ hS1 hc1 hv1 hl1 => kx E u hp.1 H1 locs1 ls _ ce q9 (by rw [← e1]; exact hp.2) hS1 hl hc1 hv1 hl1
  · exact fun r u t H1 locs1 e1 _ hp hB _ _ hS1 => kk r u hp H1 locs1 ls (by rw [← e1]; exact hB) hS1 hl

theorem ab_callsI (O : ab_Ok X g cc own) (hI : tk_S strs (xs X)) {fr : Prop} {index n nL2 d2 mc2 ms2 : Nat} {y : MethodName} {c2 : ByteArray} {ret2 : Option FieldType} {args stk : List Value} {post : Int32 → List va_E → Prop} {px2 : String → List va_E → Prop} (h : ct_ok own index y c2 nL2 ret2 n) (hd : decode cc pc = .ok (.invokestatic index, 3))
    (hM : Ct (xl X) g strs fr d2 mc2 ms2 y c2 nL2 ret2 (args) ws (tk_I g post) px2) (hst : stk = args.reverse ++ st) (hn : args.length = n) (hR : d2 + 1 ≤ (xR X).frames ∧ 8 + (nL2 + 11) + 36 * d2 ≤ (xR X).locals) (hW : (st.map fun v => v.category).sum ≤ 8) (hroom : cells + mc2 ≤ (xR X).cells ∧ slots + ms2 ≤ (xR X).slots) (hF : fr → (xs X).heap.size + cells ≤ g.1 + ws.length)
    (kx : ∀ (E : String) (u : List va_E), px2 E u → AbX X g (cells + mc2) (slots + ms2) Q pc L E u) (kk : ∀ (r : Int32) (u : List va_E), post r u → Ab X g (cells + mc2) (slots + ms2) Q (pc + 3) L (.int r :: st) u) : Ab X g cells slots Q pc L stk ws := by
  subst hst
  intro H locs ls hP hS hl T hT Xs
  have hz : fr → H.size = g.1 + ws.length := fun q => tk_size hT Xs O.2.2.2.2.2.1 hP hS (hF q)
  refine vx_calli (A0 := ab_A g) (A1 := ab_A g) (AX := ab_A g) (a := ((args).map (cv g.1)).toArray) (rest := st.map (cv g.1)) (vx_runS (As := args.map (cv g.1)) (rest := st.map (cv g.1)) ⟨O.1, O.2.1, rfl, O.2.2.1, O.2.2.2.1⟩ hM ⟨tk_callB O.2.2.2.1 h.1 hR, O.2.2.2.1 _ h.2⟩ ⟨tk_blind, fun U hU hW => ⟨rfl, tk_pre O hI hP hS hz U hU hW⟩⟩ rfl (by rw [List.length_map]; exact hn) hl.1 (by simp [F0, cv]) (by show 2 * 0 + _ ≤ 8; rw [tk_cat]; omega) hd hroom) hS (fun _ _ q => q) (fun _ q => q) (fun _ _ q => q) ?_ ?_ T hT Xs
  · exact fun E ce q9 u t H1 locs1 e1 _ _ hp _ _ hS1 hc1 hv1 hl1 => kx E u hp.1 H1 locs1 ls _ ce q9 (by rw [← e1]; exact hp.2) hS1 hl hc1 hv1 hl1
  · exact fun r u t H1 locs1 e1 _ hp hB _ _ hS1 => kk r u hp H1 locs1 ls (by rw [← e1]; exact hB) hS1 hl

theorem ab_callvV (O : ab_Ok X g cc own) (hI : tk_S strs (xs X)) {fr : Prop} {index n nL2 d2 mc2 ms2 : Nat} {y : MethodName} {c2 : ByteArray} {ret2 : Option FieldType} {args stk : List Value} {post : List va_E → Prop} {px2 : String → List va_E → Prop} (h : cv_ok own index y c2 nL2 ret2 n) {i ci N : Nat} {T : u_T} {fs : List Value} (hcl : vwCl[ci]? = some (y.cls, T, N)) (he : ws[i]? = some (.inr (ci, fs))) (hd : decode cc pc = .ok (.invokevirtual index, 3))
    (hM : Ct (xl X) g strs fr d2 mc2 ms2 y c2 nL2 ret2 (.ref i :: args) ws (tk_V g post) px2) (hst : stk = args.reverse ++ .ref i :: st) (hn : args.length = n) (hR : d2 + 1 ≤ (xR X).frames ∧ 8 + (nL2 + 11) + 36 * d2 ≤ (xR X).locals) (hW : (st.map fun v => v.category).sum ≤ 8) (hroom : cells + mc2 ≤ (xR X).cells ∧ slots + ms2 ≤ (xR X).slots) (hF : fr → (xs X).heap.size + cells ≤ g.1 + ws.length)
    (kx : ∀ (E : String) (u : List va_E), px2 E u → AbX X g (cells + mc2) (slots + ms2) Q pc L E u) (kk : ∀ (u : List va_E), post u → Ab X g (cells + mc2) (slots + ms2) Q (pc + 3) L (st) u) : Ab X g cells slots Q pc L stk ws := by
  subst hst
  intro H locs ls hP hS hl T hT Xs
  have hz : fr → H.size = g.1 + ws.length := fun q => tk_size hT Xs O.2.2.2.2.2.1 hP hS (hF q)
  refine vx_callv (A0 := ab_A g) (A1 := ab_A g) (AX := ab_A g) (a := ((.ref i :: args).map (cv g.1)).toArray) (rest := st.map (cv g.1)) (vx_runV (C := y.cls) (As := args.map (cv g.1)) (b := g.1 + i) (rest := st.map (cv g.1)) ⟨O.1, O.2.1, rfl, O.2.2.1, O.2.2.2.1⟩ hM ⟨tk_callB O.2.2.2.1 h.1 hR, O.2.2.2.1 _ h.2.1, O.2.2.2.1 _ h.2.2⟩ ⟨tk_blind, tk_recv O hP hcl he, fun U hU hW => ⟨rfl, tk_pre O hI hP hS hz U hU hW⟩⟩ rfl (by rw [List.length_map]; exact hn) hl.1 (by simp [F0, cv]) (by show 2 * 0 + _ ≤ 8; rw [tk_cat]; omega) hd hroom) hS (fun _ _ q => q) (fun _ q => q) (fun _ _ q => q) ?_ ?_ T hT Xs
  · exact fun E ce q9 u t H1 locs1 e1 _ _ hp _ _ hS1 hc1 hv1 hl1 => kx E u hp.1 H1 locs1 ls _ ce q9 (by rw [← e1]; exact hp.2) hS1 hl hc1 hv1 hl1
  · exact fun u t H1 locs1 e1 _ hp hB _ _ hS1 => kk u hp H1 locs1 ls (by rw [← e1]; exact hB) hS1 hl

theorem ab_callsV (O : ab_Ok X g cc own) (hI : tk_S strs (xs X)) {fr : Prop} {index n nL2 d2 mc2 ms2 : Nat} {y : MethodName} {c2 : ByteArray} {ret2 : Option FieldType} {args stk : List Value} {post : List va_E → Prop} {px2 : String → List va_E → Prop} (h : ct_ok own index y c2 nL2 ret2 n) (hd : decode cc pc = .ok (.invokestatic index, 3))
    (hM : Ct (xl X) g strs fr d2 mc2 ms2 y c2 nL2 ret2 (args) ws (tk_V g post) px2) (hst : stk = args.reverse ++ st) (hn : args.length = n) (hR : d2 + 1 ≤ (xR X).frames ∧ 8 + (nL2 + 11) + 36 * d2 ≤ (xR X).locals) (hW : (st.map fun v => v.category).sum ≤ 8) (hroom : cells + mc2 ≤ (xR X).cells ∧ slots + ms2 ≤ (xR X).slots) (hF : fr → (xs X).heap.size + cells ≤ g.1 + ws.length)
    (kx : ∀ (E : String) (u : List va_E), px2 E u → AbX X g (cells + mc2) (slots + ms2) Q pc L E u) (kk : ∀ (u : List va_E), post u → Ab X g (cells + mc2) (slots + ms2) Q (pc + 3) L (st) u) : Ab X g cells slots Q pc L stk ws := by
  subst hst
  intro H locs ls hP hS hl T hT Xs
  have hz : fr → H.size = g.1 + ws.length := fun q => tk_size hT Xs O.2.2.2.2.2.1 hP hS (hF q)
  refine vx_callv (A0 := ab_A g) (A1 := ab_A g) (AX := ab_A g) (a := ((args).map (cv g.1)).toArray) (rest := st.map (cv g.1)) (vx_runS (As := args.map (cv g.1)) (rest := st.map (cv g.1)) ⟨O.1, O.2.1, rfl, O.2.2.1, O.2.2.2.1⟩ hM ⟨tk_callB O.2.2.2.1 h.1 hR, O.2.2.2.1 _ h.2⟩ ⟨tk_blind, fun U hU hW => ⟨rfl, tk_pre O hI hP hS hz U hU hW⟩⟩ rfl (by rw [List.length_map]; exact hn) hl.1 (by simp [F0, cv]) (by show 2 * 0 + _ ≤ 8; rw [tk_cat]; omega) hd hroom) hS (fun _ _ q => q) (fun _ q => q) (fun _ _ q => q) ?_ ?_ T hT Xs
  · exact fun E ce q9 u t H1 locs1 e1 _ _ hp _ _ hS1 hc1 hv1 hl1 => kx E u hp.1 H1 locs1 ls _ ce q9 (by rw [← e1]; exact hp.2) hS1 hl hc1 hv1 hl1
  · exact fun u t H1 locs1 e1 _ hp hB _ _ hS1 => kk u hp H1 locs1 ls (by rw [← e1]; exact hB) hS1 hl

theorem ab_callvF (O : ab_Ok X g cc own) (hI : tk_S strs (xs X)) {fr : Prop} {index n nL2 d2 mc2 ms2 : Nat} {y : MethodName} {c2 : ByteArray} {ret2 : Option FieldType} {args stk : List Value} {post : UInt32 → List va_E → Prop} {px2 : String → List va_E → Prop} (h : cv_ok own index y c2 nL2 ret2 n) {i ci N : Nat} {T : u_T} {fs : List Value} (hcl : vwCl[ci]? = some (y.cls, T, N)) (he : ws[i]? = some (.inr (ci, fs))) (hd : decode cc pc = .ok (.invokevirtual index, 3))
    (hM : Ct (xl X) g strs fr d2 mc2 ms2 y c2 nL2 ret2 (.ref i :: args) ws (tk_F g post) px2) (hst : stk = args.reverse ++ .ref i :: st) (hn : args.length = n) (hR : d2 + 1 ≤ (xR X).frames ∧ 8 + (nL2 + 11) + 36 * d2 ≤ (xR X).locals) (hW : (st.map fun v => v.category).sum ≤ 8) (hroom : cells + mc2 ≤ (xR X).cells ∧ slots + ms2 ≤ (xR X).slots) (hF : fr → (xs X).heap.size + cells ≤ g.1 + ws.length)
    (kx : ∀ (E : String) (u : List va_E), px2 E u → AbX X g (cells + mc2) (slots + ms2) Q pc L E u) (kk : ∀ (r : UInt32) (u : List va_E), post r u → Ab X g (cells + mc2) (slots + ms2) Q (pc + 3) L (.float r :: st) u) : Ab X g cells slots Q pc L stk ws := by
  subst hst
  intro H locs ls hP hS hl T hT Xs
  have hz : fr → H.size = g.1 + ws.length := fun q => tk_size hT Xs O.2.2.2.2.2.1 hP hS (hF q)
  refine vx_callf (A0 := ab_A g) (A1 := ab_A g) (AX := ab_A g) (a := ((.ref i :: args).map (cv g.1)).toArray) (rest := st.map (cv g.1)) (vx_runV (C := y.cls) (As := args.map (cv g.1)) (b := g.1 + i) (rest := st.map (cv g.1)) ⟨O.1, O.2.1, rfl, O.2.2.1, O.2.2.2.1⟩ hM ⟨tk_callB O.2.2.2.1 h.1 hR, O.2.2.2.1 _ h.2.1, O.2.2.2.1 _ h.2.2⟩ ⟨tk_blind, tk_recv O hP hcl he, fun U hU hW => ⟨rfl, tk_pre O hI hP hS hz U hU hW⟩⟩ rfl (by rw [List.length_map]; exact hn) hl.1 (by simp [F0, cv]) (by show 2 * 0 + _ ≤ 8; rw [tk_cat]; omega) hd hroom) hS (fun _ _ q => q) (fun _ q => q) (fun _ _ q => q) ?_ ?_ T hT Xs
  · exact fun E ce q9 u t H1 locs1 e1 _ _ hp _ _ hS1 hc1 hv1 hl1 => kx E u hp.1 H1 locs1 ls _ ce q9 (by rw [← e1]; exact hp.2) hS1 hl hc1 hv1 hl1
  · exact fun r u t H1 locs1 e1 _ hp hB _ _ hS1 => kk r u hp H1 locs1 ls (by rw [← e1]; exact hB) hS1 hl

theorem ab_callsF (O : ab_Ok X g cc own) (hI : tk_S strs (xs X)) {fr : Prop} {index n nL2 d2 mc2 ms2 : Nat} {y : MethodName} {c2 : ByteArray} {ret2 : Option FieldType} {args stk : List Value} {post : UInt32 → List va_E → Prop} {px2 : String → List va_E → Prop} (h : ct_ok own index y c2 nL2 ret2 n) (hd : decode cc pc = .ok (.invokestatic index, 3))
    (hM : Ct (xl X) g strs fr d2 mc2 ms2 y c2 nL2 ret2 (args) ws (tk_F g post) px2) (hst : stk = args.reverse ++ st) (hn : args.length = n) (hR : d2 + 1 ≤ (xR X).frames ∧ 8 + (nL2 + 11) + 36 * d2 ≤ (xR X).locals) (hW : (st.map fun v => v.category).sum ≤ 8) (hroom : cells + mc2 ≤ (xR X).cells ∧ slots + ms2 ≤ (xR X).slots) (hF : fr → (xs X).heap.size + cells ≤ g.1 + ws.length)
    (kx : ∀ (E : String) (u : List va_E), px2 E u → AbX X g (cells + mc2) (slots + ms2) Q pc L E u) (kk : ∀ (r : UInt32) (u : List va_E), post r u → Ab X g (cells + mc2) (slots + ms2) Q (pc + 3) L (.float r :: st) u) : Ab X g cells slots Q pc L stk ws := by
  subst hst
  intro H locs ls hP hS hl T hT Xs
  have hz : fr → H.size = g.1 + ws.length := fun q => tk_size hT Xs O.2.2.2.2.2.1 hP hS (hF q)
  refine vx_callf (A0 := ab_A g) (A1 := ab_A g) (AX := ab_A g) (a := ((args).map (cv g.1)).toArray) (rest := st.map (cv g.1)) (vx_runS (As := args.map (cv g.1)) (rest := st.map (cv g.1)) ⟨O.1, O.2.1, rfl, O.2.2.1, O.2.2.2.1⟩ hM ⟨tk_callB O.2.2.2.1 h.1 hR, O.2.2.2.1 _ h.2⟩ ⟨tk_blind, fun U hU hW => ⟨rfl, tk_pre O hI hP hS hz U hU hW⟩⟩ rfl (by rw [List.length_map]; exact hn) hl.1 (by simp [F0, cv]) (by show 2 * 0 + _ ≤ 8; rw [tk_cat]; omega) hd hroom) hS (fun _ _ q => q) (fun _ q => q) (fun _ _ q => q) ?_ ?_ T hT Xs
  · exact fun E ce q9 u t H1 locs1 e1 _ _ hp _ _ hS1 hc1 hv1 hl1 => kx E u hp.1 H1 locs1 ls _ ce q9 (by rw [← e1]; exact hp.2) hS1 hl hc1 hv1 hl1
  · exact fun r u t H1 locs1 e1 _ hp hB _ _ hS1 => kk r u hp H1 locs1 ls (by rw [← e1]; exact hB) hS1 hl

end ABD
