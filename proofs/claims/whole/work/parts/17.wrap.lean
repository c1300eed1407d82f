/-! METHODS WITH HANDLERS: the law's helpers -/
def ab_J (X : ab_M) (l : Launch) (strs : List (String × Nat × String)) (nL : Nat) (ret : Option FieldType) (d mc ms : Nat) (hh : List (Nat × Nat × Nat × Nat)) : Prop :=
  xl X = l ∧ xR X = tk_rm d mc ms ∧ (xc X).maxLocals = nL ∧ (xt X).sig.returnType = ret ∧ (xc X).exceptionTable.toList = tableOf hh ∧ tk_S strs (xs X)
def CtH (l : Launch) (g : ab_G) (strs : List (String × Nat × String)) (d mc ms : Nat) (y : MethodName) (cc : ByteArray) (nL : Nat) (ret : Option FieldType) (hh : List (Nat × Nat × Nat × Nat)) (args : List Value) (ws : List va_E) (Qc : Array Value → State → Outcome → State → Prop) (px : String → List va_E → Prop) : Prop :=
  vx_Met l y (.codeWith y cc nL ret hh :: tk_w) (tk_rm d mc ms) (va_Pc (args.map (cv g.1)) (tk_P g strs False ws)) Qc (tk_E g px) mc ms (ab_A g)
theorem ct_inH {l : Launch} {g : ab_G} {strs : List (String × Nat × String)} {d mc ms : Nat} {y : MethodName} {cc : ByteArray} {nL : Nat} {ret : Option FieldType} {hh : List (Nat × Nat × Nat × Nat)} {args : List Value} {ws : List va_E} {Qc : Array Value → State → Outcome → State → Prop} {px : String → List va_E → Prop}
    (hy : plainName y.cls = true) (hn : args.length ≤ nL) (hc : ∀ u ∈ args, u.category = 1) (hl : l.stackTraces = false)
    (body : ∀ X : ab_M, ab_J X l strs nL ret d mc ms hh → ab_Ok X g cc y.cls → Ab X g 0 0 (tk_Q X g Qc px mc ms) 0 (args.map some ++ List.replicate (nL - args.length) none) [] ws) :
    CtH l g strs d mc ms y cc nL ret hh args ws Qc px := by
  refine vx_ofWH (cc := cc) (maxL := nL) (ret := ret) (hh := hh) hy rfl ?_
  intro p e s m a below meth c s₁ B hml hv
  obtain ⟨rfl, hP, hz, hK, hb, hX, hS⟩ := hv
  have hts := atoms_spec (ws := Cond.codeWith y cc nL ret hh :: tk_w) B.pre
  have htb := vx_table (x := y) B (hts _ List.mem_cons_self)
  have hcv : ∀ u ∈ args.map (cv g.1), u.category = 1 := fun u hu => by
    obtain ⟨v, hv, rfl⟩ := List.mem_map.mp hu
    rw [cv_cat]; exact hc v hv
  have hlen : (lg_sl (args.map (cv g.1))).length ≤ nL := by rw [lg_sl_len _ hcv, List.length_map]; exact hn
  have hL := lv_entry (args.map (cv g.1)) (n := nL) hlen
  rw [lg_entry_eq]
  have k := body (p, l, e, (headSpec (Cond.codeWith y cc nL ret hh :: tk_w) (tk_rm d mc ms)).room, s, m, (args.map (cv g.1)).toArray, below, meth, c)
    ⟨rfl, rfl, hml, B.returns, htb, hS⟩
    ⟨B.exec, B.bytes, findClass_of_methodNamed B.named, fun w hw => hts w (List.mem_cons_of_mem _ hw), hK, hb, hl, hX, B.notSynchronized⟩
  refine k s.heap [] _ hP va_S.rf ⟨hL.1.trans hml.symm, hL.2.1, ?_, fun i v hi => ?_⟩
  · show _ = c.maxLocals
    rw [hml, List.length_append, List.length_map, List.length_replicate]; omega
  · by_cases hil : i < args.length
    · rw [List.getElem?_append_left (by rw [List.length_map]; exact hil), List.getElem?_map] at hi
      cases ha : args[i]? with
      | none => rw [ha] at hi; cases hi
      | some u =>
        rw [ha] at hi
        cases hi
        have h1 : (args.map (cv g.1))[i]? = some (cv g.1 v) := by rw [List.getElem?_map, ha]; rfl
        have h2 := lv_args_at (args.map (cv g.1)) 0 i _ hcv h1
        rw [Nat.zero_add] at h2
        exact ⟨hL.2.2 _ h2, hc v (List.mem_of_getElem? ha)⟩
    · rw [List.getElem?_append_right (by rw [List.length_map]; omega), List.getElem?_replicate] at hi
      split at hi <;> cases hi
theorem ab_L.drop {b : Nat} {ls ls' : Array Slot} {nL : Nat} {L : List (Option Value)} (h : ab_L b ls nL L) {i : Nat} {v : Value} (h' : lv_has ls' nL ((i, v) :: (ab_lv b L).filter (fun q => !(q.1 == i) && !(q.1 + 1 == i && q.2.category == 2)))) : ab_L b ls' nL (L.set i none) := by
  refine ⟨h'.1, h'.2.1, by rw [List.length_set]; exact h.2.2.1, fun j w hj => ?_⟩
  rw [List.getElem?_set] at hj
  by_cases hij : i = j
  · subst hij
    rw [if_pos rfl] at hj
    split at hj <;> cases hj
  · rw [if_neg hij] at hj
    have hw := (h.2.2.2 j w hj).2
    refine ⟨h'.2.2 (j, cv b w) (List.mem_cons_of_mem _ (List.mem_filter.mpr ⟨ab_lv_mem.mpr ⟨w, hj, rfl⟩, ?_⟩)), hw⟩
    have h1 : (j == i) = false := beq_false_of_ne (fun e => hij e.symm)
    have h2 : ((cv b w).category == 2) = false := by rw [cv_cat, hw]; rfl
    simp only [h1, h2]
    simp
section ABW
variable {X : ab_M} {g : ab_G} {cells slots : Nat} {pc : Nat} {L : List (Option Value)} {st : List Value} {ws : List va_E} {cc : ByteArray} {own : String} {Q : State → Prop}
variable {l : Launch} {strs : List (String × Nat × String)} {nL : Nat} {ret : Option FieldType} {d mc ms : Nat} {hh : List (Nat × Nat × Nat × Nat)} {px : String → List va_E → Prop} {Qc : Array Value → State → Outcome → State → Prop}
/-- caught here; the handler's first instruction puts the exception away -/
theorem abx_catch (O : ab_Ok X g cc own) (J : ab_J X l strs nL ret d mc ms hh) {E : String} {s1 e1 hpc t : Nat} (pre suf : List (Nat × Nat × Nat × Nat)) (hs : hh = pre ++ (s1, e1, hpc, t) :: suf) (hpre : ∀ z ∈ pre, z.2.2.2 ≠ 0 ∧ ∃ nm, nm ∈ tk_exs ∧ Cond.classLink own z.2.2.2 nm ∈ tk_w ∧ E ≠ nm) (hcov : s1 ≤ pc ∧ pc < e1) (h0 : t ≠ 0) (hlink : Cond.classLink own t E ∈ tk_w) (hE : E ∈ tk_exs) {i len : Nat}
    (hd : (∃ k0 : Fin 4, decode cc hpc = .ok (.astore_n k0, 1) ∧ (k0 : Nat) = i ∧ len = 1) ∨ (decode cc hpc = .ok (.astore i, 2) ∧ len = 2)) (hi : i < L.length) (k : Ab X g cells slots Q (hpc + len) (L.set i none) [] ws) : AbX X g cells slots Q pc L E ws := by
  intro H locs ls rest ce q hP hS hl h1 h2 h3
  have hin : i < (xc X).maxLocals := by rw [← hl.2.2.1]; exact hi
  refine vx_catch (own := own) (name := E) (E := E) O.2.2.1 (tableOf pre) ⟨s1, e1, hpc, t⟩ (tableOf suf) (by rw [J.2.2.2.2.1, hs]; simp [tableOf]) (fun z hz => ?_) (by show (decide (s1 ≤ pc) && decide (pc < e1)) = true; rw [decide_eq_true hcov.1, decide_eq_true hcov.2]; rfl) h0 (O.2.2.2.1 _ hlink) (va_Nw.use rfl (J.2.2.2.2.2.2.2.2 E hE).1) h1 h2 h3 ?_
  · obtain ⟨z0, hz0, rfl⟩ := List.mem_map.mp hz
    obtain ⟨a1, nm, a2, a3, a4⟩ := hpre z0 hz0
    exact Or.inr ⟨a1, nm, O.2.2.2.1 _ a3, (J.2.2.2.2.2.2.2.2 E hE).2 nm a2 a4⟩
  · rcases hd with ⟨k0, hd, hk0, rfl⟩ | ⟨hd, rfl⟩
    · exact lv_astore_n O.1 O.2.1 hd hk0 hl.lv hin rfl (fun ls2 h2 => k H locs ls2 hP hS (hl.drop h2))
    · exact lv_astore O.1 O.2.1 hd hl.lv hin rfl (fun ls2 h2 => k H locs ls2 hP hS (hl.drop h2))
theorem ab_ireturnJ {post : Int32 → List va_E → Prop} {v : Int32} (O : ab_Ok X g cc own) (J : ab_J X l strs nL (some .int) d mc ms hh) (hd : decode cc pc = .ok (.ireturn, 1)) (hc : cells ≤ mc) (hs : slots ≤ ms) (hp : post v ws) : Ab X g cells slots (tk_Q X g (tk_I g post) px mc ms) pc L [.int v] ws := by
  intro H locs ls hP hS hl
  refine W.widen hc hs ?_
  refine vx_ret ?_
  exact W.zret (v := v) O.1 O.2.1 J.2.2.2.1 rfl (fun t ht hW => ⟨⟨v, ws, rfl, hp, by show va_P _ _ _ t.heap; rw [ht]; exact hP⟩, hS.F ht⟩) hS.2.2 hd O.2.2.2.2.2.2.2.2
end ABW

theorem cl_L_13 : Cond.classLink RL 13 "java/lang/IllegalArgumentException" ∈ tk_w := tk_t 344 (by decide +kernel) rfl
theorem cl_L_15 : Cond.classLink RL 15 "java/lang/IllegalStateException" ∈ tk_w := tk_t 345 (by decide +kernel) rfl
theorem cl_L_21 : Cond.classLink RL 21 "java/lang/IndexOutOfBoundsException" ∈ tk_w := tk_t 449 (by decide +kernel) rfl
theorem cl_L_27 : Cond.classLink RL 27 "java/lang/UnsupportedOperationException" ∈ tk_w := tk_t 487 (by decide +kernel) rfl
theorem cl_L_38 : Cond.classLink RL 38 "java/util/NoSuchElementException" ∈ tk_w := tk_t 640 (by decide +kernel) rfl
def wp_L_addEdge (V : Mm) (a0 a1 a2 : Int32) (o : Nat → Int64) (D : Nat → UInt64) (post : Int32 → Mm → (Nat → Int64) → (Nat → UInt64) → Prop) : Prop := wp_X8_addEdge V a0 a1 a2 (fun (r : Int32) (V1 : Mm) => post 0 V1 (vp_updL o 0 r.toInt64) D) (fun (E : String) (V1 : Mm) => (E = "java/lang/IndexOutOfBoundsException" ∧ post 1 V1 o D) ∨ (E = "java/lang/IllegalArgumentException" ∧ post 2 V1 o D) ∨ (E = "java/lang/UnsupportedOperationException" ∧ post 3 V1 o D) ∨ (E = "java/lang/IllegalStateException" ∧ post 4 V1 o D))
set_option maxHeartbeats 4000000 in
theorem c_L_addEdge (d : Nat) (hd : 9 ≤ d) (l : Launch) (hl : l.stackTraces = false) (g : ab_G) (o : Nat → Int64) (D : Nat → UInt64) (a0 a1 a2 : Int32) {V : Mm} {post : Int32 → Mm → (Nat → Int64) → (Nat → UInt64) → Prop} (h : wp_L_addEdge V a0 a1 a2 o D post) : CtH l g tk_strs d 5 30 yL_addEdge cL_addEdge 6 (some .int) [(0, 12, 15, 21), (0, 12, 19, 13), (0, 12, 23, 27), (0, 12, 27, 15)] [.ref 0, .int a0, .int a1, .int a2, .ref 72] (SW V o D) (tk_I g (fun r u => ∃ (V : Mm) (o : Nat → Int64) (D : Nat → UInt64), u = SW V o D ∧ post r V o D)) (fun _ _ => False) := by
  refine ct_inH (by decide +kernel) (show 5 ≤ 6 by decide) (by simp [Value.category]) hl (fun X J O => ?_)
  show Ab X g 0 0 _ 0 [some (.ref 0), some (.int a0), some (.int a1), some (.int a2), some (.ref 72), none] [] _
  refine ab_aload O dL_addEdge_0 rfl ?_
  refine ab_iconst O 0 dL_addEdge_2 rfl ?_
  refine ab_aload_n O 0 dL_addEdge_3 rfl rfl ?_
  refine ab_iload_n O 1 dL_addEdge_4 rfl rfl ?_
  refine ab_iload_n O 2 dL_addEdge_5 rfl rfl ?_
  refine ab_iload_n O 3 dL_addEdge_6 rfl rfl ?_
  refine ab_callvI O J.2.2.2.2.2 (fr := False) (st := [.int 0, .ref 72]) lk_L_23 rfl (at_0 _ _ _) dL_addEdge_7 (c_X8_addEdge (d - 1) (by omega) _ O.2.2.2.2.2.2.1 _ _ _ _ _ _ h) rfl rfl ⟨by rw [J.2.1]; show d - 1 + 1 ≤ d; omega, by rw [J.2.1]; show 8 + (_ + 11) + 36 * (d - 1) ≤ 36 * d; omega⟩ (show 2 ≤ 8 by decide) ⟨by rw [J.2.1]; show 0 + 5 ≤ 5; decide, by rw [J.2.1]; show 0 + 30 ≤ 30; decide⟩ (fun q => q.elim) ?_ ?_
  · intro E u hu
    obtain ⟨V9, rfl, q⟩ := hu
    rcases q with ⟨rfl, q⟩ | ⟨rfl, q⟩ | ⟨rfl, q⟩ | ⟨rfl, q⟩
    · refine abx_catch O J [] [(0, 12, 19, 13), (0, 12, 23, 27), (0, 12, 27, 15)] rfl (fun z hz => by cases hz) ⟨by decide, by decide⟩ (by decide) cl_L_21 (by decide) (i := 5) (len := 2) (Or.inr ⟨dL_addEdge_15, rfl⟩) (show 5 < 6 by decide) ?_
      refine ab_iconst O 1 dL_addEdge_17 rfl ?_
      exact ab_ireturnJ O J dL_addEdge_18 (by decide) (by decide) ⟨_, _, _, rfl, q⟩
    · refine abx_catch O J [(0, 12, 15, 21)] [(0, 12, 23, 27), (0, 12, 27, 15)] rfl (fun z hz => by
        simp only [List.mem_cons, List.not_mem_nil, or_false] at hz
        rcases hz with rfl
        · exact ⟨by decide, "java/lang/IndexOutOfBoundsException", by decide, cl_L_21, by decide⟩) ⟨by decide, by decide⟩ (by decide) cl_L_13 (by decide) (i := 5) (len := 2) (Or.inr ⟨dL_addEdge_19, rfl⟩) (show 5 < 6 by decide) ?_
      refine ab_iconst O 2 dL_addEdge_21 rfl ?_
      exact ab_ireturnJ O J dL_addEdge_22 (by decide) (by decide) ⟨_, _, _, rfl, q⟩
    · refine abx_catch O J [(0, 12, 15, 21), (0, 12, 19, 13)] [(0, 12, 27, 15)] rfl (fun z hz => by
        simp only [List.mem_cons, List.not_mem_nil, or_false] at hz
        rcases hz with rfl | rfl
        · exact ⟨by decide, "java/lang/IndexOutOfBoundsException", by decide, cl_L_21, by decide⟩
        · exact ⟨by decide, "java/lang/IllegalArgumentException", by decide, cl_L_13, by decide⟩) ⟨by decide, by decide⟩ (by decide) cl_L_27 (by decide) (i := 5) (len := 2) (Or.inr ⟨dL_addEdge_23, rfl⟩) (show 5 < 6 by decide) ?_
      refine ab_iconst O 3 dL_addEdge_25 rfl ?_
      exact ab_ireturnJ O J dL_addEdge_26 (by decide) (by decide) ⟨_, _, _, rfl, q⟩
    · refine abx_catch O J [(0, 12, 15, 21), (0, 12, 19, 13), (0, 12, 23, 27)] [] rfl (fun z hz => by
        simp only [List.mem_cons, List.not_mem_nil, or_false] at hz
        rcases hz with rfl | rfl | rfl
        · exact ⟨by decide, "java/lang/IndexOutOfBoundsException", by decide, cl_L_21, by decide⟩
        · exact ⟨by decide, "java/lang/IllegalArgumentException", by decide, cl_L_13, by decide⟩
        · exact ⟨by decide, "java/lang/UnsupportedOperationException", by decide, cl_L_27, by decide⟩) ⟨by decide, by decide⟩ (by decide) cl_L_15 (by decide) (i := 5) (len := 2) (Or.inr ⟨dL_addEdge_27, rfl⟩) (show 5 < 6 by decide) ?_
      refine ab_iconst O 4 dL_addEdge_29 rfl ?_
      exact ab_ireturnJ O J dL_addEdge_30 (by decide) (by decide) ⟨_, _, _, rfl, q⟩
  · intro r u hu
    obtain ⟨V1, rfl, h⟩ := hu
    refine ab_i2l O dL_addEdge_10 ?_
    refine ab_last O dL_addEdge_11 (at_72 _ _ _) (by unfold vp_in; decide) ?_
    refine ab_eq ?_ rfl rfl rfl (so_72 _ _ _ _).symm
    refine ab_goto O 31 dL_addEdge_12 rfl ?_
    refine ab_iconst O 0 dL_addEdge_31 rfl ?_
    exact ab_ireturnJ O J dL_addEdge_32 (by decide) (by decide) ⟨_, _, _, rfl, h⟩

def wp_L_addOnPath (V : Mm) (a0 a1 a2 : Int32) (o : Nat → Int64) (D : Nat → UInt64) (post : Int32 → Mm → (Nat → Int64) → (Nat → UInt64) → Prop) : Prop := wp_X8_addOnPath V a0 a1 a2 (fun (r : Int32) (V1 : Mm) => post 0 V1 (vp_updL o 0 r.toInt64) D) (fun (E : String) (V1 : Mm) => (E = "java/lang/IndexOutOfBoundsException" ∧ post 1 V1 o D) ∨ (E = "java/lang/IllegalArgumentException" ∧ post 2 V1 o D) ∨ (E = "java/util/NoSuchElementException" ∧ post 3 V1 o D))
set_option maxHeartbeats 4000000 in
theorem c_L_addOnPath (d : Nat) (hd : 9 ≤ d) (l : Launch) (hl : l.stackTraces = false) (g : ab_G) (o : Nat → Int64) (D : Nat → UInt64) (a0 a1 a2 : Int32) {V : Mm} {post : Int32 → Mm → (Nat → Int64) → (Nat → UInt64) → Prop} (h : wp_L_addOnPath V a0 a1 a2 o D post) : CtH l g tk_strs d 3 18 yL_addOnPath cL_addOnPath 6 (some .int) [(0, 12, 15, 21), (0, 12, 19, 13), (0, 12, 23, 38)] [.ref 0, .int a0, .int a1, .int a2, .ref 72] (SW V o D) (tk_I g (fun r u => ∃ (V : Mm) (o : Nat → Int64) (D : Nat → UInt64), u = SW V o D ∧ post r V o D)) (fun _ _ => False) := by
  refine ct_inH (by decide +kernel) (show 5 ≤ 6 by decide) (by simp [Value.category]) hl (fun X J O => ?_)
  show Ab X g 0 0 _ 0 [some (.ref 0), some (.int a0), some (.int a1), some (.int a2), some (.ref 72), none] [] _
  refine ab_aload O dL_addOnPath_0 rfl ?_
  refine ab_iconst O 0 dL_addOnPath_2 rfl ?_
  refine ab_aload_n O 0 dL_addOnPath_3 rfl rfl ?_
  refine ab_iload_n O 1 dL_addOnPath_4 rfl rfl ?_
  refine ab_iload_n O 2 dL_addOnPath_5 rfl rfl ?_
  refine ab_iload_n O 3 dL_addOnPath_6 rfl rfl ?_
  refine ab_callvI O J.2.2.2.2.2 (fr := False) (st := [.int 0, .ref 72]) lk_L_35 rfl (at_0 _ _ _) dL_addOnPath_7 (c_X8_addOnPath (d - 1) (by omega) _ O.2.2.2.2.2.2.1 _ _ _ _ _ _ h) rfl rfl ⟨by rw [J.2.1]; show d - 1 + 1 ≤ d; omega, by rw [J.2.1]; show 8 + (_ + 11) + 36 * (d - 1) ≤ 36 * d; omega⟩ (show 2 ≤ 8 by decide) ⟨by rw [J.2.1]; show 0 + 3 ≤ 3; decide, by rw [J.2.1]; show 0 + 18 ≤ 18; decide⟩ (fun q => q.elim) ?_ ?_
  · intro E u hu
    obtain ⟨V9, rfl, q⟩ := hu
    rcases q with ⟨rfl, q⟩ | ⟨rfl, q⟩ | ⟨rfl, q⟩
    · refine abx_catch O J [] [(0, 12, 19, 13), (0, 12, 23, 38)] rfl (fun z hz => by cases hz) ⟨by decide, by decide⟩ (by decide) cl_L_21 (by decide) (i := 5) (len := 2) (Or.inr ⟨dL_addOnPath_15, rfl⟩) (show 5 < 6 by decide) ?_
      refine ab_iconst O 1 dL_addOnPath_17 rfl ?_
      exact ab_ireturnJ O J dL_addOnPath_18 (by decide) (by decide) ⟨_, _, _, rfl, q⟩
    · refine abx_catch O J [(0, 12, 15, 21)] [(0, 12, 23, 38)] rfl (fun z hz => by
        simp only [List.mem_cons, List.not_mem_nil, or_false] at hz
        rcases hz with rfl
        · exact ⟨by decide, "java/lang/IndexOutOfBoundsException", by decide, cl_L_21, by decide⟩) ⟨by decide, by decide⟩ (by decide) cl_L_13 (by decide) (i := 5) (len := 2) (Or.inr ⟨dL_addOnPath_19, rfl⟩) (show 5 < 6 by decide) ?_
      refine ab_iconst O 2 dL_addOnPath_21 rfl ?_
      exact ab_ireturnJ O J dL_addOnPath_22 (by decide) (by decide) ⟨_, _, _, rfl, q⟩
    · refine abx_catch O J [(0, 12, 15, 21), (0, 12, 19, 13)] [] rfl (fun z hz => by
        simp only [List.mem_cons, List.not_mem_nil, or_false] at hz
        rcases hz with rfl | rfl
        · exact ⟨by decide, "java/lang/IndexOutOfBoundsException", by decide, cl_L_21, by decide⟩
        · exact ⟨by decide, "java/lang/IllegalArgumentException", by decide, cl_L_13, by decide⟩) ⟨by decide, by decide⟩ (by decide) cl_L_38 (by decide) (i := 5) (len := 2) (Or.inr ⟨dL_addOnPath_23, rfl⟩) (show 5 < 6 by decide) ?_
      refine ab_iconst O 3 dL_addOnPath_25 rfl ?_
      exact ab_ireturnJ O J dL_addOnPath_26 (by decide) (by decide) ⟨_, _, _, rfl, q⟩
  · intro r u hu
    obtain ⟨V1, rfl, h⟩ := hu
    refine ab_i2l O dL_addOnPath_10 ?_
    refine ab_last O dL_addOnPath_11 (at_72 _ _ _) (by unfold vp_in; decide) ?_
    refine ab_eq ?_ rfl rfl rfl (so_72 _ _ _ _).symm
    refine ab_goto O 27 dL_addOnPath_12 rfl ?_
    refine ab_iconst O 0 dL_addOnPath_27 rfl ?_
    exact ab_ireturnJ O J dL_addOnPath_28 (by decide) (by decide) ⟨_, _, _, rfl, h⟩

def wp_L_addVertex (V : Mm) (a0 : Int32) (o : Nat → Int64) (D : Nat → UInt64) (post : Int32 → Mm → (Nat → Int64) → (Nat → UInt64) → Prop) : Prop := wp_X8_addVertex V a0 (fun (r : Int32) (V1 : Mm) => post 0 V1 (vp_updL o 0 r.toInt64) D) (fun (E : String) (V1 : Mm) => (E = "java/lang/IllegalArgumentException" ∧ post 1 V1 o D) ∨ (E = "java/lang/IllegalStateException" ∧ post 2 V1 o D))
set_option maxHeartbeats 4000000 in
theorem c_L_addVertex (d : Nat) (hd : 8 ≤ d) (l : Launch) (hl : l.stackTraces = false) (g : ab_G) (o : Nat → Int64) (D : Nat → UInt64) (a0 : Int32) {V : Mm} {post : Int32 → Mm → (Nat → Int64) → (Nat → UInt64) → Prop} (h : wp_L_addVertex V a0 o D post) : CtH l g tk_strs d 2 12 yL_addVertex cL_addVertex 4 (some .int) [(0, 9, 12, 13), (0, 9, 15, 15)] [.ref 0, .int a0, .ref 72] (SW V o D) (tk_I g (fun r u => ∃ (V : Mm) (o : Nat → Int64) (D : Nat → UInt64), u = SW V o D ∧ post r V o D)) (fun _ _ => False) := by
  refine ct_inH (by decide +kernel) (show 3 ≤ 4 by decide) (by simp [Value.category]) hl (fun X J O => ?_)
  show Ab X g 0 0 _ 0 [some (.ref 0), some (.int a0), some (.ref 72), none] [] _
  refine ab_aload_n O 2 dL_addVertex_0 rfl rfl ?_
  refine ab_iconst O 0 dL_addVertex_1 rfl ?_
  refine ab_aload_n O 0 dL_addVertex_2 rfl rfl ?_
  refine ab_iload_n O 1 dL_addVertex_3 rfl rfl ?_
  refine ab_callvI O J.2.2.2.2.2 (fr := False) (st := [.int 0, .ref 72]) lk_L_7 rfl (at_0 _ _ _) dL_addVertex_4 (c_X8_addVertex (d - 1) (by omega) _ O.2.2.2.2.2.2.1 _ _ _ _ h) rfl rfl ⟨by rw [J.2.1]; show d - 1 + 1 ≤ d; omega, by rw [J.2.1]; show 8 + (_ + 11) + 36 * (d - 1) ≤ 36 * d; omega⟩ (show 2 ≤ 8 by decide) ⟨by rw [J.2.1]; show 0 + 2 ≤ 2; decide, by rw [J.2.1]; show 0 + 12 ≤ 12; decide⟩ (fun q => q.elim) ?_ ?_
  · intro E u hu
    obtain ⟨V9, rfl, q⟩ := hu
    rcases q with ⟨rfl, q⟩ | ⟨rfl, q⟩
    · refine abx_catch O J [] [(0, 9, 15, 15)] rfl (fun z hz => by cases hz) ⟨by decide, by decide⟩ (by decide) cl_L_13 (by decide) (i := 3) (len := 1) (Or.inl ⟨_, dL_addVertex_12, rfl, rfl⟩) (show 3 < 4 by decide) ?_
      refine ab_iconst O 1 dL_addVertex_13 rfl ?_
      exact ab_ireturnJ O J dL_addVertex_14 (by decide) (by decide) ⟨_, _, _, rfl, q⟩
    · refine abx_catch O J [(0, 9, 12, 13)] [] rfl (fun z hz => by
        simp only [List.mem_cons, List.not_mem_nil, or_false] at hz
        rcases hz with rfl
        · exact ⟨by decide, "java/lang/IllegalArgumentException", by decide, cl_L_13, by decide⟩) ⟨by decide, by decide⟩ (by decide) cl_L_15 (by decide) (i := 3) (len := 1) (Or.inl ⟨_, dL_addVertex_15, rfl, rfl⟩) (show 3 < 4 by decide) ?_
      refine ab_iconst O 2 dL_addVertex_16 rfl ?_
      exact ab_ireturnJ O J dL_addVertex_17 (by decide) (by decide) ⟨_, _, _, rfl, q⟩
  · intro r u hu
    obtain ⟨V1, rfl, h⟩ := hu
    refine ab_i2l O dL_addVertex_7 ?_
    refine ab_last O dL_addVertex_8 (at_72 _ _ _) (by unfold vp_in; decide) ?_
    refine ab_eq ?_ rfl rfl rfl (so_72 _ _ _ _).symm
    refine ab_goto O 18 dL_addVertex_9 rfl ?_
    refine ab_iconst O 0 dL_addVertex_18 rfl ?_
    exact ab_ireturnJ O J dL_addVertex_19 (by decide) (by decide) ⟨_, _, _, rfl, h⟩

def wp_L_ancestor (V : Mm) (a0 a1 a2 : Int32) (o : Nat → Int64) (D : Nat → UInt64) (post : Int32 → Mm → (Nat → Int64) → (Nat → UInt64) → Prop) : Prop := wp_X8_ancestor V a0 a1 a2 (fun (r : Int32) (V1 : Mm) => post 0 V1 (vp_updL o 0 r.toInt64) D) (fun (E : String) (V1 : Mm) => (E = "java/lang/IndexOutOfBoundsException" ∧ post 1 V1 o D) ∨ (E = "java/util/NoSuchElementException" ∧ post 2 V1 o D) ∨ (E = "java/lang/IllegalArgumentException" ∧ post 3 V1 o D))
set_option maxHeartbeats 4000000 in
theorem c_L_ancestor (d : Nat) (hd : 9 ≤ d) (l : Launch) (hl : l.stackTraces = false) (g : ab_G) (o : Nat → Int64) (D : Nat → UInt64) (a0 a1 a2 : Int32) {V : Mm} {post : Int32 → Mm → (Nat → Int64) → (Nat → UInt64) → Prop} (h : wp_L_ancestor V a0 a1 a2 o D post) : CtH l g tk_strs d 4 24 yL_ancestor cL_ancestor 6 (some .int) [(0, 12, 15, 21), (0, 12, 19, 38), (0, 12, 23, 13)] [.ref 0, .int a0, .int a1, .int a2, .ref 72] (SW V o D) (tk_I g (fun r u => ∃ (V : Mm) (o : Nat → Int64) (D : Nat → UInt64), u = SW V o D ∧ post r V o D)) (fun _ _ => False) := by
  refine ct_inH (by decide +kernel) (show 5 ≤ 6 by decide) (by simp [Value.category]) hl (fun X J O => ?_)
  show Ab X g 0 0 _ 0 [some (.ref 0), some (.int a0), some (.int a1), some (.int a2), some (.ref 72), none] [] _
  refine ab_aload O dL_ancestor_0 rfl ?_
  refine ab_iconst O 0 dL_ancestor_2 rfl ?_
  refine ab_aload_n O 0 dL_ancestor_3 rfl rfl ?_
  refine ab_iload_n O 1 dL_ancestor_4 rfl rfl ?_
  refine ab_iload_n O 2 dL_ancestor_5 rfl rfl ?_
  refine ab_iload_n O 3 dL_ancestor_6 rfl rfl ?_
  refine ab_callvI O J.2.2.2.2.2 (fr := False) (st := [.int 0, .ref 72]) lk_L_109 rfl (at_0 _ _ _) dL_ancestor_7 (c_X8_ancestor (d - 1) (by omega) _ O.2.2.2.2.2.2.1 _ _ _ _ _ _ h) rfl rfl ⟨by rw [J.2.1]; show d - 1 + 1 ≤ d; omega, by rw [J.2.1]; show 8 + (_ + 11) + 36 * (d - 1) ≤ 36 * d; omega⟩ (show 2 ≤ 8 by decide) ⟨by rw [J.2.1]; show 0 + 4 ≤ 4; decide, by rw [J.2.1]; show 0 + 24 ≤ 24; decide⟩ (fun q => q.elim) ?_ ?_
  · intro E u hu
    obtain ⟨V9, rfl, q⟩ := hu
    rcases q with ⟨rfl, q⟩ | ⟨rfl, q⟩ | ⟨rfl, q⟩
    · refine abx_catch O J [] [(0, 12, 19, 38), (0, 12, 23, 13)] rfl (fun z hz => by cases hz) ⟨by decide, by decide⟩ (by decide) cl_L_21 (by decide) (i := 5) (len := 2) (Or.inr ⟨dL_ancestor_15, rfl⟩) (show 5 < 6 by decide) ?_
      refine ab_iconst O 1 dL_ancestor_17 rfl ?_
      exact ab_ireturnJ O J dL_ancestor_18 (by decide) (by decide) ⟨_, _, _, rfl, q⟩
    · refine abx_catch O J [(0, 12, 15, 21)] [(0, 12, 23, 13)] rfl (fun z hz => by
        simp only [List.mem_cons, List.not_mem_nil, or_false] at hz
        rcases hz with rfl
        · exact ⟨by decide, "java/lang/IndexOutOfBoundsException", by decide, cl_L_21, by decide⟩) ⟨by decide, by decide⟩ (by decide) cl_L_38 (by decide) (i := 5) (len := 2) (Or.inr ⟨dL_ancestor_19, rfl⟩) (show 5 < 6 by decide) ?_
      refine ab_iconst O 2 dL_ancestor_21 rfl ?_
      exact ab_ireturnJ O J dL_ancestor_22 (by decide) (by decide) ⟨_, _, _, rfl, q⟩
    · refine abx_catch O J [(0, 12, 15, 21), (0, 12, 19, 38)] [] rfl (fun z hz => by
        simp only [List.mem_cons, List.not_mem_nil, or_false] at hz
        rcases hz with rfl | rfl
        · exact ⟨by decide, "java/lang/IndexOutOfBoundsException", by decide, cl_L_21, by decide⟩
        · exact ⟨by decide, "java/util/NoSuchElementException", by decide, cl_L_38, by decide⟩) ⟨by decide, by decide⟩ (by decide) cl_L_13 (by decide) (i := 5) (len := 2) (Or.inr ⟨dL_ancestor_23, rfl⟩) (show 5 < 6 by decide) ?_
      refine ab_iconst O 3 dL_ancestor_25 rfl ?_
      exact ab_ireturnJ O J dL_ancestor_26 (by decide) (by decide) ⟨_, _, _, rfl, q⟩
  · intro r u hu
    obtain ⟨V1, rfl, h⟩ := hu
    refine ab_i2l O dL_ancestor_10 ?_
    refine ab_last O dL_ancestor_11 (at_72 _ _ _) (by unfold vp_in; decide) ?_
    refine ab_eq ?_ rfl rfl rfl (so_72 _ _ _ _).symm
    refine ab_goto O 27 dL_ancestor_12 rfl ?_
    refine ab_iconst O 0 dL_ancestor_27 rfl ?_
    exact ab_ireturnJ O J dL_ancestor_28 (by decide) (by decide) ⟨_, _, _, rfl, h⟩

def wp_L_ancestorByWalk (V : Mm) (a0 a1 a2 : Int32) (o : Nat → Int64) (D : Nat → UInt64) (post : Int32 → Mm → (Nat → Int64) → (Nat → UInt64) → Prop) : Prop := wp_X8_ancestorByWalk V a0 a1 a2 (fun (r : Int32) (V1 : Mm) => post 0 V1 (vp_updL o 0 r.toInt64) D) (fun (E : String) (V1 : Mm) => (E = "java/lang/IndexOutOfBoundsException" ∧ post 1 V1 o D) ∨ (E = "java/util/NoSuchElementException" ∧ post 2 V1 o D) ∨ (E = "java/lang/IllegalArgumentException" ∧ post 3 V1 o D))
set_option maxHeartbeats 4000000 in
theorem c_L_ancestorByWalk (d : Nat) (hd : 9 ≤ d) (l : Launch) (hl : l.stackTraces = false) (g : ab_G) (o : Nat → Int64) (D : Nat → UInt64) (a0 a1 a2 : Int32) {V : Mm} {post : Int32 → Mm → (Nat → Int64) → (Nat → UInt64) → Prop} (h : wp_L_ancestorByWalk V a0 a1 a2 o D post) : CtH l g tk_strs d 4 24 yL_ancestorByWalk cL_ancestorByWalk 6 (some .int) [(0, 12, 15, 21), (0, 12, 19, 38), (0, 12, 23, 13)] [.ref 0, .int a0, .int a1, .int a2, .ref 72] (SW V o D) (tk_I g (fun r u => ∃ (V : Mm) (o : Nat → Int64) (D : Nat → UInt64), u = SW V o D ∧ post r V o D)) (fun _ _ => False) := by
  refine ct_inH (by decide +kernel) (show 5 ≤ 6 by decide) (by simp [Value.category]) hl (fun X J O => ?_)
  show Ab X g 0 0 _ 0 [some (.ref 0), some (.int a0), some (.int a1), some (.int a2), some (.ref 72), none] [] _
  refine ab_aload O dL_ancestorByWalk_0 rfl ?_
  refine ab_iconst O 0 dL_ancestorByWalk_2 rfl ?_
  refine ab_aload_n O 0 dL_ancestorByWalk_3 rfl rfl ?_
  refine ab_iload_n O 1 dL_ancestorByWalk_4 rfl rfl ?_
  refine ab_iload_n O 2 dL_ancestorByWalk_5 rfl rfl ?_
  refine ab_iload_n O 3 dL_ancestorByWalk_6 rfl rfl ?_
  refine ab_callvI O J.2.2.2.2.2 (fr := False) (st := [.int 0, .ref 72]) lk_L_112 rfl (at_0 _ _ _) dL_ancestorByWalk_7 (c_X8_ancestorByWalk (d - 1) (by omega) _ O.2.2.2.2.2.2.1 _ _ _ _ _ _ h) rfl rfl ⟨by rw [J.2.1]; show d - 1 + 1 ≤ d; omega, by rw [J.2.1]; show 8 + (_ + 11) + 36 * (d - 1) ≤ 36 * d; omega⟩ (show 2 ≤ 8 by decide) ⟨by rw [J.2.1]; show 0 + 4 ≤ 4; decide, by rw [J.2.1]; show 0 + 24 ≤ 24; decide⟩ (fun q => q.elim) ?_ ?_
  · intro E u hu
    obtain ⟨V9, rfl, q⟩ := hu
    rcases q with ⟨rfl, q⟩ | ⟨rfl, q⟩ | ⟨rfl, q⟩
    · refine abx_catch O J [] [(0, 12, 19, 38), (0, 12, 23, 13)] rfl (fun z hz => by cases hz) ⟨by decide, by decide⟩ (by decide) cl_L_21 (by decide) (i := 5) (len := 2) (Or.inr ⟨dL_ancestorByWalk_15, rfl⟩) (show 5 < 6 by decide) ?_
      refine ab_iconst O 1 dL_ancestorByWalk_17 rfl ?_
      exact ab_ireturnJ O J dL_ancestorByWalk_18 (by decide) (by decide) ⟨_, _, _, rfl, q⟩
    · refine abx_catch O J [(0, 12, 15, 21)] [(0, 12, 23, 13)] rfl (fun z hz => by
        simp only [List.mem_cons, List.not_mem_nil, or_false] at hz
        rcases hz with rfl
        · exact ⟨by decide, "java/lang/IndexOutOfBoundsException", by decide, cl_L_21, by decide⟩) ⟨by decide, by decide⟩ (by decide) cl_L_38 (by decide) (i := 5) (len := 2) (Or.inr ⟨dL_ancestorByWalk_19, rfl⟩) (show 5 < 6 by decide) ?_
      refine ab_iconst O 2 dL_ancestorByWalk_21 rfl ?_
      exact ab_ireturnJ O J dL_ancestorByWalk_22 (by decide) (by decide) ⟨_, _, _, rfl, q⟩
    · refine abx_catch O J [(0, 12, 15, 21), (0, 12, 19, 38)] [] rfl (fun z hz => by
        simp only [List.mem_cons, List.not_mem_nil, or_false] at hz
        rcases hz with rfl | rfl
        · exact ⟨by decide, "java/lang/IndexOutOfBoundsException", by decide, cl_L_21, by decide⟩
        · exact ⟨by decide, "java/util/NoSuchElementException", by decide, cl_L_38, by decide⟩) ⟨by decide, by decide⟩ (by decide) cl_L_13 (by decide) (i := 5) (len := 2) (Or.inr ⟨dL_ancestorByWalk_23, rfl⟩) (show 5 < 6 by decide) ?_
      refine ab_iconst O 3 dL_ancestorByWalk_25 rfl ?_
      exact ab_ireturnJ O J dL_ancestorByWalk_26 (by decide) (by decide) ⟨_, _, _, rfl, q⟩
  · intro r u hu
    obtain ⟨V1, rfl, h⟩ := hu
    refine ab_i2l O dL_ancestorByWalk_10 ?_
    refine ab_last O dL_ancestorByWalk_11 (at_72 _ _ _) (by unfold vp_in; decide) ?_
    refine ab_eq ?_ rfl rfl rfl (so_72 _ _ _ _).symm
    refine ab_goto O 27 dL_ancestorByWalk_12 rfl ?_
    refine ab_iconst O 0 dL_ancestorByWalk_27 rfl ?_
    exact ab_ireturnJ O J dL_ancestorByWalk_28 (by decide) (by decide) ⟨_, _, _, rfl, h⟩

def wp_L_common (V : Mm) (a0 a1 a2 : Int32) (o : Nat → Int64) (D : Nat → UInt64) (post : Int32 → Mm → (Nat → Int64) → (Nat → UInt64) → Prop) : Prop := wp_X8_common V a0 a1 a2 (fun (r : Int32) (V1 : Mm) => post 0 V1 (vp_updL o 0 r.toInt64) D) (fun (E : String) (V1 : Mm) => (E = "java/lang/IndexOutOfBoundsException" ∧ post 1 V1 o D) ∨ (E = "java/util/NoSuchElementException" ∧ post 2 V1 o D))
set_option maxHeartbeats 4000000 in
theorem c_L_common (d : Nat) (hd : 9 ≤ d) (l : Launch) (hl : l.stackTraces = false) (g : ab_G) (o : Nat → Int64) (D : Nat → UInt64) (a0 a1 a2 : Int32) {V : Mm} {post : Int32 → Mm → (Nat → Int64) → (Nat → UInt64) → Prop} (h : wp_L_common V a0 a1 a2 o D post) : CtH l g tk_strs d 5 30 yL_common cL_common 6 (some .int) [(0, 12, 15, 21), (0, 12, 19, 38)] [.ref 0, .int a0, .int a1, .int a2, .ref 72] (SW V o D) (tk_I g (fun r u => ∃ (V : Mm) (o : Nat → Int64) (D : Nat → UInt64), u = SW V o D ∧ post r V o D)) (fun _ _ => False) := by
  refine ct_inH (by decide +kernel) (show 5 ≤ 6 by decide) (by simp [Value.category]) hl (fun X J O => ?_)
  show Ab X g 0 0 _ 0 [some (.ref 0), some (.int a0), some (.int a1), some (.int a2), some (.ref 72), none] [] _
  refine ab_aload O dL_common_0 rfl ?_
  refine ab_iconst O 0 dL_common_2 rfl ?_
  refine ab_aload_n O 0 dL_common_3 rfl rfl ?_
  refine ab_iload_n O 1 dL_common_4 rfl rfl ?_
  refine ab_iload_n O 2 dL_common_5 rfl rfl ?_
  refine ab_iload_n O 3 dL_common_6 rfl rfl ?_
  refine ab_callvI O J.2.2.2.2.2 (fr := False) (st := [.int 0, .ref 72]) lk_L_115 rfl (at_0 _ _ _) dL_common_7 (c_X8_common (d - 1) (by omega) _ O.2.2.2.2.2.2.1 _ _ _ _ _ _ h) rfl rfl ⟨by rw [J.2.1]; show d - 1 + 1 ≤ d; omega, by rw [J.2.1]; show 8 + (_ + 11) + 36 * (d - 1) ≤ 36 * d; omega⟩ (show 2 ≤ 8 by decide) ⟨by rw [J.2.1]; show 0 + 5 ≤ 5; decide, by rw [J.2.1]; show 0 + 30 ≤ 30; decide⟩ (fun q => q.elim) ?_ ?_
  · intro E u hu
    obtain ⟨V9, rfl, q⟩ := hu
    rcases q with ⟨rfl, q⟩ | ⟨rfl, q⟩
    · refine abx_catch O J [] [(0, 12, 19, 38)] rfl (fun z hz => by cases hz) ⟨by decide, by decide⟩ (by decide) cl_L_21 (by decide) (i := 5) (len := 2) (Or.inr ⟨dL_common_15, rfl⟩) (show 5 < 6 by decide) ?_
      refine ab_iconst O 1 dL_common_17 rfl ?_
      exact ab_ireturnJ O J dL_common_18 (by decide) (by decide) ⟨_, _, _, rfl, q⟩
    · refine abx_catch O J [(0, 12, 15, 21)] [] rfl (fun z hz => by
        simp only [List.mem_cons, List.not_mem_nil, or_false] at hz
        rcases hz with rfl
        · exact ⟨by decide, "java/lang/IndexOutOfBoundsException", by decide, cl_L_21, by decide⟩) ⟨by decide, by decide⟩ (by decide) cl_L_38 (by decide) (i := 5) (len := 2) (Or.inr ⟨dL_common_19, rfl⟩) (show 5 < 6 by decide) ?_
      refine ab_iconst O 2 dL_common_21 rfl ?_
      exact ab_ireturnJ O J dL_common_22 (by decide) (by decide) ⟨_, _, _, rfl, q⟩
  · intro r u hu
    obtain ⟨V1, rfl, h⟩ := hu
    refine ab_i2l O dL_common_10 ?_
    refine ab_last O dL_common_11 (at_72 _ _ _) (by unfold vp_in; decide) ?_
    refine ab_eq ?_ rfl rfl rfl (so_72 _ _ _ _).symm
    refine ab_goto O 23 dL_common_12 rfl ?_
    refine ab_iconst O 0 dL_common_23 rfl ?_
    exact ab_ireturnJ O J dL_common_24 (by decide) (by decide) ⟨_, _, _, rfl, h⟩

def wp_L_commonByWalk (V : Mm) (a0 a1 a2 : Int32) (o : Nat → Int64) (D : Nat → UInt64) (post : Int32 → Mm → (Nat → Int64) → (Nat → UInt64) → Prop) : Prop := wp_X8_commonByWalk V a0 a1 a2 (fun (r : Int32) (V1 : Mm) => post 0 V1 (vp_updL o 0 r.toInt64) D) (fun (E : String) (V1 : Mm) => (E = "java/lang/IndexOutOfBoundsException" ∧ post 1 V1 o D) ∨ (E = "java/util/NoSuchElementException" ∧ post 2 V1 o D))
set_option maxHeartbeats 4000000 in
theorem c_L_commonByWalk (d : Nat) (hd : 9 ≤ d) (l : Launch) (hl : l.stackTraces = false) (g : ab_G) (o : Nat → Int64) (D : Nat → UInt64) (a0 a1 a2 : Int32) {V : Mm} {post : Int32 → Mm → (Nat → Int64) → (Nat → UInt64) → Prop} (h : wp_L_commonByWalk V a0 a1 a2 o D post) : CtH l g tk_strs d 5 30 yL_commonByWalk cL_commonByWalk 6 (some .int) [(0, 12, 15, 21), (0, 12, 19, 38)] [.ref 0, .int a0, .int a1, .int a2, .ref 72] (SW V o D) (tk_I g (fun r u => ∃ (V : Mm) (o : Nat → Int64) (D : Nat → UInt64), u = SW V o D ∧ post r V o D)) (fun _ _ => False) := by
  refine ct_inH (by decide +kernel) (show 5 ≤ 6 by decide) (by simp [Value.category]) hl (fun X J O => ?_)
  show Ab X g 0 0 _ 0 [some (.ref 0), some (.int a0), some (.int a1), some (.int a2), some (.ref 72), none] [] _
  refine ab_aload O dL_commonByWalk_0 rfl ?_
  refine ab_iconst O 0 dL_commonByWalk_2 rfl ?_
  refine ab_aload_n O 0 dL_commonByWalk_3 rfl rfl ?_
  refine ab_iload_n O 1 dL_commonByWalk_4 rfl rfl ?_
  refine ab_iload_n O 2 dL_commonByWalk_5 rfl rfl ?_
  refine ab_iload_n O 3 dL_commonByWalk_6 rfl rfl ?_
  refine ab_callvI O J.2.2.2.2.2 (fr := False) (st := [.int 0, .ref 72]) lk_L_118 rfl (at_0 _ _ _) dL_commonByWalk_7 (c_X8_commonByWalk (d - 1) (by omega) _ O.2.2.2.2.2.2.1 _ _ _ _ _ _ h) rfl rfl ⟨by rw [J.2.1]; show d - 1 + 1 ≤ d; omega, by rw [J.2.1]; show 8 + (_ + 11) + 36 * (d - 1) ≤ 36 * d; omega⟩ (show 2 ≤ 8 by decide) ⟨by rw [J.2.1]; show 0 + 5 ≤ 5; decide, by rw [J.2.1]; show 0 + 30 ≤ 30; decide⟩ (fun q => q.elim) ?_ ?_
  · intro E u hu
    obtain ⟨V9, rfl, q⟩ := hu
    rcases q with ⟨rfl, q⟩ | ⟨rfl, q⟩
    · refine abx_catch O J [] [(0, 12, 19, 38)] rfl (fun z hz => by cases hz) ⟨by decide, by decide⟩ (by decide) cl_L_21 (by decide) (i := 5) (len := 2) (Or.inr ⟨dL_commonByWalk_15, rfl⟩) (show 5 < 6 by decide) ?_
      refine ab_iconst O 1 dL_commonByWalk_17 rfl ?_
      exact ab_ireturnJ O J dL_commonByWalk_18 (by decide) (by decide) ⟨_, _, _, rfl, q⟩
    · refine abx_catch O J [(0, 12, 15, 21)] [] rfl (fun z hz => by
        simp only [List.mem_cons, List.not_mem_nil, or_false] at hz
        rcases hz with rfl
        · exact ⟨by decide, "java/lang/IndexOutOfBoundsException", by decide, cl_L_21, by decide⟩) ⟨by decide, by decide⟩ (by decide) cl_L_38 (by decide) (i := 5) (len := 2) (Or.inr ⟨dL_commonByWalk_19, rfl⟩) (show 5 < 6 by decide) ?_
      refine ab_iconst O 2 dL_commonByWalk_21 rfl ?_
      exact ab_ireturnJ O J dL_commonByWalk_22 (by decide) (by decide) ⟨_, _, _, rfl, q⟩
  · intro r u hu
    obtain ⟨V1, rfl, h⟩ := hu
    refine ab_i2l O dL_commonByWalk_10 ?_
    refine ab_last O dL_commonByWalk_11 (at_72 _ _ _) (by unfold vp_in; decide) ?_
    refine ab_eq ?_ rfl rfl rfl (so_72 _ _ _ _).symm
    refine ab_goto O 23 dL_commonByWalk_12 rfl ?_
    refine ab_iconst O 0 dL_commonByWalk_23 rfl ?_
    exact ab_ireturnJ O J dL_commonByWalk_24 (by decide) (by decide) ⟨_, _, _, rfl, h⟩

def wp_L_degree (V : Mm) (a0 : Int32) (o : Nat → Int64) (D : Nat → UInt64) (post : Int32 → Mm → (Nat → Int64) → (Nat → UInt64) → Prop) : Prop := wp_X8_degree V a0 (fun (r : Int32) (V1 : Mm) => post 0 V1 (vp_updL o 0 r.toInt64) D) (fun (E : String) (V1 : Mm) => (E = "java/lang/IndexOutOfBoundsException" ∧ post 1 V1 o D))
set_option maxHeartbeats 4000000 in
theorem c_L_degree (d : Nat) (hd : 8 ≤ d) (l : Launch) (hl : l.stackTraces = false) (g : ab_G) (o : Nat → Int64) (D : Nat → UInt64) (a0 : Int32) {V : Mm} {post : Int32 → Mm → (Nat → Int64) → (Nat → UInt64) → Prop} (h : wp_L_degree V a0 o D post) : CtH l g tk_strs d 1 6 yL_degree cL_degree 4 (some .int) [(0, 9, 12, 21)] [.ref 0, .int a0, .ref 72] (SW V o D) (tk_I g (fun r u => ∃ (V : Mm) (o : Nat → Int64) (D : Nat → UInt64), u = SW V o D ∧ post r V o D)) (fun _ _ => False) := by
  refine ct_inH (by decide +kernel) (show 3 ≤ 4 by decide) (by simp [Value.category]) hl (fun X J O => ?_)
  show Ab X g 0 0 _ 0 [some (.ref 0), some (.int a0), some (.ref 72), none] [] _
  refine ab_aload_n O 2 dL_degree_0 rfl rfl ?_
  refine ab_iconst O 0 dL_degree_1 rfl ?_
  refine ab_aload_n O 0 dL_degree_2 rfl rfl ?_
  refine ab_iload_n O 1 dL_degree_3 rfl rfl ?_
  refine ab_callvI O J.2.2.2.2.2 (fr := False) (st := [.int 0, .ref 72]) lk_L_59 rfl (at_0 _ _ _) dL_degree_4 (c_X8_degree (d - 1) (by omega) _ O.2.2.2.2.2.2.1 _ _ _ _ h) rfl rfl ⟨by rw [J.2.1]; show d - 1 + 1 ≤ d; omega, by rw [J.2.1]; show 8 + (_ + 11) + 36 * (d - 1) ≤ 36 * d; omega⟩ (show 2 ≤ 8 by decide) ⟨by rw [J.2.1]; show 0 + 1 ≤ 1; decide, by rw [J.2.1]; show 0 + 6 ≤ 6; decide⟩ (fun q => q.elim) ?_ ?_
  · intro E u hu
    obtain ⟨V9, rfl, q⟩ := hu
    obtain ⟨rfl, q⟩ := q
    refine abx_catch O J [] [] rfl (fun z hz => by cases hz) ⟨by decide, by decide⟩ (by decide) cl_L_21 (by decide) (i := 3) (len := 1) (Or.inl ⟨_, dL_degree_12, rfl, rfl⟩) (show 3 < 4 by decide) ?_
    refine ab_iconst O 1 dL_degree_13 rfl ?_
    exact ab_ireturnJ O J dL_degree_14 (by decide) (by decide) ⟨_, _, _, rfl, q⟩
  · intro r u hu
    obtain ⟨V1, rfl, h⟩ := hu
    refine ab_i2l O dL_degree_7 ?_
    refine ab_last O dL_degree_8 (at_72 _ _ _) (by unfold vp_in; decide) ?_
    refine ab_eq ?_ rfl rfl rfl (so_72 _ _ _ _).symm
    refine ab_goto O 15 dL_degree_9 rfl ?_
    refine ab_iconst O 0 dL_degree_15 rfl ?_
    exact ab_ireturnJ O J dL_degree_16 (by decide) (by decide) ⟨_, _, _, rfl, h⟩

def wp_L_depth (V : Mm) (a0 a1 : Int32) (o : Nat → Int64) (D : Nat → UInt64) (post : Int32 → Mm → (Nat → Int64) → (Nat → UInt64) → Prop) : Prop := wp_X8_depth V a0 a1 (fun (r : Int32) (V1 : Mm) => post 0 V1 (vp_updL o 0 r.toInt64) D) (fun (E : String) (V1 : Mm) => (E = "java/lang/IndexOutOfBoundsException" ∧ post 1 V1 o D) ∨ (E = "java/util/NoSuchElementException" ∧ post 2 V1 o D))
set_option maxHeartbeats 4000000 in
theorem c_L_depth (d : Nat) (hd : 9 ≤ d) (l : Launch) (hl : l.stackTraces = false) (g : ab_G) (o : Nat → Int64) (D : Nat → UInt64) (a0 a1 : Int32) {V : Mm} {post : Int32 → Mm → (Nat → Int64) → (Nat → UInt64) → Prop} (h : wp_L_depth V a0 a1 o D post) : CtH l g tk_strs d 3 18 yL_depth cL_depth 5 (some .int) [(0, 10, 13, 21), (0, 10, 17, 38)] [.ref 0, .int a0, .int a1, .ref 72] (SW V o D) (tk_I g (fun r u => ∃ (V : Mm) (o : Nat → Int64) (D : Nat → UInt64), u = SW V o D ∧ post r V o D)) (fun _ _ => False) := by
  refine ct_inH (by decide +kernel) (show 4 ≤ 5 by decide) (by simp [Value.category]) hl (fun X J O => ?_)
  show Ab X g 0 0 _ 0 [some (.ref 0), some (.int a0), some (.int a1), some (.ref 72), none] [] _
  refine ab_aload_n O 3 dL_depth_0 rfl rfl ?_
  refine ab_iconst O 0 dL_depth_1 rfl ?_
  refine ab_aload_n O 0 dL_depth_2 rfl rfl ?_
  refine ab_iload_n O 1 dL_depth_3 rfl rfl ?_
  refine ab_iload_n O 2 dL_depth_4 rfl rfl ?_
  refine ab_callvI O J.2.2.2.2.2 (fr := False) (st := [.int 0, .ref 72]) lk_L_106 rfl (at_0 _ _ _) dL_depth_5 (c_X8_depth (d - 1) (by omega) _ O.2.2.2.2.2.2.1 _ _ _ _ _ h) rfl rfl ⟨by rw [J.2.1]; show d - 1 + 1 ≤ d; omega, by rw [J.2.1]; show 8 + (_ + 11) + 36 * (d - 1) ≤ 36 * d; omega⟩ (show 2 ≤ 8 by decide) ⟨by rw [J.2.1]; show 0 + 3 ≤ 3; decide, by rw [J.2.1]; show 0 + 18 ≤ 18; decide⟩ (fun q => q.elim) ?_ ?_
  · intro E u hu
    obtain ⟨V9, rfl, q⟩ := hu
    rcases q with ⟨rfl, q⟩ | ⟨rfl, q⟩
    · refine abx_catch O J [] [(0, 10, 17, 38)] rfl (fun z hz => by cases hz) ⟨by decide, by decide⟩ (by decide) cl_L_21 (by decide) (i := 4) (len := 2) (Or.inr ⟨dL_depth_13, rfl⟩) (show 4 < 5 by decide) ?_
      refine ab_iconst O 1 dL_depth_15 rfl ?_
      exact ab_ireturnJ O J dL_depth_16 (by decide) (by decide) ⟨_, _, _, rfl, q⟩
    · refine abx_catch O J [(0, 10, 13, 21)] [] rfl (fun z hz => by
        simp only [List.mem_cons, List.not_mem_nil, or_false] at hz
        rcases hz with rfl
        · exact ⟨by decide, "java/lang/IndexOutOfBoundsException", by decide, cl_L_21, by decide⟩) ⟨by decide, by decide⟩ (by decide) cl_L_38 (by decide) (i := 4) (len := 2) (Or.inr ⟨dL_depth_17, rfl⟩) (show 4 < 5 by decide) ?_
      refine ab_iconst O 2 dL_depth_19 rfl ?_
      exact ab_ireturnJ O J dL_depth_20 (by decide) (by decide) ⟨_, _, _, rfl, q⟩
  · intro r u hu
    obtain ⟨V1, rfl, h⟩ := hu
    refine ab_i2l O dL_depth_8 ?_
    refine ab_last O dL_depth_9 (at_72 _ _ _) (by unfold vp_in; decide) ?_
    refine ab_eq ?_ rfl rfl rfl (so_72 _ _ _ _).symm
    refine ab_goto O 21 dL_depth_10 rfl ?_
    refine ab_iconst O 0 dL_depth_21 rfl ?_
    exact ab_ireturnJ O J dL_depth_22 (by decide) (by decide) ⟨_, _, _, rfl, h⟩

def wp_L_diameter (V : Mm) (a0 : Int32) (o : Nat → Int64) (D : Nat → UInt64) (post : Int32 → Mm → (Nat → Int64) → (Nat → UInt64) → Prop) : Prop := wp_X8_diameter V a0 (fun (r : Int32) (V1 : Mm) => post 0 V1 (vp_updL o 0 r.toInt64) D) (fun (E : String) (V1 : Mm) => (E = "java/lang/IndexOutOfBoundsException" ∧ post 1 V1 o D))
set_option maxHeartbeats 4000000 in
theorem c_L_diameter (d : Nat) (hd : 8 ≤ d) (l : Launch) (hl : l.stackTraces = false) (g : ab_G) (o : Nat → Int64) (D : Nat → UInt64) (a0 : Int32) {V : Mm} {post : Int32 → Mm → (Nat → Int64) → (Nat → UInt64) → Prop} (h : wp_L_diameter V a0 o D post) : CtH l g tk_strs d 1 6 yL_diameter cL_diameter 4 (some .int) [(0, 9, 12, 21)] [.ref 0, .int a0, .ref 72] (SW V o D) (tk_I g (fun r u => ∃ (V : Mm) (o : Nat → Int64) (D : Nat → UInt64), u = SW V o D ∧ post r V o D)) (fun _ _ => False) := by
  refine ct_inH (by decide +kernel) (show 3 ≤ 4 by decide) (by simp [Value.category]) hl (fun X J O => ?_)
  show Ab X g 0 0 _ 0 [some (.ref 0), some (.int a0), some (.ref 72), none] [] _
  refine ab_aload_n O 2 dL_diameter_0 rfl rfl ?_
  refine ab_iconst O 0 dL_diameter_1 rfl ?_
  refine ab_aload_n O 0 dL_diameter_2 rfl rfl ?_
  refine ab_iload_n O 1 dL_diameter_3 rfl rfl ?_
  refine ab_callvI O J.2.2.2.2.2 (fr := False) (st := [.int 0, .ref 72]) lk_L_139 rfl (at_0 _ _ _) dL_diameter_4 (c_X8_diameter (d - 1) (by omega) _ O.2.2.2.2.2.2.1 _ _ _ _ h) rfl rfl ⟨by rw [J.2.1]; show d - 1 + 1 ≤ d; omega, by rw [J.2.1]; show 8 + (_ + 11) + 36 * (d - 1) ≤ 36 * d; omega⟩ (show 2 ≤ 8 by decide) ⟨by rw [J.2.1]; show 0 + 1 ≤ 1; decide, by rw [J.2.1]; show 0 + 6 ≤ 6; decide⟩ (fun q => q.elim) ?_ ?_
  · intro E u hu
    obtain ⟨V9, rfl, q⟩ := hu
    obtain ⟨rfl, q⟩ := q
    refine abx_catch O J [] [] rfl (fun z hz => by cases hz) ⟨by decide, by decide⟩ (by decide) cl_L_21 (by decide) (i := 3) (len := 1) (Or.inl ⟨_, dL_diameter_12, rfl, rfl⟩) (show 3 < 4 by decide) ?_
    refine ab_iconst O 1 dL_diameter_13 rfl ?_
    exact ab_ireturnJ O J dL_diameter_14 (by decide) (by decide) ⟨_, _, _, rfl, q⟩
  · intro r u hu
    obtain ⟨V1, rfl, h⟩ := hu
    refine ab_i2l O dL_diameter_7 ?_
    refine ab_last O dL_diameter_8 (at_72 _ _ _) (by unfold vp_in; decide) ?_
    refine ab_eq ?_ rfl rfl rfl (so_72 _ _ _ _).symm
    refine ab_goto O 15 dL_diameter_9 rfl ?_
    refine ab_iconst O 0 dL_diameter_15 rfl ?_
    exact ab_ireturnJ O J dL_diameter_16 (by decide) (by decide) ⟨_, _, _, rfl, h⟩

def wp_L_diameterByTrying (V : Mm) (a0 : Int32) (o : Nat → Int64) (D : Nat → UInt64) (post : Int32 → Mm → (Nat → Int64) → (Nat → UInt64) → Prop) : Prop := wp_X8_diameterByTrying V a0 (fun (r : Int32) (V1 : Mm) => post 0 V1 (vp_updL o 0 r.toInt64) D) (fun (E : String) (V1 : Mm) => (E = "java/lang/IndexOutOfBoundsException" ∧ post 1 V1 o D))
set_option maxHeartbeats 4000000 in
theorem c_L_diameterByTrying (d : Nat) (hd : 8 ≤ d) (l : Launch) (hl : l.stackTraces = false) (g : ab_G) (o : Nat → Int64) (D : Nat → UInt64) (a0 : Int32) {V : Mm} {post : Int32 → Mm → (Nat → Int64) → (Nat → UInt64) → Prop} (h : wp_L_diameterByTrying V a0 o D post) : CtH l g tk_strs d 1 6 yL_diameterByTrying cL_diameterByTrying 4 (some .int) [(0, 9, 12, 21)] [.ref 0, .int a0, .ref 72] (SW V o D) (tk_I g (fun r u => ∃ (V : Mm) (o : Nat → Int64) (D : Nat → UInt64), u = SW V o D ∧ post r V o D)) (fun _ _ => False) := by
  refine ct_inH (by decide +kernel) (show 3 ≤ 4 by decide) (by simp [Value.category]) hl (fun X J O => ?_)
  show Ab X g 0 0 _ 0 [some (.ref 0), some (.int a0), some (.ref 72), none] [] _
  refine ab_aload_n O 2 dL_diameterByTrying_0 rfl rfl ?_
  refine ab_iconst O 0 dL_diameterByTrying_1 rfl ?_
  refine ab_aload_n O 0 dL_diameterByTrying_2 rfl rfl ?_
  refine ab_iload_n O 1 dL_diameterByTrying_3 rfl rfl ?_
  refine ab_callvI O J.2.2.2.2.2 (fr := False) (st := [.int 0, .ref 72]) lk_L_142 rfl (at_0 _ _ _) dL_diameterByTrying_4 (c_X8_diameterByTrying (d - 1) (by omega) _ O.2.2.2.2.2.2.1 _ _ _ _ h) rfl rfl ⟨by rw [J.2.1]; show d - 1 + 1 ≤ d; omega, by rw [J.2.1]; show 8 + (_ + 11) + 36 * (d - 1) ≤ 36 * d; omega⟩ (show 2 ≤ 8 by decide) ⟨by rw [J.2.1]; show 0 + 1 ≤ 1; decide, by rw [J.2.1]; show 0 + 6 ≤ 6; decide⟩ (fun q => q.elim) ?_ ?_
  · intro E u hu
    obtain ⟨V9, rfl, q⟩ := hu
    obtain ⟨rfl, q⟩ := q
    refine abx_catch O J [] [] rfl (fun z hz => by cases hz) ⟨by decide, by decide⟩ (by decide) cl_L_21 (by decide) (i := 3) (len := 1) (Or.inl ⟨_, dL_diameterByTrying_12, rfl, rfl⟩) (show 3 < 4 by decide) ?_
    refine ab_iconst O 1 dL_diameterByTrying_13 rfl ?_
    exact ab_ireturnJ O J dL_diameterByTrying_14 (by decide) (by decide) ⟨_, _, _, rfl, q⟩
  · intro r u hu
    obtain ⟨V1, rfl, h⟩ := hu
    refine ab_i2l O dL_diameterByTrying_7 ?_
    refine ab_last O dL_diameterByTrying_8 (at_72 _ _ _) (by unfold vp_in; decide) ?_
    refine ab_eq ?_ rfl rfl rfl (so_72 _ _ _ _).symm
    refine ab_goto O 15 dL_diameterByTrying_9 rfl ?_
    refine ab_iconst O 0 dL_diameterByTrying_15 rfl ?_
    exact ab_ireturnJ O J dL_diameterByTrying_16 (by decide) (by decide) ⟨_, _, _, rfl, h⟩

def wp_L_head (V : Mm) (a0 a1 : Int32) (o : Nat → Int64) (D : Nat → UInt64) (post : Int32 → Mm → (Nat → Int64) → (Nat → UInt64) → Prop) : Prop := wp_X8_head V a0 a1 (fun (r : Int32) (V1 : Mm) => post 0 V1 (vp_updL o 0 r.toInt64) D) (fun (E : String) (V1 : Mm) => (E = "java/lang/IndexOutOfBoundsException" ∧ post 1 V1 o D) ∨ (E = "java/util/NoSuchElementException" ∧ post 2 V1 o D))
set_option maxHeartbeats 4000000 in
theorem c_L_head (d : Nat) (hd : 9 ≤ d) (l : Launch) (hl : l.stackTraces = false) (g : ab_G) (o : Nat → Int64) (D : Nat → UInt64) (a0 a1 : Int32) {V : Mm} {post : Int32 → Mm → (Nat → Int64) → (Nat → UInt64) → Prop} (h : wp_L_head V a0 a1 o D post) : CtH l g tk_strs d 3 18 yL_head cL_head 5 (some .int) [(0, 10, 13, 21), (0, 10, 17, 38)] [.ref 0, .int a0, .int a1, .ref 72] (SW V o D) (tk_I g (fun r u => ∃ (V : Mm) (o : Nat → Int64) (D : Nat → UInt64), u = SW V o D ∧ post r V o D)) (fun _ _ => False) := by
  refine ct_inH (by decide +kernel) (show 4 ≤ 5 by decide) (by simp [Value.category]) hl (fun X J O => ?_)
  show Ab X g 0 0 _ 0 [some (.ref 0), some (.int a0), some (.int a1), some (.ref 72), none] [] _
  refine ab_aload_n O 3 dL_head_0 rfl rfl ?_
  refine ab_iconst O 0 dL_head_1 rfl ?_
  refine ab_aload_n O 0 dL_head_2 rfl rfl ?_
  refine ab_iload_n O 1 dL_head_3 rfl rfl ?_
  refine ab_iload_n O 2 dL_head_4 rfl rfl ?_
  refine ab_callvI O J.2.2.2.2.2 (fr := False) (st := [.int 0, .ref 72]) lk_L_130 rfl (at_0 _ _ _) dL_head_5 (c_X8_head (d - 1) (by omega) _ O.2.2.2.2.2.2.1 _ _ _ _ _ h) rfl rfl ⟨by rw [J.2.1]; show d - 1 + 1 ≤ d; omega, by rw [J.2.1]; show 8 + (_ + 11) + 36 * (d - 1) ≤ 36 * d; omega⟩ (show 2 ≤ 8 by decide) ⟨by rw [J.2.1]; show 0 + 3 ≤ 3; decide, by rw [J.2.1]; show 0 + 18 ≤ 18; decide⟩ (fun q => q.elim) ?_ ?_
  · intro E u hu
    obtain ⟨V9, rfl, q⟩ := hu
    rcases q with ⟨rfl, q⟩ | ⟨rfl, q⟩
    · refine abx_catch O J [] [(0, 10, 17, 38)] rfl (fun z hz => by cases hz) ⟨by decide, by decide⟩ (by decide) cl_L_21 (by decide) (i := 4) (len := 2) (Or.inr ⟨dL_head_13, rfl⟩) (show 4 < 5 by decide) ?_
      refine ab_iconst O 1 dL_head_15 rfl ?_
      exact ab_ireturnJ O J dL_head_16 (by decide) (by decide) ⟨_, _, _, rfl, q⟩
    · refine abx_catch O J [(0, 10, 13, 21)] [] rfl (fun z hz => by
        simp only [List.mem_cons, List.not_mem_nil, or_false] at hz
        rcases hz with rfl
        · exact ⟨by decide, "java/lang/IndexOutOfBoundsException", by decide, cl_L_21, by decide⟩) ⟨by decide, by decide⟩ (by decide) cl_L_38 (by decide) (i := 4) (len := 2) (Or.inr ⟨dL_head_17, rfl⟩) (show 4 < 5 by decide) ?_
      refine ab_iconst O 2 dL_head_19 rfl ?_
      exact ab_ireturnJ O J dL_head_20 (by decide) (by decide) ⟨_, _, _, rfl, q⟩
  · intro r u hu
    obtain ⟨V1, rfl, h⟩ := hu
    refine ab_i2l O dL_head_8 ?_
    refine ab_last O dL_head_9 (at_72 _ _ _) (by unfold vp_in; decide) ?_
    refine ab_eq ?_ rfl rfl rfl (so_72 _ _ _ _).symm
    refine ab_goto O 21 dL_head_10 rfl ?_
    refine ab_iconst O 0 dL_head_21 rfl ?_
    exact ab_ireturnJ O J dL_head_22 (by decide) (by decide) ⟨_, _, _, rfl, h⟩

def wp_L_heavyChild (V : Mm) (a0 a1 : Int32) (o : Nat → Int64) (D : Nat → UInt64) (post : Int32 → Mm → (Nat → Int64) → (Nat → UInt64) → Prop) : Prop := wp_X8_heavyChild V a0 a1 (fun (r : Int32) (V1 : Mm) => post 0 V1 (vp_updL o 0 r.toInt64) D) (fun (E : String) (V1 : Mm) => (E = "java/lang/IndexOutOfBoundsException" ∧ post 1 V1 o D) ∨ (E = "java/util/NoSuchElementException" ∧ post 2 V1 o D) ∨ (E = "java/lang/UnsupportedOperationException" ∧ post 3 V1 o D))
set_option maxHeartbeats 4000000 in
theorem c_L_heavyChild (d : Nat) (hd : 9 ≤ d) (l : Launch) (hl : l.stackTraces = false) (g : ab_G) (o : Nat → Int64) (D : Nat → UInt64) (a0 a1 : Int32) {V : Mm} {post : Int32 → Mm → (Nat → Int64) → (Nat → UInt64) → Prop} (h : wp_L_heavyChild V a0 a1 o D post) : CtH l g tk_strs d 4 24 yL_heavyChild cL_heavyChild 5 (some .int) [(0, 10, 13, 21), (0, 10, 17, 38), (0, 10, 21, 27)] [.ref 0, .int a0, .int a1, .ref 72] (SW V o D) (tk_I g (fun r u => ∃ (V : Mm) (o : Nat → Int64) (D : Nat → UInt64), u = SW V o D ∧ post r V o D)) (fun _ _ => False) := by
  refine ct_inH (by decide +kernel) (show 4 ≤ 5 by decide) (by simp [Value.category]) hl (fun X J O => ?_)
  show Ab X g 0 0 _ 0 [some (.ref 0), some (.int a0), some (.int a1), some (.ref 72), none] [] _
  refine ab_aload_n O 3 dL_heavyChild_0 rfl rfl ?_
  refine ab_iconst O 0 dL_heavyChild_1 rfl ?_
  refine ab_aload_n O 0 dL_heavyChild_2 rfl rfl ?_
  refine ab_iload_n O 1 dL_heavyChild_3 rfl rfl ?_
  refine ab_iload_n O 2 dL_heavyChild_4 rfl rfl ?_
  refine ab_callvI O J.2.2.2.2.2 (fr := False) (st := [.int 0, .ref 72]) lk_L_127 rfl (at_0 _ _ _) dL_heavyChild_5 (c_X8_heavyChild (d - 1) (by omega) _ O.2.2.2.2.2.2.1 _ _ _ _ _ h) rfl rfl ⟨by rw [J.2.1]; show d - 1 + 1 ≤ d; omega, by rw [J.2.1]; show 8 + (_ + 11) + 36 * (d - 1) ≤ 36 * d; omega⟩ (show 2 ≤ 8 by decide) ⟨by rw [J.2.1]; show 0 + 4 ≤ 4; decide, by rw [J.2.1]; show 0 + 24 ≤ 24; decide⟩ (fun q => q.elim) ?_ ?_
  · intro E u hu
    obtain ⟨V9, rfl, q⟩ := hu
    rcases q with ⟨rfl, q⟩ | ⟨rfl, q⟩ | ⟨rfl, q⟩
    · refine abx_catch O J [] [(0, 10, 17, 38), (0, 10, 21, 27)] rfl (fun z hz => by cases hz) ⟨by decide, by decide⟩ (by decide) cl_L_21 (by decide) (i := 4) (len := 2) (Or.inr ⟨dL_heavyChild_13, rfl⟩) (show 4 < 5 by decide) ?_
      refine ab_iconst O 1 dL_heavyChild_15 rfl ?_
      exact ab_ireturnJ O J dL_heavyChild_16 (by decide) (by decide) ⟨_, _, _, rfl, q⟩
    · refine abx_catch O J [(0, 10, 13, 21)] [(0, 10, 21, 27)] rfl (fun z hz => by
        simp only [List.mem_cons, List.not_mem_nil, or_false] at hz
        rcases hz with rfl
        · exact ⟨by decide, "java/lang/IndexOutOfBoundsException", by decide, cl_L_21, by decide⟩) ⟨by decide, by decide⟩ (by decide) cl_L_38 (by decide) (i := 4) (len := 2) (Or.inr ⟨dL_heavyChild_17, rfl⟩) (show 4 < 5 by decide) ?_
      refine ab_iconst O 2 dL_heavyChild_19 rfl ?_
      exact ab_ireturnJ O J dL_heavyChild_20 (by decide) (by decide) ⟨_, _, _, rfl, q⟩
    · refine abx_catch O J [(0, 10, 13, 21), (0, 10, 17, 38)] [] rfl (fun z hz => by
        simp only [List.mem_cons, List.not_mem_nil, or_false] at hz
        rcases hz with rfl | rfl
        · exact ⟨by decide, "java/lang/IndexOutOfBoundsException", by decide, cl_L_21, by decide⟩
        · exact ⟨by decide, "java/util/NoSuchElementException", by decide, cl_L_38, by decide⟩) ⟨by decide, by decide⟩ (by decide) cl_L_27 (by decide) (i := 4) (len := 2) (Or.inr ⟨dL_heavyChild_21, rfl⟩) (show 4 < 5 by decide) ?_
      refine ab_iconst O 3 dL_heavyChild_23 rfl ?_
      exact ab_ireturnJ O J dL_heavyChild_24 (by decide) (by decide) ⟨_, _, _, rfl, q⟩
  · intro r u hu
    obtain ⟨V1, rfl, h⟩ := hu
    refine ab_i2l O dL_heavyChild_8 ?_
    refine ab_last O dL_heavyChild_9 (at_72 _ _ _) (by unfold vp_in; decide) ?_
    refine ab_eq ?_ rfl rfl rfl (so_72 _ _ _ _).symm
    refine ab_goto O 25 dL_heavyChild_10 rfl ?_
    refine ab_iconst O 0 dL_heavyChild_25 rfl ?_
    exact ab_ireturnJ O J dL_heavyChild_26 (by decide) (by decide) ⟨_, _, _, rfl, h⟩

def wp_L_heavyPaths (V : Mm) (a0 : Int32) (o : Nat → Int64) (D : Nat → UInt64) (post : Int32 → Mm → (Nat → Int64) → (Nat → UInt64) → Prop) : Prop := wp_X8_heavyPaths V a0 (fun (r : Int32) (V1 : Mm) => post 0 V1 (vp_updL o 0 r.toInt64) D) (fun (E : String) (V1 : Mm) => (E = "java/lang/IndexOutOfBoundsException" ∧ post 1 V1 o D))
set_option maxHeartbeats 4000000 in
theorem c_L_heavyPaths (d : Nat) (hd : 8 ≤ d) (l : Launch) (hl : l.stackTraces = false) (g : ab_G) (o : Nat → Int64) (D : Nat → UInt64) (a0 : Int32) {V : Mm} {post : Int32 → Mm → (Nat → Int64) → (Nat → UInt64) → Prop} (h : wp_L_heavyPaths V a0 o D post) : CtH l g tk_strs d 1 6 yL_heavyPaths cL_heavyPaths 4 (some .int) [(0, 9, 12, 21)] [.ref 0, .int a0, .ref 72] (SW V o D) (tk_I g (fun r u => ∃ (V : Mm) (o : Nat → Int64) (D : Nat → UInt64), u = SW V o D ∧ post r V o D)) (fun _ _ => False) := by
  refine ct_inH (by decide +kernel) (show 3 ≤ 4 by decide) (by simp [Value.category]) hl (fun X J O => ?_)
  show Ab X g 0 0 _ 0 [some (.ref 0), some (.int a0), some (.ref 72), none] [] _
  refine ab_aload_n O 2 dL_heavyPaths_0 rfl rfl ?_
  refine ab_iconst O 0 dL_heavyPaths_1 rfl ?_
  refine ab_aload_n O 0 dL_heavyPaths_2 rfl rfl ?_
  refine ab_iload_n O 1 dL_heavyPaths_3 rfl rfl ?_
  refine ab_callvI O J.2.2.2.2.2 (fr := False) (st := [.int 0, .ref 72]) lk_L_133 rfl (at_0 _ _ _) dL_heavyPaths_4 (c_X8_heavyPaths (d - 1) (by omega) _ O.2.2.2.2.2.2.1 _ _ _ _ h) rfl rfl ⟨by rw [J.2.1]; show d - 1 + 1 ≤ d; omega, by rw [J.2.1]; show 8 + (_ + 11) + 36 * (d - 1) ≤ 36 * d; omega⟩ (show 2 ≤ 8 by decide) ⟨by rw [J.2.1]; show 0 + 1 ≤ 1; decide, by rw [J.2.1]; show 0 + 6 ≤ 6; decide⟩ (fun q => q.elim) ?_ ?_
  · intro E u hu
    obtain ⟨V9, rfl, q⟩ := hu
    obtain ⟨rfl, q⟩ := q
    refine abx_catch O J [] [] rfl (fun z hz => by cases hz) ⟨by decide, by decide⟩ (by decide) cl_L_21 (by decide) (i := 3) (len := 1) (Or.inl ⟨_, dL_heavyPaths_12, rfl, rfl⟩) (show 3 < 4 by decide) ?_
    refine ab_iconst O 1 dL_heavyPaths_13 rfl ?_
    exact ab_ireturnJ O J dL_heavyPaths_14 (by decide) (by decide) ⟨_, _, _, rfl, q⟩
  · intro r u hu
    obtain ⟨V1, rfl, h⟩ := hu
    refine ab_i2l O dL_heavyPaths_7 ?_
    refine ab_last O dL_heavyPaths_8 (at_72 _ _ _) (by unfold vp_in; decide) ?_
    refine ab_eq ?_ rfl rfl rfl (so_72 _ _ _ _).symm
    refine ab_goto O 15 dL_heavyPaths_9 rfl ?_
    refine ab_iconst O 0 dL_heavyPaths_15 rfl ?_
    exact ab_ireturnJ O J dL_heavyPaths_16 (by decide) (by decide) ⟨_, _, _, rfl, h⟩

def wp_L_isConnected (V : Mm) (a0 a1 : Int32) (o : Nat → Int64) (D : Nat → UInt64) (post : Int32 → Mm → (Nat → Int64) → (Nat → UInt64) → Prop) : Prop := wp_X8_isConnected V a0 a1 (fun (r : Int32) (V1 : Mm) => (r = 0 → post 0 V1 (vp_updL o 0 0) D) ∧ (¬ r = 0 → post 0 V1 (vp_updL o 0 1) D)) (fun (E : String) (V1 : Mm) => (E = "java/lang/IndexOutOfBoundsException" ∧ post 1 V1 o D))
set_option maxHeartbeats 4000000 in
theorem c_L_isConnected (d : Nat) (hd : 9 ≤ d) (l : Launch) (hl : l.stackTraces = false) (g : ab_G) (o : Nat → Int64) (D : Nat → UInt64) (a0 a1 : Int32) {V : Mm} {post : Int32 → Mm → (Nat → Int64) → (Nat → UInt64) → Prop} (h : wp_L_isConnected V a0 a1 o D post) : CtH l g tk_strs d 2 12 yL_isConnected cL_isConnected 5 (some .int) [(0, 17, 20, 21)] [.ref 0, .int a0, .int a1, .ref 72] (SW V o D) (tk_I g (fun r u => ∃ (V : Mm) (o : Nat → Int64) (D : Nat → UInt64), u = SW V o D ∧ post r V o D)) (fun _ _ => False) := by
  refine ct_inH (by decide +kernel) (show 4 ≤ 5 by decide) (by simp [Value.category]) hl (fun X J O => ?_)
  show Ab X g 0 0 _ 0 [some (.ref 0), some (.int a0), some (.int a1), some (.ref 72), none] [] _
  refine ab_aload_n O 3 dL_isConnected_0 rfl rfl ?_
  refine ab_iconst O 0 dL_isConnected_1 rfl ?_
  refine ab_aload_n O 0 dL_isConnected_2 rfl rfl ?_
  refine ab_iload_n O 1 dL_isConnected_3 rfl rfl ?_
  refine ab_iload_n O 2 dL_isConnected_4 rfl rfl ?_
  refine ab_callvI O J.2.2.2.2.2 (fr := False) (st := [.int 0, .ref 72]) lk_L_65 rfl (at_0 _ _ _) dL_isConnected_5 (c_X8_isConnected (d - 1) (by omega) _ O.2.2.2.2.2.2.1 _ _ _ _ _ h) rfl rfl ⟨by rw [J.2.1]; show d - 1 + 1 ≤ d; omega, by rw [J.2.1]; show 8 + (_ + 11) + 36 * (d - 1) ≤ 36 * d; omega⟩ (show 2 ≤ 8 by decide) ⟨by rw [J.2.1]; show 0 + 2 ≤ 2; decide, by rw [J.2.1]; show 0 + 12 ≤ 12; decide⟩ (fun q => q.elim) ?_ ?_
  · intro E u hu
    obtain ⟨V9, rfl, q⟩ := hu
    obtain ⟨rfl, q⟩ := q
    refine abx_catch O J [] [] rfl (fun z hz => by cases hz) ⟨by decide, by decide⟩ (by decide) cl_L_21 (by decide) (i := 4) (len := 2) (Or.inr ⟨dL_isConnected_20, rfl⟩) (show 4 < 5 by decide) ?_
    refine ab_iconst O 1 dL_isConnected_22 rfl ?_
    exact ab_ireturnJ O J dL_isConnected_23 (by decide) (by decide) ⟨_, _, _, rfl, q⟩
  · intro r u hu
    obtain ⟨V1, rfl, h⟩ := hu
    refine ab_if_eq O 15 dL_isConnected_8 rfl (fun q => ?_) (fun q => ?_)
    · have h := h.1 q
      refine ab_lconst O 0 dL_isConnected_15 rfl ?_
      refine ab_last O dL_isConnected_16 (at_72 _ _ _) (by unfold vp_in; decide) ?_
      refine ab_eq ?_ rfl rfl rfl (so_72 _ _ _ _).symm
      refine ab_goto O 24 dL_isConnected_17 rfl ?_
      refine ab_iconst O 0 dL_isConnected_24 rfl ?_
      exact ab_ireturnJ O J dL_isConnected_25 (by decide) (by decide) ⟨_, _, _, rfl, h⟩
    · have h := h.2 q
      refine ab_lconst O 1 dL_isConnected_11 rfl ?_
      refine ab_goto O 16 dL_isConnected_12 rfl ?_
      refine ab_last O dL_isConnected_16 (at_72 _ _ _) (by unfold vp_in; decide) ?_
      refine ab_eq ?_ rfl rfl rfl (so_72 _ _ _ _).symm
      refine ab_goto O 24 dL_isConnected_17 rfl ?_
      refine ab_iconst O 0 dL_isConnected_24 rfl ?_
      exact ab_ireturnJ O J dL_isConnected_25 (by decide) (by decide) ⟨_, _, _, rfl, h⟩

def wp_L_isConnectedByWalk (V : Mm) (a0 a1 : Int32) (o : Nat → Int64) (D : Nat → UInt64) (post : Int32 → Mm → (Nat → Int64) → (Nat → UInt64) → Prop) : Prop := wp_X8_isConnectedByWalk V a0 a1 (fun (r : Int32) (V1 : Mm) => (r = 0 → post 0 V1 (vp_updL o 0 0) D) ∧ (¬ r = 0 → post 0 V1 (vp_updL o 0 1) D)) (fun (E : String) (V1 : Mm) => (E = "java/lang/IndexOutOfBoundsException" ∧ post 1 V1 o D))
set_option maxHeartbeats 4000000 in
theorem c_L_isConnectedByWalk (d : Nat) (hd : 9 ≤ d) (l : Launch) (hl : l.stackTraces = false) (g : ab_G) (o : Nat → Int64) (D : Nat → UInt64) (a0 a1 : Int32) {V : Mm} {post : Int32 → Mm → (Nat → Int64) → (Nat → UInt64) → Prop} (h : wp_L_isConnectedByWalk V a0 a1 o D post) : CtH l g tk_strs d 2 12 yL_isConnectedByWalk cL_isConnectedByWalk 5 (some .int) [(0, 17, 20, 21)] [.ref 0, .int a0, .int a1, .ref 72] (SW V o D) (tk_I g (fun r u => ∃ (V : Mm) (o : Nat → Int64) (D : Nat → UInt64), u = SW V o D ∧ post r V o D)) (fun _ _ => False) := by
  refine ct_inH (by decide +kernel) (show 4 ≤ 5 by decide) (by simp [Value.category]) hl (fun X J O => ?_)
  show Ab X g 0 0 _ 0 [some (.ref 0), some (.int a0), some (.int a1), some (.ref 72), none] [] _
  refine ab_aload_n O 3 dL_isConnectedByWalk_0 rfl rfl ?_
  refine ab_iconst O 0 dL_isConnectedByWalk_1 rfl ?_
  refine ab_aload_n O 0 dL_isConnectedByWalk_2 rfl rfl ?_
  refine ab_iload_n O 1 dL_isConnectedByWalk_3 rfl rfl ?_
  refine ab_iload_n O 2 dL_isConnectedByWalk_4 rfl rfl ?_
  refine ab_callvI O J.2.2.2.2.2 (fr := False) (st := [.int 0, .ref 72]) lk_L_69 rfl (at_0 _ _ _) dL_isConnectedByWalk_5 (c_X8_isConnectedByWalk (d - 1) (by omega) _ O.2.2.2.2.2.2.1 _ _ _ _ _ h) rfl rfl ⟨by rw [J.2.1]; show d - 1 + 1 ≤ d; omega, by rw [J.2.1]; show 8 + (_ + 11) + 36 * (d - 1) ≤ 36 * d; omega⟩ (show 2 ≤ 8 by decide) ⟨by rw [J.2.1]; show 0 + 2 ≤ 2; decide, by rw [J.2.1]; show 0 + 12 ≤ 12; decide⟩ (fun q => q.elim) ?_ ?_
  · intro E u hu
    obtain ⟨V9, rfl, q⟩ := hu
    obtain ⟨rfl, q⟩ := q
    refine abx_catch O J [] [] rfl (fun z hz => by cases hz) ⟨by decide, by decide⟩ (by decide) cl_L_21 (by decide) (i := 4) (len := 2) (Or.inr ⟨dL_isConnectedByWalk_20, rfl⟩) (show 4 < 5 by decide) ?_
    refine ab_iconst O 1 dL_isConnectedByWalk_22 rfl ?_
    exact ab_ireturnJ O J dL_isConnectedByWalk_23 (by decide) (by decide) ⟨_, _, _, rfl, q⟩
  · intro r u hu
    obtain ⟨V1, rfl, h⟩ := hu
    refine ab_if_eq O 15 dL_isConnectedByWalk_8 rfl (fun q => ?_) (fun q => ?_)
    · have h := h.1 q
      refine ab_lconst O 0 dL_isConnectedByWalk_15 rfl ?_
      refine ab_last O dL_isConnectedByWalk_16 (at_72 _ _ _) (by unfold vp_in; decide) ?_
      refine ab_eq ?_ rfl rfl rfl (so_72 _ _ _ _).symm
      refine ab_goto O 24 dL_isConnectedByWalk_17 rfl ?_
      refine ab_iconst O 0 dL_isConnectedByWalk_24 rfl ?_
      exact ab_ireturnJ O J dL_isConnectedByWalk_25 (by decide) (by decide) ⟨_, _, _, rfl, h⟩
    · have h := h.2 q
      refine ab_lconst O 1 dL_isConnectedByWalk_11 rfl ?_
      refine ab_goto O 16 dL_isConnectedByWalk_12 rfl ?_
      refine ab_last O dL_isConnectedByWalk_16 (at_72 _ _ _) (by unfold vp_in; decide) ?_
      refine ab_eq ?_ rfl rfl rfl (so_72 _ _ _ _).symm
      refine ab_goto O 24 dL_isConnectedByWalk_17 rfl ?_
      refine ab_iconst O 0 dL_isConnectedByWalk_24 rfl ?_
      exact ab_ireturnJ O J dL_isConnectedByWalk_25 (by decide) (by decide) ⟨_, _, _, rfl, h⟩

def wp_L_last (V : Mm) (a0 a1 : Int32) (o : Nat → Int64) (D : Nat → UInt64) (post : Int32 → Mm → (Nat → Int64) → (Nat → UInt64) → Prop) : Prop := wp_X8_last V a0 a1 (fun (r : Int32) (V1 : Mm) => post 0 V1 (vp_updL o 0 r.toInt64) D) (fun (E : String) (V1 : Mm) => (E = "java/lang/IndexOutOfBoundsException" ∧ post 1 V1 o D) ∨ (E = "java/util/NoSuchElementException" ∧ post 2 V1 o D) ∨ (E = "java/lang/UnsupportedOperationException" ∧ post 3 V1 o D))
set_option maxHeartbeats 4000000 in
theorem c_L_last (d : Nat) (hd : 9 ≤ d) (l : Launch) (hl : l.stackTraces = false) (g : ab_G) (o : Nat → Int64) (D : Nat → UInt64) (a0 a1 : Int32) {V : Mm} {post : Int32 → Mm → (Nat → Int64) → (Nat → UInt64) → Prop} (h : wp_L_last V a0 a1 o D post) : CtH l g tk_strs d 4 24 yL_last cL_last 5 (some .int) [(0, 10, 13, 21), (0, 10, 17, 38), (0, 10, 21, 27)] [.ref 0, .int a0, .int a1, .ref 72] (SW V o D) (tk_I g (fun r u => ∃ (V : Mm) (o : Nat → Int64) (D : Nat → UInt64), u = SW V o D ∧ post r V o D)) (fun _ _ => False) := by
  refine ct_inH (by decide +kernel) (show 4 ≤ 5 by decide) (by simp [Value.category]) hl (fun X J O => ?_)
  show Ab X g 0 0 _ 0 [some (.ref 0), some (.int a0), some (.int a1), some (.ref 72), none] [] _
  refine ab_aload_n O 3 dL_last_0 rfl rfl ?_
  refine ab_iconst O 0 dL_last_1 rfl ?_
  refine ab_aload_n O 0 dL_last_2 rfl rfl ?_
  refine ab_iload_n O 1 dL_last_3 rfl rfl ?_
  refine ab_iload_n O 2 dL_last_4 rfl rfl ?_
  refine ab_callvI O J.2.2.2.2.2 (fr := False) (st := [.int 0, .ref 72]) lk_L_93 rfl (at_0 _ _ _) dL_last_5 (c_X8_last (d - 1) (by omega) _ O.2.2.2.2.2.2.1 _ _ _ _ _ h) rfl rfl ⟨by rw [J.2.1]; show d - 1 + 1 ≤ d; omega, by rw [J.2.1]; show 8 + (_ + 11) + 36 * (d - 1) ≤ 36 * d; omega⟩ (show 2 ≤ 8 by decide) ⟨by rw [J.2.1]; show 0 + 4 ≤ 4; decide, by rw [J.2.1]; show 0 + 24 ≤ 24; decide⟩ (fun q => q.elim) ?_ ?_
  · intro E u hu
    obtain ⟨V9, rfl, q⟩ := hu
    rcases q with ⟨rfl, q⟩ | ⟨rfl, q⟩ | ⟨rfl, q⟩
    · refine abx_catch O J [] [(0, 10, 17, 38), (0, 10, 21, 27)] rfl (fun z hz => by cases hz) ⟨by decide, by decide⟩ (by decide) cl_L_21 (by decide) (i := 4) (len := 2) (Or.inr ⟨dL_last_13, rfl⟩) (show 4 < 5 by decide) ?_
      refine ab_iconst O 1 dL_last_15 rfl ?_
      exact ab_ireturnJ O J dL_last_16 (by decide) (by decide) ⟨_, _, _, rfl, q⟩
    · refine abx_catch O J [(0, 10, 13, 21)] [(0, 10, 21, 27)] rfl (fun z hz => by
        simp only [List.mem_cons, List.not_mem_nil, or_false] at hz
        rcases hz with rfl
        · exact ⟨by decide, "java/lang/IndexOutOfBoundsException", by decide, cl_L_21, by decide⟩) ⟨by decide, by decide⟩ (by decide) cl_L_38 (by decide) (i := 4) (len := 2) (Or.inr ⟨dL_last_17, rfl⟩) (show 4 < 5 by decide) ?_
      refine ab_iconst O 2 dL_last_19 rfl ?_
      exact ab_ireturnJ O J dL_last_20 (by decide) (by decide) ⟨_, _, _, rfl, q⟩
    · refine abx_catch O J [(0, 10, 13, 21), (0, 10, 17, 38)] [] rfl (fun z hz => by
        simp only [List.mem_cons, List.not_mem_nil, or_false] at hz
        rcases hz with rfl | rfl
        · exact ⟨by decide, "java/lang/IndexOutOfBoundsException", by decide, cl_L_21, by decide⟩
        · exact ⟨by decide, "java/util/NoSuchElementException", by decide, cl_L_38, by decide⟩) ⟨by decide, by decide⟩ (by decide) cl_L_27 (by decide) (i := 4) (len := 2) (Or.inr ⟨dL_last_21, rfl⟩) (show 4 < 5 by decide) ?_
      refine ab_iconst O 3 dL_last_23 rfl ?_
      exact ab_ireturnJ O J dL_last_24 (by decide) (by decide) ⟨_, _, _, rfl, q⟩
  · intro r u hu
    obtain ⟨V1, rfl, h⟩ := hu
    refine ab_i2l O dL_last_8 ?_
    refine ab_last O dL_last_9 (at_72 _ _ _) (by unfold vp_in; decide) ?_
    refine ab_eq ?_ rfl rfl rfl (so_72 _ _ _ _).symm
    refine ab_goto O 25 dL_last_10 rfl ?_
    refine ab_iconst O 0 dL_last_25 rfl ?_
    exact ab_ireturnJ O J dL_last_26 (by decide) (by decide) ⟨_, _, _, rfl, h⟩

def wp_L_lastByWalk (V : Mm) (a0 a1 : Int32) (o : Nat → Int64) (D : Nat → UInt64) (post : Int32 → Mm → (Nat → Int64) → (Nat → UInt64) → Prop) : Prop := wp_X8_lastByWalk V a0 a1 (fun (r : Int32) (V1 : Mm) => post 0 V1 (vp_updL o 0 r.toInt64) D) (fun (E : String) (V1 : Mm) => (E = "java/lang/IndexOutOfBoundsException" ∧ post 1 V1 o D) ∨ (E = "java/util/NoSuchElementException" ∧ post 2 V1 o D) ∨ (E = "java/lang/UnsupportedOperationException" ∧ post 3 V1 o D))
set_option maxHeartbeats 4000000 in
theorem c_L_lastByWalk (d : Nat) (hd : 9 ≤ d) (l : Launch) (hl : l.stackTraces = false) (g : ab_G) (o : Nat → Int64) (D : Nat → UInt64) (a0 a1 : Int32) {V : Mm} {post : Int32 → Mm → (Nat → Int64) → (Nat → UInt64) → Prop} (h : wp_L_lastByWalk V a0 a1 o D post) : CtH l g tk_strs d 4 24 yL_lastByWalk cL_lastByWalk 5 (some .int) [(0, 10, 13, 21), (0, 10, 17, 38), (0, 10, 21, 27)] [.ref 0, .int a0, .int a1, .ref 72] (SW V o D) (tk_I g (fun r u => ∃ (V : Mm) (o : Nat → Int64) (D : Nat → UInt64), u = SW V o D ∧ post r V o D)) (fun _ _ => False) := by
  refine ct_inH (by decide +kernel) (show 4 ≤ 5 by decide) (by simp [Value.category]) hl (fun X J O => ?_)
  show Ab X g 0 0 _ 0 [some (.ref 0), some (.int a0), some (.int a1), some (.ref 72), none] [] _
  refine ab_aload_n O 3 dL_lastByWalk_0 rfl rfl ?_
  refine ab_iconst O 0 dL_lastByWalk_1 rfl ?_
  refine ab_aload_n O 0 dL_lastByWalk_2 rfl rfl ?_
  refine ab_iload_n O 1 dL_lastByWalk_3 rfl rfl ?_
  refine ab_iload_n O 2 dL_lastByWalk_4 rfl rfl ?_
  refine ab_callvI O J.2.2.2.2.2 (fr := False) (st := [.int 0, .ref 72]) lk_L_96 rfl (at_0 _ _ _) dL_lastByWalk_5 (c_X8_lastByWalk (d - 1) (by omega) _ O.2.2.2.2.2.2.1 _ _ _ _ _ h) rfl rfl ⟨by rw [J.2.1]; show d - 1 + 1 ≤ d; omega, by rw [J.2.1]; show 8 + (_ + 11) + 36 * (d - 1) ≤ 36 * d; omega⟩ (show 2 ≤ 8 by decide) ⟨by rw [J.2.1]; show 0 + 4 ≤ 4; decide, by rw [J.2.1]; show 0 + 24 ≤ 24; decide⟩ (fun q => q.elim) ?_ ?_
  · intro E u hu
    obtain ⟨V9, rfl, q⟩ := hu
    rcases q with ⟨rfl, q⟩ | ⟨rfl, q⟩ | ⟨rfl, q⟩
    · refine abx_catch O J [] [(0, 10, 17, 38), (0, 10, 21, 27)] rfl (fun z hz => by cases hz) ⟨by decide, by decide⟩ (by decide) cl_L_21 (by decide) (i := 4) (len := 2) (Or.inr ⟨dL_lastByWalk_13, rfl⟩) (show 4 < 5 by decide) ?_
      refine ab_iconst O 1 dL_lastByWalk_15 rfl ?_
      exact ab_ireturnJ O J dL_lastByWalk_16 (by decide) (by decide) ⟨_, _, _, rfl, q⟩
    · refine abx_catch O J [(0, 10, 13, 21)] [(0, 10, 21, 27)] rfl (fun z hz => by
        simp only [List.mem_cons, List.not_mem_nil, or_false] at hz
        rcases hz with rfl
        · exact ⟨by decide, "java/lang/IndexOutOfBoundsException", by decide, cl_L_21, by decide⟩) ⟨by decide, by decide⟩ (by decide) cl_L_38 (by decide) (i := 4) (len := 2) (Or.inr ⟨dL_lastByWalk_17, rfl⟩) (show 4 < 5 by decide) ?_
      refine ab_iconst O 2 dL_lastByWalk_19 rfl ?_
      exact ab_ireturnJ O J dL_lastByWalk_20 (by decide) (by decide) ⟨_, _, _, rfl, q⟩
    · refine abx_catch O J [(0, 10, 13, 21), (0, 10, 17, 38)] [] rfl (fun z hz => by
        simp only [List.mem_cons, List.not_mem_nil, or_false] at hz
        rcases hz with rfl | rfl
        · exact ⟨by decide, "java/lang/IndexOutOfBoundsException", by decide, cl_L_21, by decide⟩
        · exact ⟨by decide, "java/util/NoSuchElementException", by decide, cl_L_38, by decide⟩) ⟨by decide, by decide⟩ (by decide) cl_L_27 (by decide) (i := 4) (len := 2) (Or.inr ⟨dL_lastByWalk_21, rfl⟩) (show 4 < 5 by decide) ?_
      refine ab_iconst O 3 dL_lastByWalk_23 rfl ?_
      exact ab_ireturnJ O J dL_lastByWalk_24 (by decide) (by decide) ⟨_, _, _, rfl, q⟩
  · intro r u hu
    obtain ⟨V1, rfl, h⟩ := hu
    refine ab_i2l O dL_lastByWalk_8 ?_
    refine ab_last O dL_lastByWalk_9 (at_72 _ _ _) (by unfold vp_in; decide) ?_
    refine ab_eq ?_ rfl rfl rfl (so_72 _ _ _ _).symm
    refine ab_goto O 25 dL_lastByWalk_10 rfl ?_
    refine ab_iconst O 0 dL_lastByWalk_25 rfl ?_
    exact ab_ireturnJ O J dL_lastByWalk_26 (by decide) (by decide) ⟨_, _, _, rfl, h⟩

def wp_L_lightEdges (V : Mm) (a0 a1 : Int32) (o : Nat → Int64) (D : Nat → UInt64) (post : Int32 → Mm → (Nat → Int64) → (Nat → UInt64) → Prop) : Prop := wp_X8_lightEdges V a0 a1 (fun (r : Int32) (V1 : Mm) => post 0 V1 (vp_updL o 0 r.toInt64) D) (fun (E : String) (V1 : Mm) => (E = "java/lang/IndexOutOfBoundsException" ∧ post 1 V1 o D) ∨ (E = "java/util/NoSuchElementException" ∧ post 2 V1 o D))
set_option maxHeartbeats 4000000 in
theorem c_L_lightEdges (d : Nat) (hd : 9 ≤ d) (l : Launch) (hl : l.stackTraces = false) (g : ab_G) (o : Nat → Int64) (D : Nat → UInt64) (a0 a1 : Int32) {V : Mm} {post : Int32 → Mm → (Nat → Int64) → (Nat → UInt64) → Prop} (h : wp_L_lightEdges V a0 a1 o D post) : CtH l g tk_strs d 3 18 yL_lightEdges cL_lightEdges 5 (some .int) [(0, 10, 13, 21), (0, 10, 17, 38)] [.ref 0, .int a0, .int a1, .ref 72] (SW V o D) (tk_I g (fun r u => ∃ (V : Mm) (o : Nat → Int64) (D : Nat → UInt64), u = SW V o D ∧ post r V o D)) (fun _ _ => False) := by
  refine ct_inH (by decide +kernel) (show 4 ≤ 5 by decide) (by simp [Value.category]) hl (fun X J O => ?_)
  show Ab X g 0 0 _ 0 [some (.ref 0), some (.int a0), some (.int a1), some (.ref 72), none] [] _
  refine ab_aload_n O 3 dL_lightEdges_0 rfl rfl ?_
  refine ab_iconst O 0 dL_lightEdges_1 rfl ?_
  refine ab_aload_n O 0 dL_lightEdges_2 rfl rfl ?_
  refine ab_iload_n O 1 dL_lightEdges_3 rfl rfl ?_
  refine ab_iload_n O 2 dL_lightEdges_4 rfl rfl ?_
  refine ab_callvI O J.2.2.2.2.2 (fr := False) (st := [.int 0, .ref 72]) lk_L_136 rfl (at_0 _ _ _) dL_lightEdges_5 (c_X8_lightEdges (d - 1) (by omega) _ O.2.2.2.2.2.2.1 _ _ _ _ _ h) rfl rfl ⟨by rw [J.2.1]; show d - 1 + 1 ≤ d; omega, by rw [J.2.1]; show 8 + (_ + 11) + 36 * (d - 1) ≤ 36 * d; omega⟩ (show 2 ≤ 8 by decide) ⟨by rw [J.2.1]; show 0 + 3 ≤ 3; decide, by rw [J.2.1]; show 0 + 18 ≤ 18; decide⟩ (fun q => q.elim) ?_ ?_
  · intro E u hu
    obtain ⟨V9, rfl, q⟩ := hu
    rcases q with ⟨rfl, q⟩ | ⟨rfl, q⟩
    · refine abx_catch O J [] [(0, 10, 17, 38)] rfl (fun z hz => by cases hz) ⟨by decide, by decide⟩ (by decide) cl_L_21 (by decide) (i := 4) (len := 2) (Or.inr ⟨dL_lightEdges_13, rfl⟩) (show 4 < 5 by decide) ?_
      refine ab_iconst O 1 dL_lightEdges_15 rfl ?_
      exact ab_ireturnJ O J dL_lightEdges_16 (by decide) (by decide) ⟨_, _, _, rfl, q⟩
    · refine abx_catch O J [(0, 10, 13, 21)] [] rfl (fun z hz => by
        simp only [List.mem_cons, List.not_mem_nil, or_false] at hz
        rcases hz with rfl
        · exact ⟨by decide, "java/lang/IndexOutOfBoundsException", by decide, cl_L_21, by decide⟩) ⟨by decide, by decide⟩ (by decide) cl_L_38 (by decide) (i := 4) (len := 2) (Or.inr ⟨dL_lightEdges_17, rfl⟩) (show 4 < 5 by decide) ?_
      refine ab_iconst O 2 dL_lightEdges_19 rfl ?_
      exact ab_ireturnJ O J dL_lightEdges_20 (by decide) (by decide) ⟨_, _, _, rfl, q⟩
  · intro r u hu
    obtain ⟨V1, rfl, h⟩ := hu
    refine ab_i2l O dL_lightEdges_8 ?_
    refine ab_last O dL_lightEdges_9 (at_72 _ _ _) (by unfold vp_in; decide) ?_
    refine ab_eq ?_ rfl rfl rfl (so_72 _ _ _ _).symm
    refine ab_goto O 21 dL_lightEdges_10 rfl ?_
    refine ab_iconst O 0 dL_lightEdges_21 rfl ?_
    exact ab_ireturnJ O J dL_lightEdges_22 (by decide) (by decide) ⟨_, _, _, rfl, h⟩

def wp_L_lightest (V : Mm) (a0 a1 : Int32) (o : Nat → Int64) (D : Nat → UInt64) (post : Int32 → Mm → (Nat → Int64) → (Nat → UInt64) → Prop) : Prop := wp_X8_lightest V a0 a1 (fun (r : Int32) (V1 : Mm) => post 0 V1 (vp_updL o 0 r.toInt64) D) (fun (E : String) (V1 : Mm) => (E = "java/lang/IndexOutOfBoundsException" ∧ post 1 V1 o D) ∨ (E = "java/util/NoSuchElementException" ∧ post 2 V1 o D))
set_option maxHeartbeats 4000000 in
theorem c_L_lightest (d : Nat) (hd : 9 ≤ d) (l : Launch) (hl : l.stackTraces = false) (g : ab_G) (o : Nat → Int64) (D : Nat → UInt64) (a0 a1 : Int32) {V : Mm} {post : Int32 → Mm → (Nat → Int64) → (Nat → UInt64) → Prop} (h : wp_L_lightest V a0 a1 o D post) : CtH l g tk_strs d 3 18 yL_lightest cL_lightest 5 (some .int) [(0, 10, 13, 21), (0, 10, 17, 38)] [.ref 0, .int a0, .int a1, .ref 72] (SW V o D) (tk_I g (fun r u => ∃ (V : Mm) (o : Nat → Int64) (D : Nat → UInt64), u = SW V o D ∧ post r V o D)) (fun _ _ => False) := by
  refine ct_inH (by decide +kernel) (show 4 ≤ 5 by decide) (by simp [Value.category]) hl (fun X J O => ?_)
  show Ab X g 0 0 _ 0 [some (.ref 0), some (.int a0), some (.int a1), some (.ref 72), none] [] _
  refine ab_aload_n O 3 dL_lightest_0 rfl rfl ?_
  refine ab_iconst O 0 dL_lightest_1 rfl ?_
  refine ab_aload_n O 0 dL_lightest_2 rfl rfl ?_
  refine ab_iload_n O 1 dL_lightest_3 rfl rfl ?_
  refine ab_iload_n O 2 dL_lightest_4 rfl rfl ?_
  refine ab_callvI O J.2.2.2.2.2 (fr := False) (st := [.int 0, .ref 72]) lk_L_56 rfl (at_0 _ _ _) dL_lightest_5 (c_X8_lightest (d - 1) (by omega) _ O.2.2.2.2.2.2.1 _ _ _ _ _ h) rfl rfl ⟨by rw [J.2.1]; show d - 1 + 1 ≤ d; omega, by rw [J.2.1]; show 8 + (_ + 11) + 36 * (d - 1) ≤ 36 * d; omega⟩ (show 2 ≤ 8 by decide) ⟨by rw [J.2.1]; show 0 + 3 ≤ 3; decide, by rw [J.2.1]; show 0 + 18 ≤ 18; decide⟩ (fun q => q.elim) ?_ ?_
  · intro E u hu
    obtain ⟨V9, rfl, q⟩ := hu
    rcases q with ⟨rfl, q⟩ | ⟨rfl, q⟩
    · refine abx_catch O J [] [(0, 10, 17, 38)] rfl (fun z hz => by cases hz) ⟨by decide, by decide⟩ (by decide) cl_L_21 (by decide) (i := 4) (len := 2) (Or.inr ⟨dL_lightest_13, rfl⟩) (show 4 < 5 by decide) ?_
      refine ab_iconst O 1 dL_lightest_15 rfl ?_
      exact ab_ireturnJ O J dL_lightest_16 (by decide) (by decide) ⟨_, _, _, rfl, q⟩
    · refine abx_catch O J [(0, 10, 13, 21)] [] rfl (fun z hz => by
        simp only [List.mem_cons, List.not_mem_nil, or_false] at hz
        rcases hz with rfl
        · exact ⟨by decide, "java/lang/IndexOutOfBoundsException", by decide, cl_L_21, by decide⟩) ⟨by decide, by decide⟩ (by decide) cl_L_38 (by decide) (i := 4) (len := 2) (Or.inr ⟨dL_lightest_17, rfl⟩) (show 4 < 5 by decide) ?_
      refine ab_iconst O 2 dL_lightest_19 rfl ?_
      exact ab_ireturnJ O J dL_lightest_20 (by decide) (by decide) ⟨_, _, _, rfl, q⟩
  · intro r u hu
    obtain ⟨V1, rfl, h⟩ := hu
    refine ab_i2l O dL_lightest_8 ?_
    refine ab_last O dL_lightest_9 (at_72 _ _ _) (by unfold vp_in; decide) ?_
    refine ab_eq ?_ rfl rfl rfl (so_72 _ _ _ _).symm
    refine ab_goto O 21 dL_lightest_10 rfl ?_
    refine ab_iconst O 0 dL_lightest_21 rfl ?_
    exact ab_ireturnJ O J dL_lightest_22 (by decide) (by decide) ⟨_, _, _, rfl, h⟩

def wp_L_mean (V : Mm) (a0 a1 : Int32) (o : Nat → Int64) (D : Nat → UInt64) (post : Int32 → Mm → (Nat → Int64) → (Nat → UInt64) → Prop) : Prop := wp_X8_mean V a0 a1 (fun (r : UInt32) (V1 : Mm) => vf_n64 (FP.f2d r) ∧ post 0 V1 o (vf_upd D 0 (FP.f2d r))) (fun (E : String) (V1 : Mm) => (E = "java/lang/IndexOutOfBoundsException" ∧ post 1 V1 o D) ∨ (E = "java/util/NoSuchElementException" ∧ post 2 V1 o D))
set_option maxHeartbeats 4000000 in
theorem c_L_mean (d : Nat) (hd : 9 ≤ d) (l : Launch) (hl : l.stackTraces = false) (g : ab_G) (o : Nat → Int64) (D : Nat → UInt64) (a0 a1 : Int32) {V : Mm} {post : Int32 → Mm → (Nat → Int64) → (Nat → UInt64) → Prop} (h : wp_L_mean V a0 a1 o D post) : CtH l g tk_strs d 3 18 yL_mean cL_mean 5 (some .int) [(0, 10, 13, 21), (0, 10, 17, 38)] [.ref 0, .int a0, .int a1, .ref 73] (SW V o D) (tk_I g (fun r u => ∃ (V : Mm) (o : Nat → Int64) (D : Nat → UInt64), u = SW V o D ∧ post r V o D)) (fun _ _ => False) := by
  refine ct_inH (by decide +kernel) (show 4 ≤ 5 by decide) (by simp [Value.category]) hl (fun X J O => ?_)
  show Ab X g 0 0 _ 0 [some (.ref 0), some (.int a0), some (.int a1), some (.ref 73), none] [] _
  refine ab_aload_n O 3 dL_mean_0 rfl rfl ?_
  refine ab_iconst O 0 dL_mean_1 rfl ?_
  refine ab_aload_n O 0 dL_mean_2 rfl rfl ?_
  refine ab_iload_n O 1 dL_mean_3 rfl rfl ?_
  refine ab_iload_n O 2 dL_mean_4 rfl rfl ?_
  refine ab_callvF O J.2.2.2.2.2 (fr := False) (st := [.int 0, .ref 73]) lk_L_99 rfl (at_0 _ _ _) dL_mean_5 (c_X8_mean (d - 1) (by omega) _ O.2.2.2.2.2.2.1 _ _ _ _ _ h) rfl rfl ⟨by rw [J.2.1]; show d - 1 + 1 ≤ d; omega, by rw [J.2.1]; show 8 + (_ + 11) + 36 * (d - 1) ≤ 36 * d; omega⟩ (show 2 ≤ 8 by decide) ⟨by rw [J.2.1]; show 0 + 3 ≤ 3; decide, by rw [J.2.1]; show 0 + 18 ≤ 18; decide⟩ (fun q => q.elim) ?_ ?_
  · intro E u hu
    obtain ⟨V9, rfl, q⟩ := hu
    rcases q with ⟨rfl, q⟩ | ⟨rfl, q⟩
    · refine abx_catch O J [] [(0, 10, 17, 38)] rfl (fun z hz => by cases hz) ⟨by decide, by decide⟩ (by decide) cl_L_21 (by decide) (i := 4) (len := 2) (Or.inr ⟨dL_mean_13, rfl⟩) (show 4 < 5 by decide) ?_
      refine ab_iconst O 1 dL_mean_15 rfl ?_
      exact ab_ireturnJ O J dL_mean_16 (by decide) (by decide) ⟨_, _, _, rfl, q⟩
    · refine abx_catch O J [(0, 10, 13, 21)] [] rfl (fun z hz => by
        simp only [List.mem_cons, List.not_mem_nil, or_false] at hz
        rcases hz with rfl
        · exact ⟨by decide, "java/lang/IndexOutOfBoundsException", by decide, cl_L_21, by decide⟩) ⟨by decide, by decide⟩ (by decide) cl_L_38 (by decide) (i := 4) (len := 2) (Or.inr ⟨dL_mean_17, rfl⟩) (show 4 < 5 by decide) ?_
      refine ab_iconst O 2 dL_mean_19 rfl ?_
      exact ab_ireturnJ O J dL_mean_20 (by decide) (by decide) ⟨_, _, _, rfl, q⟩
  · intro r u hu
    obtain ⟨V1, rfl, h⟩ := hu
    refine ab_f2d O dL_mean_8 h.1 ?_
    have h := h.2
    refine ab_dast O dL_mean_9 (at_73 _ _ _) (by unfold vp_in; decide) ?_
    refine ab_eq ?_ rfl rfl rfl (so_73 _ _ _ _).symm
    refine ab_goto O 21 dL_mean_10 rfl ?_
    refine ab_iconst O 0 dL_mean_21 rfl ?_
    exact ab_ireturnJ O J dL_mean_22 (by decide) (by decide) ⟨_, _, _, rfl, h⟩

def wp_L_neighbour (V : Mm) (a0 a1 : Int32) (o : Nat → Int64) (D : Nat → UInt64) (post : Int32 → Mm → (Nat → Int64) → (Nat → UInt64) → Prop) : Prop := wp_X8_neighbour V a0 a1 (fun (r : Int32) (V1 : Mm) => post 0 V1 (vp_updL o 0 r.toInt64) D) (fun (E : String) (V1 : Mm) => (E = "java/lang/IndexOutOfBoundsException" ∧ post 1 V1 o D) ∨ (E = "java/util/NoSuchElementException" ∧ post 2 V1 o D))
set_option maxHeartbeats 4000000 in
theorem c_L_neighbour (d : Nat) (hd : 8 ≤ d) (l : Launch) (hl : l.stackTraces = false) (g : ab_G) (o : Nat → Int64) (D : Nat → UInt64) (a0 a1 : Int32) {V : Mm} {post : Int32 → Mm → (Nat → Int64) → (Nat → UInt64) → Prop} (h : wp_L_neighbour V a0 a1 o D post) : CtH l g tk_strs d 2 12 yL_neighbour cL_neighbour 5 (some .int) [(0, 10, 13, 21), (0, 10, 17, 38)] [.ref 0, .int a0, .int a1, .ref 72] (SW V o D) (tk_I g (fun r u => ∃ (V : Mm) (o : Nat → Int64) (D : Nat → UInt64), u = SW V o D ∧ post r V o D)) (fun _ _ => False) := by
  refine ct_inH (by decide +kernel) (show 4 ≤ 5 by decide) (by simp [Value.category]) hl (fun X J O => ?_)
  show Ab X g 0 0 _ 0 [some (.ref 0), some (.int a0), some (.int a1), some (.ref 72), none] [] _
  refine ab_aload_n O 3 dL_neighbour_0 rfl rfl ?_
  refine ab_iconst O 0 dL_neighbour_1 rfl ?_
  refine ab_aload_n O 0 dL_neighbour_2 rfl rfl ?_
  refine ab_iload_n O 1 dL_neighbour_3 rfl rfl ?_
  refine ab_iload_n O 2 dL_neighbour_4 rfl rfl ?_
  refine ab_callvI O J.2.2.2.2.2 (fr := False) (st := [.int 0, .ref 72]) lk_L_62 rfl (at_0 _ _ _) dL_neighbour_5 (c_X8_neighbour (d - 1) (by omega) _ O.2.2.2.2.2.2.1 _ _ _ _ _ h) rfl rfl ⟨by rw [J.2.1]; show d - 1 + 1 ≤ d; omega, by rw [J.2.1]; show 8 + (_ + 11) + 36 * (d - 1) ≤ 36 * d; omega⟩ (show 2 ≤ 8 by decide) ⟨by rw [J.2.1]; show 0 + 2 ≤ 2; decide, by rw [J.2.1]; show 0 + 12 ≤ 12; decide⟩ (fun q => q.elim) ?_ ?_
  · intro E u hu
    obtain ⟨V9, rfl, q⟩ := hu
    rcases q with ⟨rfl, q⟩ | ⟨rfl, q⟩
    · refine abx_catch O J [] [(0, 10, 17, 38)] rfl (fun z hz => by cases hz) ⟨by decide, by decide⟩ (by decide) cl_L_21 (by decide) (i := 4) (len := 2) (Or.inr ⟨dL_neighbour_13, rfl⟩) (show 4 < 5 by decide) ?_
      refine ab_iconst O 1 dL_neighbour_15 rfl ?_
      exact ab_ireturnJ O J dL_neighbour_16 (by decide) (by decide) ⟨_, _, _, rfl, q⟩
    · refine abx_catch O J [(0, 10, 13, 21)] [] rfl (fun z hz => by
        simp only [List.mem_cons, List.not_mem_nil, or_false] at hz
        rcases hz with rfl
        · exact ⟨by decide, "java/lang/IndexOutOfBoundsException", by decide, cl_L_21, by decide⟩) ⟨by decide, by decide⟩ (by decide) cl_L_38 (by decide) (i := 4) (len := 2) (Or.inr ⟨dL_neighbour_17, rfl⟩) (show 4 < 5 by decide) ?_
      refine ab_iconst O 2 dL_neighbour_19 rfl ?_
      exact ab_ireturnJ O J dL_neighbour_20 (by decide) (by decide) ⟨_, _, _, rfl, q⟩
  · intro r u hu
    obtain ⟨V1, rfl, h⟩ := hu
    refine ab_i2l O dL_neighbour_8 ?_
    refine ab_last O dL_neighbour_9 (at_72 _ _ _) (by unfold vp_in; decide) ?_
    refine ab_eq ?_ rfl rfl rfl (so_72 _ _ _ _).symm
    refine ab_goto O 21 dL_neighbour_10 rfl ?_
    refine ab_iconst O 0 dL_neighbour_21 rfl ?_
    exact ab_ireturnJ O J dL_neighbour_22 (by decide) (by decide) ⟨_, _, _, rfl, h⟩

def wp_L_otherEnd (V : Mm) (a0 a1 : Int32) (o : Nat → Int64) (D : Nat → UInt64) (post : Int32 → Mm → (Nat → Int64) → (Nat → UInt64) → Prop) : Prop := wp_X8_otherEnd V a0 a1 (fun (r : Int32) (V1 : Mm) => post 0 V1 (vp_updL o 0 r.toInt64) D) (fun (E : String) (V1 : Mm) => (E = "java/lang/IndexOutOfBoundsException" ∧ post 1 V1 o D) ∨ (E = "java/util/NoSuchElementException" ∧ post 2 V1 o D))
set_option maxHeartbeats 4000000 in
theorem c_L_otherEnd (d : Nat) (hd : 8 ≤ d) (l : Launch) (hl : l.stackTraces = false) (g : ab_G) (o : Nat → Int64) (D : Nat → UInt64) (a0 a1 : Int32) {V : Mm} {post : Int32 → Mm → (Nat → Int64) → (Nat → UInt64) → Prop} (h : wp_L_otherEnd V a0 a1 o D post) : CtH l g tk_strs d 3 18 yL_otherEnd cL_otherEnd 5 (some .int) [(0, 10, 13, 21), (0, 10, 17, 38)] [.ref 0, .int a0, .int a1, .ref 72] (SW V o D) (tk_I g (fun r u => ∃ (V : Mm) (o : Nat → Int64) (D : Nat → UInt64), u = SW V o D ∧ post r V o D)) (fun _ _ => False) := by
  refine ct_inH (by decide +kernel) (show 4 ≤ 5 by decide) (by simp [Value.category]) hl (fun X J O => ?_)
  show Ab X g 0 0 _ 0 [some (.ref 0), some (.int a0), some (.int a1), some (.ref 72), none] [] _
  refine ab_aload_n O 3 dL_otherEnd_0 rfl rfl ?_
  refine ab_iconst O 0 dL_otherEnd_1 rfl ?_
  refine ab_aload_n O 0 dL_otherEnd_2 rfl rfl ?_
  refine ab_iload_n O 1 dL_otherEnd_3 rfl rfl ?_
  refine ab_iload_n O 2 dL_otherEnd_4 rfl rfl ?_
  refine ab_callvI O J.2.2.2.2.2 (fr := False) (st := [.int 0, .ref 72]) lk_L_50 rfl (at_0 _ _ _) dL_otherEnd_5 (c_X8_otherEnd (d - 1) (by omega) _ O.2.2.2.2.2.2.1 _ _ _ _ _ h) rfl rfl ⟨by rw [J.2.1]; show d - 1 + 1 ≤ d; omega, by rw [J.2.1]; show 8 + (_ + 11) + 36 * (d - 1) ≤ 36 * d; omega⟩ (show 2 ≤ 8 by decide) ⟨by rw [J.2.1]; show 0 + 3 ≤ 3; decide, by rw [J.2.1]; show 0 + 18 ≤ 18; decide⟩ (fun q => q.elim) ?_ ?_
  · intro E u hu
    obtain ⟨V9, rfl, q⟩ := hu
    rcases q with ⟨rfl, q⟩ | ⟨rfl, q⟩
    · refine abx_catch O J [] [(0, 10, 17, 38)] rfl (fun z hz => by cases hz) ⟨by decide, by decide⟩ (by decide) cl_L_21 (by decide) (i := 4) (len := 2) (Or.inr ⟨dL_otherEnd_13, rfl⟩) (show 4 < 5 by decide) ?_
      refine ab_iconst O 1 dL_otherEnd_15 rfl ?_
      exact ab_ireturnJ O J dL_otherEnd_16 (by decide) (by decide) ⟨_, _, _, rfl, q⟩
    · refine abx_catch O J [(0, 10, 13, 21)] [] rfl (fun z hz => by
        simp only [List.mem_cons, List.not_mem_nil, or_false] at hz
        rcases hz with rfl
        · exact ⟨by decide, "java/lang/IndexOutOfBoundsException", by decide, cl_L_21, by decide⟩) ⟨by decide, by decide⟩ (by decide) cl_L_38 (by decide) (i := 4) (len := 2) (Or.inr ⟨dL_otherEnd_17, rfl⟩) (show 4 < 5 by decide) ?_
      refine ab_iconst O 2 dL_otherEnd_19 rfl ?_
      exact ab_ireturnJ O J dL_otherEnd_20 (by decide) (by decide) ⟨_, _, _, rfl, q⟩
  · intro r u hu
    obtain ⟨V1, rfl, h⟩ := hu
    refine ab_i2l O dL_otherEnd_8 ?_
    refine ab_last O dL_otherEnd_9 (at_72 _ _ _) (by unfold vp_in; decide) ?_
    refine ab_eq ?_ rfl rfl rfl (so_72 _ _ _ _).symm
    refine ab_goto O 21 dL_otherEnd_10 rfl ?_
    refine ab_iconst O 0 dL_otherEnd_21 rfl ?_
    exact ab_ireturnJ O J dL_otherEnd_22 (by decide) (by decide) ⟨_, _, _, rfl, h⟩

def wp_L_parallel (V : Mm) (a0 a1 : Int32) (o : Nat → Int64) (D : Nat → UInt64) (post : Int32 → Mm → (Nat → Int64) → (Nat → UInt64) → Prop) : Prop := wp_X8_parallel V a0 a1 (fun (r : Int32) (V1 : Mm) => post 0 V1 (vp_updL o 0 r.toInt64) D) (fun (E : String) (V1 : Mm) => (E = "java/lang/IndexOutOfBoundsException" ∧ post 1 V1 o D))
set_option maxHeartbeats 4000000 in
theorem c_L_parallel (d : Nat) (hd : 9 ≤ d) (l : Launch) (hl : l.stackTraces = false) (g : ab_G) (o : Nat → Int64) (D : Nat → UInt64) (a0 a1 : Int32) {V : Mm} {post : Int32 → Mm → (Nat → Int64) → (Nat → UInt64) → Prop} (h : wp_L_parallel V a0 a1 o D post) : CtH l g tk_strs d 2 12 yL_parallel cL_parallel 5 (some .int) [(0, 10, 13, 21)] [.ref 0, .int a0, .int a1, .ref 72] (SW V o D) (tk_I g (fun r u => ∃ (V : Mm) (o : Nat → Int64) (D : Nat → UInt64), u = SW V o D ∧ post r V o D)) (fun _ _ => False) := by
  refine ct_inH (by decide +kernel) (show 4 ≤ 5 by decide) (by simp [Value.category]) hl (fun X J O => ?_)
  show Ab X g 0 0 _ 0 [some (.ref 0), some (.int a0), some (.int a1), some (.ref 72), none] [] _
  refine ab_aload_n O 3 dL_parallel_0 rfl rfl ?_
  refine ab_iconst O 0 dL_parallel_1 rfl ?_
  refine ab_aload_n O 0 dL_parallel_2 rfl rfl ?_
  refine ab_iload_n O 1 dL_parallel_3 rfl rfl ?_
  refine ab_iload_n O 2 dL_parallel_4 rfl rfl ?_
  refine ab_callvI O J.2.2.2.2.2 (fr := False) (st := [.int 0, .ref 72]) lk_L_53 rfl (at_0 _ _ _) dL_parallel_5 (c_X8_parallel (d - 1) (by omega) _ O.2.2.2.2.2.2.1 _ _ _ _ _ h) rfl rfl ⟨by rw [J.2.1]; show d - 1 + 1 ≤ d; omega, by rw [J.2.1]; show 8 + (_ + 11) + 36 * (d - 1) ≤ 36 * d; omega⟩ (show 2 ≤ 8 by decide) ⟨by rw [J.2.1]; show 0 + 2 ≤ 2; decide, by rw [J.2.1]; show 0 + 12 ≤ 12; decide⟩ (fun q => q.elim) ?_ ?_
  · intro E u hu
    obtain ⟨V9, rfl, q⟩ := hu
    obtain ⟨rfl, q⟩ := q
    refine abx_catch O J [] [] rfl (fun z hz => by cases hz) ⟨by decide, by decide⟩ (by decide) cl_L_21 (by decide) (i := 4) (len := 2) (Or.inr ⟨dL_parallel_13, rfl⟩) (show 4 < 5 by decide) ?_
    refine ab_iconst O 1 dL_parallel_15 rfl ?_
    exact ab_ireturnJ O J dL_parallel_16 (by decide) (by decide) ⟨_, _, _, rfl, q⟩
  · intro r u hu
    obtain ⟨V1, rfl, h⟩ := hu
    refine ab_i2l O dL_parallel_8 ?_
    refine ab_last O dL_parallel_9 (at_72 _ _ _) (by unfold vp_in; decide) ?_
    refine ab_eq ?_ rfl rfl rfl (so_72 _ _ _ _).symm
    refine ab_goto O 17 dL_parallel_10 rfl ?_
    refine ab_iconst O 0 dL_parallel_17 rfl ?_
    exact ab_ireturnJ O J dL_parallel_18 (by decide) (by decide) ⟨_, _, _, rfl, h⟩

def wp_L_parent (V : Mm) (a0 a1 : Int32) (o : Nat → Int64) (D : Nat → UInt64) (post : Int32 → Mm → (Nat → Int64) → (Nat → UInt64) → Prop) : Prop := wp_X8_parent V a0 a1 (fun (r : Int32) (V1 : Mm) => post 0 V1 (vp_updL o 0 r.toInt64) D) (fun (E : String) (V1 : Mm) => (E = "java/lang/IndexOutOfBoundsException" ∧ post 1 V1 o D) ∨ (E = "java/util/NoSuchElementException" ∧ post 2 V1 o D) ∨ (E = "java/lang/UnsupportedOperationException" ∧ post 3 V1 o D))
set_option maxHeartbeats 4000000 in
theorem c_L_parent (d : Nat) (hd : 9 ≤ d) (l : Launch) (hl : l.stackTraces = false) (g : ab_G) (o : Nat → Int64) (D : Nat → UInt64) (a0 a1 : Int32) {V : Mm} {post : Int32 → Mm → (Nat → Int64) → (Nat → UInt64) → Prop} (h : wp_L_parent V a0 a1 o D post) : CtH l g tk_strs d 4 24 yL_parent cL_parent 5 (some .int) [(0, 10, 13, 21), (0, 10, 17, 38), (0, 10, 21, 27)] [.ref 0, .int a0, .int a1, .ref 72] (SW V o D) (tk_I g (fun r u => ∃ (V : Mm) (o : Nat → Int64) (D : Nat → UInt64), u = SW V o D ∧ post r V o D)) (fun _ _ => False) := by
  refine ct_inH (by decide +kernel) (show 4 ≤ 5 by decide) (by simp [Value.category]) hl (fun X J O => ?_)
  show Ab X g 0 0 _ 0 [some (.ref 0), some (.int a0), some (.int a1), some (.ref 72), none] [] _
  refine ab_aload_n O 3 dL_parent_0 rfl rfl ?_
  refine ab_iconst O 0 dL_parent_1 rfl ?_
  refine ab_aload_n O 0 dL_parent_2 rfl rfl ?_
  refine ab_iload_n O 1 dL_parent_3 rfl rfl ?_
  refine ab_iload_n O 2 dL_parent_4 rfl rfl ?_
  refine ab_callvI O J.2.2.2.2.2 (fr := False) (st := [.int 0, .ref 72]) lk_L_103 rfl (at_0 _ _ _) dL_parent_5 (c_X8_parent (d - 1) (by omega) _ O.2.2.2.2.2.2.1 _ _ _ _ _ h) rfl rfl ⟨by rw [J.2.1]; show d - 1 + 1 ≤ d; omega, by rw [J.2.1]; show 8 + (_ + 11) + 36 * (d - 1) ≤ 36 * d; omega⟩ (show 2 ≤ 8 by decide) ⟨by rw [J.2.1]; show 0 + 4 ≤ 4; decide, by rw [J.2.1]; show 0 + 24 ≤ 24; decide⟩ (fun q => q.elim) ?_ ?_
  · intro E u hu
    obtain ⟨V9, rfl, q⟩ := hu
    rcases q with ⟨rfl, q⟩ | ⟨rfl, q⟩ | ⟨rfl, q⟩
    · refine abx_catch O J [] [(0, 10, 17, 38), (0, 10, 21, 27)] rfl (fun z hz => by cases hz) ⟨by decide, by decide⟩ (by decide) cl_L_21 (by decide) (i := 4) (len := 2) (Or.inr ⟨dL_parent_13, rfl⟩) (show 4 < 5 by decide) ?_
      refine ab_iconst O 1 dL_parent_15 rfl ?_
      exact ab_ireturnJ O J dL_parent_16 (by decide) (by decide) ⟨_, _, _, rfl, q⟩
    · refine abx_catch O J [(0, 10, 13, 21)] [(0, 10, 21, 27)] rfl (fun z hz => by
        simp only [List.mem_cons, List.not_mem_nil, or_false] at hz
        rcases hz with rfl
        · exact ⟨by decide, "java/lang/IndexOutOfBoundsException", by decide, cl_L_21, by decide⟩) ⟨by decide, by decide⟩ (by decide) cl_L_38 (by decide) (i := 4) (len := 2) (Or.inr ⟨dL_parent_17, rfl⟩) (show 4 < 5 by decide) ?_
      refine ab_iconst O 2 dL_parent_19 rfl ?_
      exact ab_ireturnJ O J dL_parent_20 (by decide) (by decide) ⟨_, _, _, rfl, q⟩
    · refine abx_catch O J [(0, 10, 13, 21), (0, 10, 17, 38)] [] rfl (fun z hz => by
        simp only [List.mem_cons, List.not_mem_nil, or_false] at hz
        rcases hz with rfl | rfl
        · exact ⟨by decide, "java/lang/IndexOutOfBoundsException", by decide, cl_L_21, by decide⟩
        · exact ⟨by decide, "java/util/NoSuchElementException", by decide, cl_L_38, by decide⟩) ⟨by decide, by decide⟩ (by decide) cl_L_27 (by decide) (i := 4) (len := 2) (Or.inr ⟨dL_parent_21, rfl⟩) (show 4 < 5 by decide) ?_
      refine ab_iconst O 3 dL_parent_23 rfl ?_
      exact ab_ireturnJ O J dL_parent_24 (by decide) (by decide) ⟨_, _, _, rfl, q⟩
  · intro r u hu
    obtain ⟨V1, rfl, h⟩ := hu
    refine ab_i2l O dL_parent_8 ?_
    refine ab_last O dL_parent_9 (at_72 _ _ _) (by unfold vp_in; decide) ?_
    refine ab_eq ?_ rfl rfl rfl (so_72 _ _ _ _).symm
    refine ab_goto O 25 dL_parent_10 rfl ?_
    refine ab_iconst O 0 dL_parent_25 rfl ?_
    exact ab_ireturnJ O J dL_parent_26 (by decide) (by decide) ⟨_, _, _, rfl, h⟩

def wp_L_pathSum (V : Mm) (a0 a1 : Int32) (o : Nat → Int64) (D : Nat → UInt64) (post : Int32 → Mm → (Nat → Int64) → (Nat → UInt64) → Prop) : Prop := wp_X8_pathSum V a0 a1 (fun (r : Int32) (V1 : Mm) => post 0 V1 (vp_updL o 0 r.toInt64) D) (fun (E : String) (V1 : Mm) => (E = "java/lang/IndexOutOfBoundsException" ∧ post 1 V1 o D) ∨ (E = "java/util/NoSuchElementException" ∧ post 2 V1 o D))
set_option maxHeartbeats 4000000 in
theorem c_L_pathSum (d : Nat) (hd : 9 ≤ d) (l : Launch) (hl : l.stackTraces = false) (g : ab_G) (o : Nat → Int64) (D : Nat → UInt64) (a0 a1 : Int32) {V : Mm} {post : Int32 → Mm → (Nat → Int64) → (Nat → UInt64) → Prop} (h : wp_L_pathSum V a0 a1 o D post) : CtH l g tk_strs d 3 18 yL_pathSum cL_pathSum 5 (some .int) [(0, 10, 13, 21), (0, 10, 17, 38)] [.ref 0, .int a0, .int a1, .ref 72] (SW V o D) (tk_I g (fun r u => ∃ (V : Mm) (o : Nat → Int64) (D : Nat → UInt64), u = SW V o D ∧ post r V o D)) (fun _ _ => False) := by
  refine ct_inH (by decide +kernel) (show 4 ≤ 5 by decide) (by simp [Value.category]) hl (fun X J O => ?_)
  show Ab X g 0 0 _ 0 [some (.ref 0), some (.int a0), some (.int a1), some (.ref 72), none] [] _
  refine ab_aload_n O 3 dL_pathSum_0 rfl rfl ?_
  refine ab_iconst O 0 dL_pathSum_1 rfl ?_
  refine ab_aload_n O 0 dL_pathSum_2 rfl rfl ?_
  refine ab_iload_n O 1 dL_pathSum_3 rfl rfl ?_
  refine ab_iload_n O 2 dL_pathSum_4 rfl rfl ?_
  refine ab_callvI O J.2.2.2.2.2 (fr := False) (st := [.int 0, .ref 72]) lk_L_84 rfl (at_0 _ _ _) dL_pathSum_5 (c_X8_pathSum (d - 1) (by omega) _ O.2.2.2.2.2.2.1 _ _ _ _ _ h) rfl rfl ⟨by rw [J.2.1]; show d - 1 + 1 ≤ d; omega, by rw [J.2.1]; show 8 + (_ + 11) + 36 * (d - 1) ≤ 36 * d; omega⟩ (show 2 ≤ 8 by decide) ⟨by rw [J.2.1]; show 0 + 3 ≤ 3; decide, by rw [J.2.1]; show 0 + 18 ≤ 18; decide⟩ (fun q => q.elim) ?_ ?_
  · intro E u hu
    obtain ⟨V9, rfl, q⟩ := hu
    rcases q with ⟨rfl, q⟩ | ⟨rfl, q⟩
    · refine abx_catch O J [] [(0, 10, 17, 38)] rfl (fun z hz => by cases hz) ⟨by decide, by decide⟩ (by decide) cl_L_21 (by decide) (i := 4) (len := 2) (Or.inr ⟨dL_pathSum_13, rfl⟩) (show 4 < 5 by decide) ?_
      refine ab_iconst O 1 dL_pathSum_15 rfl ?_
      exact ab_ireturnJ O J dL_pathSum_16 (by decide) (by decide) ⟨_, _, _, rfl, q⟩
    · refine abx_catch O J [(0, 10, 13, 21)] [] rfl (fun z hz => by
        simp only [List.mem_cons, List.not_mem_nil, or_false] at hz
        rcases hz with rfl
        · exact ⟨by decide, "java/lang/IndexOutOfBoundsException", by decide, cl_L_21, by decide⟩) ⟨by decide, by decide⟩ (by decide) cl_L_38 (by decide) (i := 4) (len := 2) (Or.inr ⟨dL_pathSum_17, rfl⟩) (show 4 < 5 by decide) ?_
      refine ab_iconst O 2 dL_pathSum_19 rfl ?_
      exact ab_ireturnJ O J dL_pathSum_20 (by decide) (by decide) ⟨_, _, _, rfl, q⟩
  · intro r u hu
    obtain ⟨V1, rfl, h⟩ := hu
    refine ab_i2l O dL_pathSum_8 ?_
    refine ab_last O dL_pathSum_9 (at_72 _ _ _) (by unfold vp_in; decide) ?_
    refine ab_eq ?_ rfl rfl rfl (so_72 _ _ _ _).symm
    refine ab_goto O 21 dL_pathSum_10 rfl ?_
    refine ab_iconst O 0 dL_pathSum_21 rfl ?_
    exact ab_ireturnJ O J dL_pathSum_22 (by decide) (by decide) ⟨_, _, _, rfl, h⟩

def wp_L_pathSumByHeavyPaths (V : Mm) (a0 a1 : Int32) (o : Nat → Int64) (D : Nat → UInt64) (post : Int32 → Mm → (Nat → Int64) → (Nat → UInt64) → Prop) : Prop := wp_X8_pathSumByHeavyPaths V a0 a1 (fun (r : Int32) (V1 : Mm) => post 0 V1 (vp_updL o 0 r.toInt64) D) (fun (E : String) (V1 : Mm) => (E = "java/lang/IndexOutOfBoundsException" ∧ post 1 V1 o D) ∨ (E = "java/util/NoSuchElementException" ∧ post 2 V1 o D))
set_option maxHeartbeats 4000000 in
theorem c_L_pathSumByHeavyPaths (d : Nat) (hd : 9 ≤ d) (l : Launch) (hl : l.stackTraces = false) (g : ab_G) (o : Nat → Int64) (D : Nat → UInt64) (a0 a1 : Int32) {V : Mm} {post : Int32 → Mm → (Nat → Int64) → (Nat → UInt64) → Prop} (h : wp_L_pathSumByHeavyPaths V a0 a1 o D post) : CtH l g tk_strs d 3 18 yL_pathSumByHeavyPaths cL_pathSumByHeavyPaths 5 (some .int) [(0, 10, 13, 21), (0, 10, 17, 38)] [.ref 0, .int a0, .int a1, .ref 72] (SW V o D) (tk_I g (fun r u => ∃ (V : Mm) (o : Nat → Int64) (D : Nat → UInt64), u = SW V o D ∧ post r V o D)) (fun _ _ => False) := by
  refine ct_inH (by decide +kernel) (show 4 ≤ 5 by decide) (by simp [Value.category]) hl (fun X J O => ?_)
  show Ab X g 0 0 _ 0 [some (.ref 0), some (.int a0), some (.int a1), some (.ref 72), none] [] _
  refine ab_aload_n O 3 dL_pathSumByHeavyPaths_0 rfl rfl ?_
  refine ab_iconst O 0 dL_pathSumByHeavyPaths_1 rfl ?_
  refine ab_aload_n O 0 dL_pathSumByHeavyPaths_2 rfl rfl ?_
  refine ab_iload_n O 1 dL_pathSumByHeavyPaths_3 rfl rfl ?_
  refine ab_iload_n O 2 dL_pathSumByHeavyPaths_4 rfl rfl ?_
  refine ab_callvI O J.2.2.2.2.2 (fr := False) (st := [.int 0, .ref 72]) lk_L_87 rfl (at_0 _ _ _) dL_pathSumByHeavyPaths_5 (c_X8_pathSumByHeavyPaths (d - 1) (by omega) _ O.2.2.2.2.2.2.1 _ _ _ _ _ h) rfl rfl ⟨by rw [J.2.1]; show d - 1 + 1 ≤ d; omega, by rw [J.2.1]; show 8 + (_ + 11) + 36 * (d - 1) ≤ 36 * d; omega⟩ (show 2 ≤ 8 by decide) ⟨by rw [J.2.1]; show 0 + 3 ≤ 3; decide, by rw [J.2.1]; show 0 + 18 ≤ 18; decide⟩ (fun q => q.elim) ?_ ?_
  · intro E u hu
    obtain ⟨V9, rfl, q⟩ := hu
    rcases q with ⟨rfl, q⟩ | ⟨rfl, q⟩
    · refine abx_catch O J [] [(0, 10, 17, 38)] rfl (fun z hz => by cases hz) ⟨by decide, by decide⟩ (by decide) cl_L_21 (by decide) (i := 4) (len := 2) (Or.inr ⟨dL_pathSumByHeavyPaths_13, rfl⟩) (show 4 < 5 by decide) ?_
      refine ab_iconst O 1 dL_pathSumByHeavyPaths_15 rfl ?_
      exact ab_ireturnJ O J dL_pathSumByHeavyPaths_16 (by decide) (by decide) ⟨_, _, _, rfl, q⟩
    · refine abx_catch O J [(0, 10, 13, 21)] [] rfl (fun z hz => by
        simp only [List.mem_cons, List.not_mem_nil, or_false] at hz
        rcases hz with rfl
        · exact ⟨by decide, "java/lang/IndexOutOfBoundsException", by decide, cl_L_21, by decide⟩) ⟨by decide, by decide⟩ (by decide) cl_L_38 (by decide) (i := 4) (len := 2) (Or.inr ⟨dL_pathSumByHeavyPaths_17, rfl⟩) (show 4 < 5 by decide) ?_
      refine ab_iconst O 2 dL_pathSumByHeavyPaths_19 rfl ?_
      exact ab_ireturnJ O J dL_pathSumByHeavyPaths_20 (by decide) (by decide) ⟨_, _, _, rfl, q⟩
  · intro r u hu
    obtain ⟨V1, rfl, h⟩ := hu
    refine ab_i2l O dL_pathSumByHeavyPaths_8 ?_
    refine ab_last O dL_pathSumByHeavyPaths_9 (at_72 _ _ _) (by unfold vp_in; decide) ?_
    refine ab_eq ?_ rfl rfl rfl (so_72 _ _ _ _).symm
    refine ab_goto O 21 dL_pathSumByHeavyPaths_10 rfl ?_
    refine ab_iconst O 0 dL_pathSumByHeavyPaths_21 rfl ?_
    exact ab_ireturnJ O J dL_pathSumByHeavyPaths_22 (by decide) (by decide) ⟨_, _, _, rfl, h⟩

def wp_L_pathSumByWalk (V : Mm) (a0 a1 : Int32) (o : Nat → Int64) (D : Nat → UInt64) (post : Int32 → Mm → (Nat → Int64) → (Nat → UInt64) → Prop) : Prop := wp_X8_pathSumByWalk V a0 a1 (fun (r : Int32) (V1 : Mm) => post 0 V1 (vp_updL o 0 r.toInt64) D) (fun (E : String) (V1 : Mm) => (E = "java/lang/IndexOutOfBoundsException" ∧ post 1 V1 o D) ∨ (E = "java/util/NoSuchElementException" ∧ post 2 V1 o D))
set_option maxHeartbeats 4000000 in
theorem c_L_pathSumByWalk (d : Nat) (hd : 9 ≤ d) (l : Launch) (hl : l.stackTraces = false) (g : ab_G) (o : Nat → Int64) (D : Nat → UInt64) (a0 a1 : Int32) {V : Mm} {post : Int32 → Mm → (Nat → Int64) → (Nat → UInt64) → Prop} (h : wp_L_pathSumByWalk V a0 a1 o D post) : CtH l g tk_strs d 3 18 yL_pathSumByWalk cL_pathSumByWalk 5 (some .int) [(0, 10, 13, 21), (0, 10, 17, 38)] [.ref 0, .int a0, .int a1, .ref 72] (SW V o D) (tk_I g (fun r u => ∃ (V : Mm) (o : Nat → Int64) (D : Nat → UInt64), u = SW V o D ∧ post r V o D)) (fun _ _ => False) := by
  refine ct_inH (by decide +kernel) (show 4 ≤ 5 by decide) (by simp [Value.category]) hl (fun X J O => ?_)
  show Ab X g 0 0 _ 0 [some (.ref 0), some (.int a0), some (.int a1), some (.ref 72), none] [] _
  refine ab_aload_n O 3 dL_pathSumByWalk_0 rfl rfl ?_
  refine ab_iconst O 0 dL_pathSumByWalk_1 rfl ?_
  refine ab_aload_n O 0 dL_pathSumByWalk_2 rfl rfl ?_
  refine ab_iload_n O 1 dL_pathSumByWalk_3 rfl rfl ?_
  refine ab_iload_n O 2 dL_pathSumByWalk_4 rfl rfl ?_
  refine ab_callvI O J.2.2.2.2.2 (fr := False) (st := [.int 0, .ref 72]) lk_L_90 rfl (at_0 _ _ _) dL_pathSumByWalk_5 (c_X8_pathSumByWalk (d - 1) (by omega) _ O.2.2.2.2.2.2.1 _ _ _ _ _ h) rfl rfl ⟨by rw [J.2.1]; show d - 1 + 1 ≤ d; omega, by rw [J.2.1]; show 8 + (_ + 11) + 36 * (d - 1) ≤ 36 * d; omega⟩ (show 2 ≤ 8 by decide) ⟨by rw [J.2.1]; show 0 + 3 ≤ 3; decide, by rw [J.2.1]; show 0 + 18 ≤ 18; decide⟩ (fun q => q.elim) ?_ ?_
  · intro E u hu
    obtain ⟨V9, rfl, q⟩ := hu
    rcases q with ⟨rfl, q⟩ | ⟨rfl, q⟩
    · refine abx_catch O J [] [(0, 10, 17, 38)] rfl (fun z hz => by cases hz) ⟨by decide, by decide⟩ (by decide) cl_L_21 (by decide) (i := 4) (len := 2) (Or.inr ⟨dL_pathSumByWalk_13, rfl⟩) (show 4 < 5 by decide) ?_
      refine ab_iconst O 1 dL_pathSumByWalk_15 rfl ?_
      exact ab_ireturnJ O J dL_pathSumByWalk_16 (by decide) (by decide) ⟨_, _, _, rfl, q⟩
    · refine abx_catch O J [(0, 10, 13, 21)] [] rfl (fun z hz => by
        simp only [List.mem_cons, List.not_mem_nil, or_false] at hz
        rcases hz with rfl
        · exact ⟨by decide, "java/lang/IndexOutOfBoundsException", by decide, cl_L_21, by decide⟩) ⟨by decide, by decide⟩ (by decide) cl_L_38 (by decide) (i := 4) (len := 2) (Or.inr ⟨dL_pathSumByWalk_17, rfl⟩) (show 4 < 5 by decide) ?_
      refine ab_iconst O 2 dL_pathSumByWalk_19 rfl ?_
      exact ab_ireturnJ O J dL_pathSumByWalk_20 (by decide) (by decide) ⟨_, _, _, rfl, q⟩
  · intro r u hu
    obtain ⟨V1, rfl, h⟩ := hu
    refine ab_i2l O dL_pathSumByWalk_8 ?_
    refine ab_last O dL_pathSumByWalk_9 (at_72 _ _ _) (by unfold vp_in; decide) ?_
    refine ab_eq ?_ rfl rfl rfl (so_72 _ _ _ _).symm
    refine ab_goto O 21 dL_pathSumByWalk_10 rfl ?_
    refine ab_iconst O 0 dL_pathSumByWalk_21 rfl ?_
    exact ab_ireturnJ O J dL_pathSumByWalk_22 (by decide) (by decide) ⟨_, _, _, rfl, h⟩

def wp_L_pathVertex (V : Mm) (a0 a1 a2 : Int32) (o : Nat → Int64) (D : Nat → UInt64) (post : Int32 → Mm → (Nat → Int64) → (Nat → UInt64) → Prop) : Prop := wp_X8_pathVertex V a0 a1 a2 (fun (r : Int32) (V1 : Mm) => post 0 V1 (vp_updL o 0 r.toInt64) D) (fun (E : String) (V1 : Mm) => (E = "java/lang/IndexOutOfBoundsException" ∧ post 1 V1 o D) ∨ (E = "java/util/NoSuchElementException" ∧ post 2 V1 o D) ∨ (E = "java/lang/IllegalArgumentException" ∧ post 3 V1 o D))
set_option maxHeartbeats 4000000 in
theorem c_L_pathVertex (d : Nat) (hd : 9 ≤ d) (l : Launch) (hl : l.stackTraces = false) (g : ab_G) (o : Nat → Int64) (D : Nat → UInt64) (a0 a1 a2 : Int32) {V : Mm} {post : Int32 → Mm → (Nat → Int64) → (Nat → UInt64) → Prop} (h : wp_L_pathVertex V a0 a1 a2 o D post) : CtH l g tk_strs d 4 24 yL_pathVertex cL_pathVertex 6 (some .int) [(0, 12, 15, 21), (0, 12, 19, 38), (0, 12, 23, 13)] [.ref 0, .int a0, .int a1, .int a2, .ref 72] (SW V o D) (tk_I g (fun r u => ∃ (V : Mm) (o : Nat → Int64) (D : Nat → UInt64), u = SW V o D ∧ post r V o D)) (fun _ _ => False) := by
  refine ct_inH (by decide +kernel) (show 5 ≤ 6 by decide) (by simp [Value.category]) hl (fun X J O => ?_)
  show Ab X g 0 0 _ 0 [some (.ref 0), some (.int a0), some (.int a1), some (.int a2), some (.ref 72), none] [] _
  refine ab_aload O dL_pathVertex_0 rfl ?_
  refine ab_iconst O 0 dL_pathVertex_2 rfl ?_
  refine ab_aload_n O 0 dL_pathVertex_3 rfl rfl ?_
  refine ab_iload_n O 1 dL_pathVertex_4 rfl rfl ?_
  refine ab_iload_n O 2 dL_pathVertex_5 rfl rfl ?_
  refine ab_iload_n O 3 dL_pathVertex_6 rfl rfl ?_
  refine ab_callvI O J.2.2.2.2.2 (fr := False) (st := [.int 0, .ref 72]) lk_L_81 rfl (at_0 _ _ _) dL_pathVertex_7 (c_X8_pathVertex (d - 1) (by omega) _ O.2.2.2.2.2.2.1 _ _ _ _ _ _ h) rfl rfl ⟨by rw [J.2.1]; show d - 1 + 1 ≤ d; omega, by rw [J.2.1]; show 8 + (_ + 11) + 36 * (d - 1) ≤ 36 * d; omega⟩ (show 2 ≤ 8 by decide) ⟨by rw [J.2.1]; show 0 + 4 ≤ 4; decide, by rw [J.2.1]; show 0 + 24 ≤ 24; decide⟩ (fun q => q.elim) ?_ ?_
  · intro E u hu
    obtain ⟨V9, rfl, q⟩ := hu
    rcases q with ⟨rfl, q⟩ | ⟨rfl, q⟩ | ⟨rfl, q⟩
    · refine abx_catch O J [] [(0, 12, 19, 38), (0, 12, 23, 13)] rfl (fun z hz => by cases hz) ⟨by decide, by decide⟩ (by decide) cl_L_21 (by decide) (i := 5) (len := 2) (Or.inr ⟨dL_pathVertex_15, rfl⟩) (show 5 < 6 by decide) ?_
      refine ab_iconst O 1 dL_pathVertex_17 rfl ?_
      exact ab_ireturnJ O J dL_pathVertex_18 (by decide) (by decide) ⟨_, _, _, rfl, q⟩
    · refine abx_catch O J [(0, 12, 15, 21)] [(0, 12, 23, 13)] rfl (fun z hz => by
        simp only [List.mem_cons, List.not_mem_nil, or_false] at hz
        rcases hz with rfl
        · exact ⟨by decide, "java/lang/IndexOutOfBoundsException", by decide, cl_L_21, by decide⟩) ⟨by decide, by decide⟩ (by decide) cl_L_38 (by decide) (i := 5) (len := 2) (Or.inr ⟨dL_pathVertex_19, rfl⟩) (show 5 < 6 by decide) ?_
      refine ab_iconst O 2 dL_pathVertex_21 rfl ?_
      exact ab_ireturnJ O J dL_pathVertex_22 (by decide) (by decide) ⟨_, _, _, rfl, q⟩
    · refine abx_catch O J [(0, 12, 15, 21), (0, 12, 19, 38)] [] rfl (fun z hz => by
        simp only [List.mem_cons, List.not_mem_nil, or_false] at hz
        rcases hz with rfl | rfl
        · exact ⟨by decide, "java/lang/IndexOutOfBoundsException", by decide, cl_L_21, by decide⟩
        · exact ⟨by decide, "java/util/NoSuchElementException", by decide, cl_L_38, by decide⟩) ⟨by decide, by decide⟩ (by decide) cl_L_13 (by decide) (i := 5) (len := 2) (Or.inr ⟨dL_pathVertex_23, rfl⟩) (show 5 < 6 by decide) ?_
      refine ab_iconst O 3 dL_pathVertex_25 rfl ?_
      exact ab_ireturnJ O J dL_pathVertex_26 (by decide) (by decide) ⟨_, _, _, rfl, q⟩
  · intro r u hu
    obtain ⟨V1, rfl, h⟩ := hu
    refine ab_i2l O dL_pathVertex_10 ?_
    refine ab_last O dL_pathVertex_11 (at_72 _ _ _) (by unfold vp_in; decide) ?_
    refine ab_eq ?_ rfl rfl rfl (so_72 _ _ _ _).symm
    refine ab_goto O 27 dL_pathVertex_12 rfl ?_
    refine ab_iconst O 0 dL_pathVertex_27 rfl ?_
    exact ab_ireturnJ O J dL_pathVertex_28 (by decide) (by decide) ⟨_, _, _, rfl, h⟩

def wp_L_pathVertices (V : Mm) (a0 a1 : Int32) (o : Nat → Int64) (D : Nat → UInt64) (post : Int32 → Mm → (Nat → Int64) → (Nat → UInt64) → Prop) : Prop := wp_X8_pathVertices V a0 a1 (fun (r : Int32) (V1 : Mm) => post 0 V1 (vp_updL o 0 r.toInt64) D) (fun (E : String) (V1 : Mm) => (E = "java/lang/IndexOutOfBoundsException" ∧ post 1 V1 o D) ∨ (E = "java/util/NoSuchElementException" ∧ post 2 V1 o D))
set_option maxHeartbeats 4000000 in
theorem c_L_pathVertices (d : Nat) (hd : 9 ≤ d) (l : Launch) (hl : l.stackTraces = false) (g : ab_G) (o : Nat → Int64) (D : Nat → UInt64) (a0 a1 : Int32) {V : Mm} {post : Int32 → Mm → (Nat → Int64) → (Nat → UInt64) → Prop} (h : wp_L_pathVertices V a0 a1 o D post) : CtH l g tk_strs d 3 18 yL_pathVertices cL_pathVertices 5 (some .int) [(0, 10, 13, 21), (0, 10, 17, 38)] [.ref 0, .int a0, .int a1, .ref 72] (SW V o D) (tk_I g (fun r u => ∃ (V : Mm) (o : Nat → Int64) (D : Nat → UInt64), u = SW V o D ∧ post r V o D)) (fun _ _ => False) := by
  refine ct_inH (by decide +kernel) (show 4 ≤ 5 by decide) (by simp [Value.category]) hl (fun X J O => ?_)
  show Ab X g 0 0 _ 0 [some (.ref 0), some (.int a0), some (.int a1), some (.ref 72), none] [] _
  refine ab_aload_n O 3 dL_pathVertices_0 rfl rfl ?_
  refine ab_iconst O 0 dL_pathVertices_1 rfl ?_
  refine ab_aload_n O 0 dL_pathVertices_2 rfl rfl ?_
  refine ab_iload_n O 1 dL_pathVertices_3 rfl rfl ?_
  refine ab_iload_n O 2 dL_pathVertices_4 rfl rfl ?_
  refine ab_callvI O J.2.2.2.2.2 (fr := False) (st := [.int 0, .ref 72]) lk_L_78 rfl (at_0 _ _ _) dL_pathVertices_5 (c_X8_pathVertices (d - 1) (by omega) _ O.2.2.2.2.2.2.1 _ _ _ _ _ h) rfl rfl ⟨by rw [J.2.1]; show d - 1 + 1 ≤ d; omega, by rw [J.2.1]; show 8 + (_ + 11) + 36 * (d - 1) ≤ 36 * d; omega⟩ (show 2 ≤ 8 by decide) ⟨by rw [J.2.1]; show 0 + 3 ≤ 3; decide, by rw [J.2.1]; show 0 + 18 ≤ 18; decide⟩ (fun q => q.elim) ?_ ?_
  · intro E u hu
    obtain ⟨V9, rfl, q⟩ := hu
    rcases q with ⟨rfl, q⟩ | ⟨rfl, q⟩
    · refine abx_catch O J [] [(0, 10, 17, 38)] rfl (fun z hz => by cases hz) ⟨by decide, by decide⟩ (by decide) cl_L_21 (by decide) (i := 4) (len := 2) (Or.inr ⟨dL_pathVertices_13, rfl⟩) (show 4 < 5 by decide) ?_
      refine ab_iconst O 1 dL_pathVertices_15 rfl ?_
      exact ab_ireturnJ O J dL_pathVertices_16 (by decide) (by decide) ⟨_, _, _, rfl, q⟩
    · refine abx_catch O J [(0, 10, 13, 21)] [] rfl (fun z hz => by
        simp only [List.mem_cons, List.not_mem_nil, or_false] at hz
        rcases hz with rfl
        · exact ⟨by decide, "java/lang/IndexOutOfBoundsException", by decide, cl_L_21, by decide⟩) ⟨by decide, by decide⟩ (by decide) cl_L_38 (by decide) (i := 4) (len := 2) (Or.inr ⟨dL_pathVertices_17, rfl⟩) (show 4 < 5 by decide) ?_
      refine ab_iconst O 2 dL_pathVertices_19 rfl ?_
      exact ab_ireturnJ O J dL_pathVertices_20 (by decide) (by decide) ⟨_, _, _, rfl, q⟩
  · intro r u hu
    obtain ⟨V1, rfl, h⟩ := hu
    refine ab_i2l O dL_pathVertices_8 ?_
    refine ab_last O dL_pathVertices_9 (at_72 _ _ _) (by unfold vp_in; decide) ?_
    refine ab_eq ?_ rfl rfl rfl (so_72 _ _ _ _).symm
    refine ab_goto O 21 dL_pathVertices_10 rfl ?_
    refine ab_iconst O 0 dL_pathVertices_21 rfl ?_
    exact ab_ireturnJ O J dL_pathVertices_22 (by decide) (by decide) ⟨_, _, _, rfl, h⟩

def wp_L_removeEdge (V : Mm) (a0 : Int32) (o : Nat → Int64) (D : Nat → UInt64) (post : Int32 → Mm → (Nat → Int64) → (Nat → UInt64) → Prop) : Prop := wp_X8_removeEdge V a0 (fun (r : Int32) (V1 : Mm) => post 0 V1 (vp_updL o 0 r.toInt64) D) (fun (E : String) (V1 : Mm) => (E = "java/lang/IndexOutOfBoundsException" ∧ post 1 V1 o D) ∨ (E = "java/lang/IllegalStateException" ∧ post 2 V1 o D))
set_option maxHeartbeats 4000000 in
theorem c_L_removeEdge (d : Nat) (hd : 8 ≤ d) (l : Launch) (hl : l.stackTraces = false) (g : ab_G) (o : Nat → Int64) (D : Nat → UInt64) (a0 : Int32) {V : Mm} {post : Int32 → Mm → (Nat → Int64) → (Nat → UInt64) → Prop} (h : wp_L_removeEdge V a0 o D post) : CtH l g tk_strs d 2 12 yL_removeEdge cL_removeEdge 4 (some .int) [(0, 9, 12, 21), (0, 9, 15, 15)] [.ref 0, .int a0, .ref 72] (SW V o D) (tk_I g (fun r u => ∃ (V : Mm) (o : Nat → Int64) (D : Nat → UInt64), u = SW V o D ∧ post r V o D)) (fun _ _ => False) := by
  refine ct_inH (by decide +kernel) (show 3 ≤ 4 by decide) (by simp [Value.category]) hl (fun X J O => ?_)
  show Ab X g 0 0 _ 0 [some (.ref 0), some (.int a0), some (.ref 72), none] [] _
  refine ab_aload_n O 2 dL_removeEdge_0 rfl rfl ?_
  refine ab_iconst O 0 dL_removeEdge_1 rfl ?_
  refine ab_aload_n O 0 dL_removeEdge_2 rfl rfl ?_
  refine ab_iload_n O 1 dL_removeEdge_3 rfl rfl ?_
  refine ab_callvI O J.2.2.2.2.2 (fr := False) (st := [.int 0, .ref 72]) lk_L_29 rfl (at_0 _ _ _) dL_removeEdge_4 (c_X8_removeEdge (d - 1) (by omega) _ O.2.2.2.2.2.2.1 _ _ _ _ h) rfl rfl ⟨by rw [J.2.1]; show d - 1 + 1 ≤ d; omega, by rw [J.2.1]; show 8 + (_ + 11) + 36 * (d - 1) ≤ 36 * d; omega⟩ (show 2 ≤ 8 by decide) ⟨by rw [J.2.1]; show 0 + 2 ≤ 2; decide, by rw [J.2.1]; show 0 + 12 ≤ 12; decide⟩ (fun q => q.elim) ?_ ?_
  · intro E u hu
    obtain ⟨V9, rfl, q⟩ := hu
    rcases q with ⟨rfl, q⟩ | ⟨rfl, q⟩
    · refine abx_catch O J [] [(0, 9, 15, 15)] rfl (fun z hz => by cases hz) ⟨by decide, by decide⟩ (by decide) cl_L_21 (by decide) (i := 3) (len := 1) (Or.inl ⟨_, dL_removeEdge_12, rfl, rfl⟩) (show 3 < 4 by decide) ?_
      refine ab_iconst O 1 dL_removeEdge_13 rfl ?_
      exact ab_ireturnJ O J dL_removeEdge_14 (by decide) (by decide) ⟨_, _, _, rfl, q⟩
    · refine abx_catch O J [(0, 9, 12, 21)] [] rfl (fun z hz => by
        simp only [List.mem_cons, List.not_mem_nil, or_false] at hz
        rcases hz with rfl
        · exact ⟨by decide, "java/lang/IndexOutOfBoundsException", by decide, cl_L_21, by decide⟩) ⟨by decide, by decide⟩ (by decide) cl_L_15 (by decide) (i := 3) (len := 1) (Or.inl ⟨_, dL_removeEdge_15, rfl, rfl⟩) (show 3 < 4 by decide) ?_
      refine ab_iconst O 2 dL_removeEdge_16 rfl ?_
      exact ab_ireturnJ O J dL_removeEdge_17 (by decide) (by decide) ⟨_, _, _, rfl, q⟩
  · intro r u hu
    obtain ⟨V1, rfl, h⟩ := hu
    refine ab_i2l O dL_removeEdge_7 ?_
    refine ab_last O dL_removeEdge_8 (at_72 _ _ _) (by unfold vp_in; decide) ?_
    refine ab_eq ?_ rfl rfl rfl (so_72 _ _ _ _).symm
    refine ab_goto O 18 dL_removeEdge_9 rfl ?_
    refine ab_iconst O 0 dL_removeEdge_18 rfl ?_
    exact ab_ireturnJ O J dL_removeEdge_19 (by decide) (by decide) ⟨_, _, _, rfl, h⟩

def wp_L_replacement (V : Mm) (a0 : Int32) (o : Nat → Int64) (D : Nat → UInt64) (post : Int32 → Mm → (Nat → Int64) → (Nat → UInt64) → Prop) : Prop := wp_X8_replacement V a0 (fun (r : Int32) (V1 : Mm) => post 0 V1 (vp_updL o 0 r.toInt64) D) (fun (E : String) (V1 : Mm) => (E = "java/lang/IndexOutOfBoundsException" ∧ post 1 V1 o D) ∨ (E = "java/lang/IllegalStateException" ∧ post 2 V1 o D) ∨ (E = "java/util/NoSuchElementException" ∧ post 3 V1 o D))
set_option maxHeartbeats 4000000 in
theorem c_L_replacement (d : Nat) (hd : 8 ≤ d) (l : Launch) (hl : l.stackTraces = false) (g : ab_G) (o : Nat → Int64) (D : Nat → UInt64) (a0 : Int32) {V : Mm} {post : Int32 → Mm → (Nat → Int64) → (Nat → UInt64) → Prop} (h : wp_L_replacement V a0 o D post) : CtH l g tk_strs d 3 18 yL_replacement cL_replacement 4 (some .int) [(0, 9, 12, 21), (0, 9, 15, 15), (0, 9, 18, 38)] [.ref 0, .int a0, .ref 72] (SW V o D) (tk_I g (fun r u => ∃ (V : Mm) (o : Nat → Int64) (D : Nat → UInt64), u = SW V o D ∧ post r V o D)) (fun _ _ => False) := by
  refine ct_inH (by decide +kernel) (show 3 ≤ 4 by decide) (by simp [Value.category]) hl (fun X J O => ?_)
  show Ab X g 0 0 _ 0 [some (.ref 0), some (.int a0), some (.ref 72), none] [] _
  refine ab_aload_n O 2 dL_replacement_0 rfl rfl ?_
  refine ab_iconst O 0 dL_replacement_1 rfl ?_
  refine ab_aload_n O 0 dL_replacement_2 rfl rfl ?_
  refine ab_iload_n O 1 dL_replacement_3 rfl rfl ?_
  refine ab_callvI O J.2.2.2.2.2 (fr := False) (st := [.int 0, .ref 72]) lk_L_72 rfl (at_0 _ _ _) dL_replacement_4 (c_X8_replacement (d - 1) (by omega) _ O.2.2.2.2.2.2.1 _ _ _ _ h) rfl rfl ⟨by rw [J.2.1]; show d - 1 + 1 ≤ d; omega, by rw [J.2.1]; show 8 + (_ + 11) + 36 * (d - 1) ≤ 36 * d; omega⟩ (show 2 ≤ 8 by decide) ⟨by rw [J.2.1]; show 0 + 3 ≤ 3; decide, by rw [J.2.1]; show 0 + 18 ≤ 18; decide⟩ (fun q => q.elim) ?_ ?_
  · intro E u hu
    obtain ⟨V9, rfl, q⟩ := hu
    rcases q with ⟨rfl, q⟩ | ⟨rfl, q⟩ | ⟨rfl, q⟩
    · refine abx_catch O J [] [(0, 9, 15, 15), (0, 9, 18, 38)] rfl (fun z hz => by cases hz) ⟨by decide, by decide⟩ (by decide) cl_L_21 (by decide) (i := 3) (len := 1) (Or.inl ⟨_, dL_replacement_12, rfl, rfl⟩) (show 3 < 4 by decide) ?_
      refine ab_iconst O 1 dL_replacement_13 rfl ?_
      exact ab_ireturnJ O J dL_replacement_14 (by decide) (by decide) ⟨_, _, _, rfl, q⟩
    · refine abx_catch O J [(0, 9, 12, 21)] [(0, 9, 18, 38)] rfl (fun z hz => by
        simp only [List.mem_cons, List.not_mem_nil, or_false] at hz
        rcases hz with rfl
        · exact ⟨by decide, "java/lang/IndexOutOfBoundsException", by decide, cl_L_21, by decide⟩) ⟨by decide, by decide⟩ (by decide) cl_L_15 (by decide) (i := 3) (len := 1) (Or.inl ⟨_, dL_replacement_15, rfl, rfl⟩) (show 3 < 4 by decide) ?_
      refine ab_iconst O 2 dL_replacement_16 rfl ?_
      exact ab_ireturnJ O J dL_replacement_17 (by decide) (by decide) ⟨_, _, _, rfl, q⟩
    · refine abx_catch O J [(0, 9, 12, 21), (0, 9, 15, 15)] [] rfl (fun z hz => by
        simp only [List.mem_cons, List.not_mem_nil, or_false] at hz
        rcases hz with rfl | rfl
        · exact ⟨by decide, "java/lang/IndexOutOfBoundsException", by decide, cl_L_21, by decide⟩
        · exact ⟨by decide, "java/lang/IllegalStateException", by decide, cl_L_15, by decide⟩) ⟨by decide, by decide⟩ (by decide) cl_L_38 (by decide) (i := 3) (len := 1) (Or.inl ⟨_, dL_replacement_18, rfl, rfl⟩) (show 3 < 4 by decide) ?_
      refine ab_iconst O 3 dL_replacement_19 rfl ?_
      exact ab_ireturnJ O J dL_replacement_20 (by decide) (by decide) ⟨_, _, _, rfl, q⟩
  · intro r u hu
    obtain ⟨V1, rfl, h⟩ := hu
    refine ab_i2l O dL_replacement_7 ?_
    refine ab_last O dL_replacement_8 (at_72 _ _ _) (by unfold vp_in; decide) ?_
    refine ab_eq ?_ rfl rfl rfl (so_72 _ _ _ _).symm
    refine ab_goto O 21 dL_replacement_9 rfl ?_
    refine ab_iconst O 0 dL_replacement_21 rfl ?_
    exact ab_ireturnJ O J dL_replacement_22 (by decide) (by decide) ⟨_, _, _, rfl, h⟩

def wp_L_replacementAnew (V : Mm) (a0 : Int32) (o : Nat → Int64) (D : Nat → UInt64) (post : Int32 → Mm → (Nat → Int64) → (Nat → UInt64) → Prop) : Prop := wp_X8_replacementAnew V a0 (fun (r : Int32) (V1 : Mm) => post 0 V1 (vp_updL o 0 r.toInt64) D) (fun (E : String) (V1 : Mm) => (E = "java/lang/IndexOutOfBoundsException" ∧ post 1 V1 o D) ∨ (E = "java/lang/IllegalStateException" ∧ post 2 V1 o D) ∨ (E = "java/util/NoSuchElementException" ∧ post 3 V1 o D))
set_option maxHeartbeats 4000000 in
theorem c_L_replacementAnew (d : Nat) (hd : 8 ≤ d) (l : Launch) (hl : l.stackTraces = false) (g : ab_G) (o : Nat → Int64) (D : Nat → UInt64) (a0 : Int32) {V : Mm} {post : Int32 → Mm → (Nat → Int64) → (Nat → UInt64) → Prop} (h : wp_L_replacementAnew V a0 o D post) : CtH l g tk_strs d 3 18 yL_replacementAnew cL_replacementAnew 4 (some .int) [(0, 9, 12, 21), (0, 9, 15, 15), (0, 9, 18, 38)] [.ref 0, .int a0, .ref 72] (SW V o D) (tk_I g (fun r u => ∃ (V : Mm) (o : Nat → Int64) (D : Nat → UInt64), u = SW V o D ∧ post r V o D)) (fun _ _ => False) := by
  refine ct_inH (by decide +kernel) (show 3 ≤ 4 by decide) (by simp [Value.category]) hl (fun X J O => ?_)
  show Ab X g 0 0 _ 0 [some (.ref 0), some (.int a0), some (.ref 72), none] [] _
  refine ab_aload_n O 2 dL_replacementAnew_0 rfl rfl ?_
  refine ab_iconst O 0 dL_replacementAnew_1 rfl ?_
  refine ab_aload_n O 0 dL_replacementAnew_2 rfl rfl ?_
  refine ab_iload_n O 1 dL_replacementAnew_3 rfl rfl ?_
  refine ab_callvI O J.2.2.2.2.2 (fr := False) (st := [.int 0, .ref 72]) lk_L_75 rfl (at_0 _ _ _) dL_replacementAnew_4 (c_X8_replacementAnew (d - 1) (by omega) _ O.2.2.2.2.2.2.1 _ _ _ _ h) rfl rfl ⟨by rw [J.2.1]; show d - 1 + 1 ≤ d; omega, by rw [J.2.1]; show 8 + (_ + 11) + 36 * (d - 1) ≤ 36 * d; omega⟩ (show 2 ≤ 8 by decide) ⟨by rw [J.2.1]; show 0 + 3 ≤ 3; decide, by rw [J.2.1]; show 0 + 18 ≤ 18; decide⟩ (fun q => q.elim) ?_ ?_
  · intro E u hu
    obtain ⟨V9, rfl, q⟩ := hu
    rcases q with ⟨rfl, q⟩ | ⟨rfl, q⟩ | ⟨rfl, q⟩
    · refine abx_catch O J [] [(0, 9, 15, 15), (0, 9, 18, 38)] rfl (fun z hz => by cases hz) ⟨by decide, by decide⟩ (by decide) cl_L_21 (by decide) (i := 3) (len := 1) (Or.inl ⟨_, dL_replacementAnew_12, rfl, rfl⟩) (show 3 < 4 by decide) ?_
      refine ab_iconst O 1 dL_replacementAnew_13 rfl ?_
      exact ab_ireturnJ O J dL_replacementAnew_14 (by decide) (by decide) ⟨_, _, _, rfl, q⟩
    · refine abx_catch O J [(0, 9, 12, 21)] [(0, 9, 18, 38)] rfl (fun z hz => by
        simp only [List.mem_cons, List.not_mem_nil, or_false] at hz
        rcases hz with rfl
        · exact ⟨by decide, "java/lang/IndexOutOfBoundsException", by decide, cl_L_21, by decide⟩) ⟨by decide, by decide⟩ (by decide) cl_L_15 (by decide) (i := 3) (len := 1) (Or.inl ⟨_, dL_replacementAnew_15, rfl, rfl⟩) (show 3 < 4 by decide) ?_
      refine ab_iconst O 2 dL_replacementAnew_16 rfl ?_
      exact ab_ireturnJ O J dL_replacementAnew_17 (by decide) (by decide) ⟨_, _, _, rfl, q⟩
    · refine abx_catch O J [(0, 9, 12, 21), (0, 9, 15, 15)] [] rfl (fun z hz => by
        simp only [List.mem_cons, List.not_mem_nil, or_false] at hz
        rcases hz with rfl | rfl
        · exact ⟨by decide, "java/lang/IndexOutOfBoundsException", by decide, cl_L_21, by decide⟩
        · exact ⟨by decide, "java/lang/IllegalStateException", by decide, cl_L_15, by decide⟩) ⟨by decide, by decide⟩ (by decide) cl_L_38 (by decide) (i := 3) (len := 1) (Or.inl ⟨_, dL_replacementAnew_18, rfl, rfl⟩) (show 3 < 4 by decide) ?_
      refine ab_iconst O 3 dL_replacementAnew_19 rfl ?_
      exact ab_ireturnJ O J dL_replacementAnew_20 (by decide) (by decide) ⟨_, _, _, rfl, q⟩
  · intro r u hu
    obtain ⟨V1, rfl, h⟩ := hu
    refine ab_i2l O dL_replacementAnew_7 ?_
    refine ab_last O dL_replacementAnew_8 (at_72 _ _ _) (by unfold vp_in; decide) ?_
    refine ab_eq ?_ rfl rfl rfl (so_72 _ _ _ _).symm
    refine ab_goto O 21 dL_replacementAnew_9 rfl ?_
    refine ab_iconst O 0 dL_replacementAnew_21 rfl ?_
    exact ab_ireturnJ O J dL_replacementAnew_22 (by decide) (by decide) ⟨_, _, _, rfl, h⟩

def wp_L_setValue (V : Mm) (a0 a1 : Int32) (o : Nat → Int64) (D : Nat → UInt64) (post : Int32 → Mm → (Nat → Int64) → (Nat → UInt64) → Prop) : Prop := wp_X8_setValue V a0 a1 (fun (r : Int32) (V1 : Mm) => post 0 V1 (vp_updL o 0 r.toInt64) D) (fun (E : String) (V1 : Mm) => (E = "java/lang/IndexOutOfBoundsException" ∧ post 1 V1 o D) ∨ (E = "java/lang/IllegalArgumentException" ∧ post 2 V1 o D))
set_option maxHeartbeats 4000000 in
theorem c_L_setValue (d : Nat) (hd : 8 ≤ d) (l : Launch) (hl : l.stackTraces = false) (g : ab_G) (o : Nat → Int64) (D : Nat → UInt64) (a0 a1 : Int32) {V : Mm} {post : Int32 → Mm → (Nat → Int64) → (Nat → UInt64) → Prop} (h : wp_L_setValue V a0 a1 o D post) : CtH l g tk_strs d 2 12 yL_setValue cL_setValue 5 (some .int) [(0, 10, 13, 21), (0, 10, 17, 13)] [.ref 0, .int a0, .int a1, .ref 72] (SW V o D) (tk_I g (fun r u => ∃ (V : Mm) (o : Nat → Int64) (D : Nat → UInt64), u = SW V o D ∧ post r V o D)) (fun _ _ => False) := by
  refine ct_inH (by decide +kernel) (show 4 ≤ 5 by decide) (by simp [Value.category]) hl (fun X J O => ?_)
  show Ab X g 0 0 _ 0 [some (.ref 0), some (.int a0), some (.int a1), some (.ref 72), none] [] _
  refine ab_aload_n O 3 dL_setValue_0 rfl rfl ?_
  refine ab_iconst O 0 dL_setValue_1 rfl ?_
  refine ab_aload_n O 0 dL_setValue_2 rfl rfl ?_
  refine ab_iload_n O 1 dL_setValue_3 rfl rfl ?_
  refine ab_iload_n O 2 dL_setValue_4 rfl rfl ?_
  refine ab_callvI O J.2.2.2.2.2 (fr := False) (st := [.int 0, .ref 72]) lk_L_17 rfl (at_0 _ _ _) dL_setValue_5 (c_X8_setValue (d - 1) (by omega) _ O.2.2.2.2.2.2.1 _ _ _ _ _ h) rfl rfl ⟨by rw [J.2.1]; show d - 1 + 1 ≤ d; omega, by rw [J.2.1]; show 8 + (_ + 11) + 36 * (d - 1) ≤ 36 * d; omega⟩ (show 2 ≤ 8 by decide) ⟨by rw [J.2.1]; show 0 + 2 ≤ 2; decide, by rw [J.2.1]; show 0 + 12 ≤ 12; decide⟩ (fun q => q.elim) ?_ ?_
  · intro E u hu
    obtain ⟨V9, rfl, q⟩ := hu
    rcases q with ⟨rfl, q⟩ | ⟨rfl, q⟩
    · refine abx_catch O J [] [(0, 10, 17, 13)] rfl (fun z hz => by cases hz) ⟨by decide, by decide⟩ (by decide) cl_L_21 (by decide) (i := 4) (len := 2) (Or.inr ⟨dL_setValue_13, rfl⟩) (show 4 < 5 by decide) ?_
      refine ab_iconst O 1 dL_setValue_15 rfl ?_
      exact ab_ireturnJ O J dL_setValue_16 (by decide) (by decide) ⟨_, _, _, rfl, q⟩
    · refine abx_catch O J [(0, 10, 13, 21)] [] rfl (fun z hz => by
        simp only [List.mem_cons, List.not_mem_nil, or_false] at hz
        rcases hz with rfl
        · exact ⟨by decide, "java/lang/IndexOutOfBoundsException", by decide, cl_L_21, by decide⟩) ⟨by decide, by decide⟩ (by decide) cl_L_13 (by decide) (i := 4) (len := 2) (Or.inr ⟨dL_setValue_17, rfl⟩) (show 4 < 5 by decide) ?_
      refine ab_iconst O 2 dL_setValue_19 rfl ?_
      exact ab_ireturnJ O J dL_setValue_20 (by decide) (by decide) ⟨_, _, _, rfl, q⟩
  · intro r u hu
    obtain ⟨V1, rfl, h⟩ := hu
    refine ab_i2l O dL_setValue_8 ?_
    refine ab_last O dL_setValue_9 (at_72 _ _ _) (by unfold vp_in; decide) ?_
    refine ab_eq ?_ rfl rfl rfl (so_72 _ _ _ _).symm
    refine ab_goto O 21 dL_setValue_10 rfl ?_
    refine ab_iconst O 0 dL_setValue_21 rfl ?_
    exact ab_ireturnJ O J dL_setValue_22 (by decide) (by decide) ⟨_, _, _, rfl, h⟩

def wp_L_setWeight (V : Mm) (a0 a1 : Int32) (o : Nat → Int64) (D : Nat → UInt64) (post : Int32 → Mm → (Nat → Int64) → (Nat → UInt64) → Prop) : Prop := wp_X8_setWeight V a0 a1 (fun (r : Int32) (V1 : Mm) => post 0 V1 (vp_updL o 0 r.toInt64) D) (fun (E : String) (V1 : Mm) => (E = "java/lang/IndexOutOfBoundsException" ∧ post 1 V1 o D) ∨ (E = "java/lang/IllegalArgumentException" ∧ post 2 V1 o D) ∨ (E = "java/lang/IllegalStateException" ∧ post 3 V1 o D))
set_option maxHeartbeats 4000000 in
theorem c_L_setWeight (d : Nat) (hd : 8 ≤ d) (l : Launch) (hl : l.stackTraces = false) (g : ab_G) (o : Nat → Int64) (D : Nat → UInt64) (a0 a1 : Int32) {V : Mm} {post : Int32 → Mm → (Nat → Int64) → (Nat → UInt64) → Prop} (h : wp_L_setWeight V a0 a1 o D post) : CtH l g tk_strs d 3 18 yL_setWeight cL_setWeight 5 (some .int) [(0, 10, 13, 21), (0, 10, 17, 13), (0, 10, 21, 15)] [.ref 0, .int a0, .int a1, .ref 72] (SW V o D) (tk_I g (fun r u => ∃ (V : Mm) (o : Nat → Int64) (D : Nat → UInt64), u = SW V o D ∧ post r V o D)) (fun _ _ => False) := by
  refine ct_inH (by decide +kernel) (show 4 ≤ 5 by decide) (by simp [Value.category]) hl (fun X J O => ?_)
  show Ab X g 0 0 _ 0 [some (.ref 0), some (.int a0), some (.int a1), some (.ref 72), none] [] _
  refine ab_aload_n O 3 dL_setWeight_0 rfl rfl ?_
  refine ab_iconst O 0 dL_setWeight_1 rfl ?_
  refine ab_aload_n O 0 dL_setWeight_2 rfl rfl ?_
  refine ab_iload_n O 1 dL_setWeight_3 rfl rfl ?_
  refine ab_iload_n O 2 dL_setWeight_4 rfl rfl ?_
  refine ab_callvI O J.2.2.2.2.2 (fr := False) (st := [.int 0, .ref 72]) lk_L_32 rfl (at_0 _ _ _) dL_setWeight_5 (c_X8_setWeight (d - 1) (by omega) _ O.2.2.2.2.2.2.1 _ _ _ _ _ h) rfl rfl ⟨by rw [J.2.1]; show d - 1 + 1 ≤ d; omega, by rw [J.2.1]; show 8 + (_ + 11) + 36 * (d - 1) ≤ 36 * d; omega⟩ (show 2 ≤ 8 by decide) ⟨by rw [J.2.1]; show 0 + 3 ≤ 3; decide, by rw [J.2.1]; show 0 + 18 ≤ 18; decide⟩ (fun q => q.elim) ?_ ?_
  · intro E u hu
    obtain ⟨V9, rfl, q⟩ := hu
    rcases q with ⟨rfl, q⟩ | ⟨rfl, q⟩ | ⟨rfl, q⟩
    · refine abx_catch O J [] [(0, 10, 17, 13), (0, 10, 21, 15)] rfl (fun z hz => by cases hz) ⟨by decide, by decide⟩ (by decide) cl_L_21 (by decide) (i := 4) (len := 2) (Or.inr ⟨dL_setWeight_13, rfl⟩) (show 4 < 5 by decide) ?_
      refine ab_iconst O 1 dL_setWeight_15 rfl ?_
      exact ab_ireturnJ O J dL_setWeight_16 (by decide) (by decide) ⟨_, _, _, rfl, q⟩
    · refine abx_catch O J [(0, 10, 13, 21)] [(0, 10, 21, 15)] rfl (fun z hz => by
        simp only [List.mem_cons, List.not_mem_nil, or_false] at hz
        rcases hz with rfl
        · exact ⟨by decide, "java/lang/IndexOutOfBoundsException", by decide, cl_L_21, by decide⟩) ⟨by decide, by decide⟩ (by decide) cl_L_13 (by decide) (i := 4) (len := 2) (Or.inr ⟨dL_setWeight_17, rfl⟩) (show 4 < 5 by decide) ?_
      refine ab_iconst O 2 dL_setWeight_19 rfl ?_
      exact ab_ireturnJ O J dL_setWeight_20 (by decide) (by decide) ⟨_, _, _, rfl, q⟩
    · refine abx_catch O J [(0, 10, 13, 21), (0, 10, 17, 13)] [] rfl (fun z hz => by
        simp only [List.mem_cons, List.not_mem_nil, or_false] at hz
        rcases hz with rfl | rfl
        · exact ⟨by decide, "java/lang/IndexOutOfBoundsException", by decide, cl_L_21, by decide⟩
        · exact ⟨by decide, "java/lang/IllegalArgumentException", by decide, cl_L_13, by decide⟩) ⟨by decide, by decide⟩ (by decide) cl_L_15 (by decide) (i := 4) (len := 2) (Or.inr ⟨dL_setWeight_21, rfl⟩) (show 4 < 5 by decide) ?_
      refine ab_iconst O 3 dL_setWeight_23 rfl ?_
      exact ab_ireturnJ O J dL_setWeight_24 (by decide) (by decide) ⟨_, _, _, rfl, q⟩
  · intro r u hu
    obtain ⟨V1, rfl, h⟩ := hu
    refine ab_i2l O dL_setWeight_8 ?_
    refine ab_last O dL_setWeight_9 (at_72 _ _ _) (by unfold vp_in; decide) ?_
    refine ab_eq ?_ rfl rfl rfl (so_72 _ _ _ _).symm
    refine ab_goto O 25 dL_setWeight_10 rfl ?_
    refine ab_iconst O 0 dL_setWeight_25 rfl ?_
    exact ab_ireturnJ O J dL_setWeight_26 (by decide) (by decide) ⟨_, _, _, rfl, h⟩

def wp_L_state (V : Mm) (a0 : Int32) (o : Nat → Int64) (D : Nat → UInt64) (post : Int32 → Mm → (Nat → Int64) → (Nat → UInt64) → Prop) : Prop := wp_X8_state V a0 (fun (r : Int32) (V1 : Mm) => post 0 V1 (vp_updL o 0 r.toInt64) D) (fun (E : String) (V1 : Mm) => (E = "java/lang/IndexOutOfBoundsException" ∧ post 1 V1 o D))
set_option maxHeartbeats 4000000 in
theorem c_L_state (d : Nat) (hd : 8 ≤ d) (l : Launch) (hl : l.stackTraces = false) (g : ab_G) (o : Nat → Int64) (D : Nat → UInt64) (a0 : Int32) {V : Mm} {post : Int32 → Mm → (Nat → Int64) → (Nat → UInt64) → Prop} (h : wp_L_state V a0 o D post) : CtH l g tk_strs d 1 6 yL_state cL_state 4 (some .int) [(0, 9, 12, 21)] [.ref 0, .int a0, .ref 72] (SW V o D) (tk_I g (fun r u => ∃ (V : Mm) (o : Nat → Int64) (D : Nat → UInt64), u = SW V o D ∧ post r V o D)) (fun _ _ => False) := by
  refine ct_inH (by decide +kernel) (show 3 ≤ 4 by decide) (by simp [Value.category]) hl (fun X J O => ?_)
  show Ab X g 0 0 _ 0 [some (.ref 0), some (.int a0), some (.ref 72), none] [] _
  refine ab_aload_n O 2 dL_state_0 rfl rfl ?_
  refine ab_iconst O 0 dL_state_1 rfl ?_
  refine ab_aload_n O 0 dL_state_2 rfl rfl ?_
  refine ab_iload_n O 1 dL_state_3 rfl rfl ?_
  refine ab_callvI O J.2.2.2.2.2 (fr := False) (st := [.int 0, .ref 72]) lk_L_46 rfl (at_0 _ _ _) dL_state_4 (c_X8_state (d - 1) (by omega) _ O.2.2.2.2.2.2.1 _ _ _ _ h) rfl rfl ⟨by rw [J.2.1]; show d - 1 + 1 ≤ d; omega, by rw [J.2.1]; show 8 + (_ + 11) + 36 * (d - 1) ≤ 36 * d; omega⟩ (show 2 ≤ 8 by decide) ⟨by rw [J.2.1]; show 0 + 1 ≤ 1; decide, by rw [J.2.1]; show 0 + 6 ≤ 6; decide⟩ (fun q => q.elim) ?_ ?_
  · intro E u hu
    obtain ⟨V9, rfl, q⟩ := hu
    obtain ⟨rfl, q⟩ := q
    refine abx_catch O J [] [] rfl (fun z hz => by cases hz) ⟨by decide, by decide⟩ (by decide) cl_L_21 (by decide) (i := 3) (len := 1) (Or.inl ⟨_, dL_state_12, rfl, rfl⟩) (show 3 < 4 by decide) ?_
    refine ab_iconst O 1 dL_state_13 rfl ?_
    exact ab_ireturnJ O J dL_state_14 (by decide) (by decide) ⟨_, _, _, rfl, q⟩
  · intro r u hu
    obtain ⟨V1, rfl, h⟩ := hu
    refine ab_i2l O dL_state_7 ?_
    refine ab_last O dL_state_8 (at_72 _ _ _) (by unfold vp_in; decide) ?_
    refine ab_eq ?_ rfl rfl rfl (so_72 _ _ _ _).symm
    refine ab_goto O 15 dL_state_9 rfl ?_
    refine ab_iconst O 0 dL_state_15 rfl ?_
    exact ab_ireturnJ O J dL_state_16 (by decide) (by decide) ⟨_, _, _, rfl, h⟩

def wp_L_subtreeSize (V : Mm) (a0 a1 : Int32) (o : Nat → Int64) (D : Nat → UInt64) (post : Int32 → Mm → (Nat → Int64) → (Nat → UInt64) → Prop) : Prop := wp_X8_subtreeSize V a0 a1 (fun (r : Int32) (V1 : Mm) => post 0 V1 (vp_updL o 0 r.toInt64) D) (fun (E : String) (V1 : Mm) => (E = "java/lang/IndexOutOfBoundsException" ∧ post 1 V1 o D) ∨ (E = "java/util/NoSuchElementException" ∧ post 2 V1 o D))
set_option maxHeartbeats 4000000 in
theorem c_L_subtreeSize (d : Nat) (hd : 9 ≤ d) (l : Launch) (hl : l.stackTraces = false) (g : ab_G) (o : Nat → Int64) (D : Nat → UInt64) (a0 a1 : Int32) {V : Mm} {post : Int32 → Mm → (Nat → Int64) → (Nat → UInt64) → Prop} (h : wp_L_subtreeSize V a0 a1 o D post) : CtH l g tk_strs d 3 18 yL_subtreeSize cL_subtreeSize 5 (some .int) [(0, 10, 13, 21), (0, 10, 17, 38)] [.ref 0, .int a0, .int a1, .ref 72] (SW V o D) (tk_I g (fun r u => ∃ (V : Mm) (o : Nat → Int64) (D : Nat → UInt64), u = SW V o D ∧ post r V o D)) (fun _ _ => False) := by
  refine ct_inH (by decide +kernel) (show 4 ≤ 5 by decide) (by simp [Value.category]) hl (fun X J O => ?_)
  show Ab X g 0 0 _ 0 [some (.ref 0), some (.int a0), some (.int a1), some (.ref 72), none] [] _
  refine ab_aload_n O 3 dL_subtreeSize_0 rfl rfl ?_
  refine ab_iconst O 0 dL_subtreeSize_1 rfl ?_
  refine ab_aload_n O 0 dL_subtreeSize_2 rfl rfl ?_
  refine ab_iload_n O 1 dL_subtreeSize_3 rfl rfl ?_
  refine ab_iload_n O 2 dL_subtreeSize_4 rfl rfl ?_
  refine ab_callvI O J.2.2.2.2.2 (fr := False) (st := [.int 0, .ref 72]) lk_L_121 rfl (at_0 _ _ _) dL_subtreeSize_5 (c_X8_subtreeSize (d - 1) (by omega) _ O.2.2.2.2.2.2.1 _ _ _ _ _ h) rfl rfl ⟨by rw [J.2.1]; show d - 1 + 1 ≤ d; omega, by rw [J.2.1]; show 8 + (_ + 11) + 36 * (d - 1) ≤ 36 * d; omega⟩ (show 2 ≤ 8 by decide) ⟨by rw [J.2.1]; show 0 + 3 ≤ 3; decide, by rw [J.2.1]; show 0 + 18 ≤ 18; decide⟩ (fun q => q.elim) ?_ ?_
  · intro E u hu
    obtain ⟨V9, rfl, q⟩ := hu
    rcases q with ⟨rfl, q⟩ | ⟨rfl, q⟩
    · refine abx_catch O J [] [(0, 10, 17, 38)] rfl (fun z hz => by cases hz) ⟨by decide, by decide⟩ (by decide) cl_L_21 (by decide) (i := 4) (len := 2) (Or.inr ⟨dL_subtreeSize_13, rfl⟩) (show 4 < 5 by decide) ?_
      refine ab_iconst O 1 dL_subtreeSize_15 rfl ?_
      exact ab_ireturnJ O J dL_subtreeSize_16 (by decide) (by decide) ⟨_, _, _, rfl, q⟩
    · refine abx_catch O J [(0, 10, 13, 21)] [] rfl (fun z hz => by
        simp only [List.mem_cons, List.not_mem_nil, or_false] at hz
        rcases hz with rfl
        · exact ⟨by decide, "java/lang/IndexOutOfBoundsException", by decide, cl_L_21, by decide⟩) ⟨by decide, by decide⟩ (by decide) cl_L_38 (by decide) (i := 4) (len := 2) (Or.inr ⟨dL_subtreeSize_17, rfl⟩) (show 4 < 5 by decide) ?_
      refine ab_iconst O 2 dL_subtreeSize_19 rfl ?_
      exact ab_ireturnJ O J dL_subtreeSize_20 (by decide) (by decide) ⟨_, _, _, rfl, q⟩
  · intro r u hu
    obtain ⟨V1, rfl, h⟩ := hu
    refine ab_i2l O dL_subtreeSize_8 ?_
    refine ab_last O dL_subtreeSize_9 (at_72 _ _ _) (by unfold vp_in; decide) ?_
    refine ab_eq ?_ rfl rfl rfl (so_72 _ _ _ _).symm
    refine ab_goto O 21 dL_subtreeSize_10 rfl ?_
    refine ab_iconst O 0 dL_subtreeSize_21 rfl ?_
    exact ab_ireturnJ O J dL_subtreeSize_22 (by decide) (by decide) ⟨_, _, _, rfl, h⟩

def wp_L_subtreeSum (V : Mm) (a0 a1 : Int32) (o : Nat → Int64) (D : Nat → UInt64) (post : Int32 → Mm → (Nat → Int64) → (Nat → UInt64) → Prop) : Prop := wp_X8_subtreeSum V a0 a1 (fun (r : Int32) (V1 : Mm) => post 0 V1 (vp_updL o 0 r.toInt64) D) (fun (E : String) (V1 : Mm) => (E = "java/lang/IndexOutOfBoundsException" ∧ post 1 V1 o D) ∨ (E = "java/util/NoSuchElementException" ∧ post 2 V1 o D))
set_option maxHeartbeats 4000000 in
theorem c_L_subtreeSum (d : Nat) (hd : 9 ≤ d) (l : Launch) (hl : l.stackTraces = false) (g : ab_G) (o : Nat → Int64) (D : Nat → UInt64) (a0 a1 : Int32) {V : Mm} {post : Int32 → Mm → (Nat → Int64) → (Nat → UInt64) → Prop} (h : wp_L_subtreeSum V a0 a1 o D post) : CtH l g tk_strs d 3 18 yL_subtreeSum cL_subtreeSum 5 (some .int) [(0, 10, 13, 21), (0, 10, 17, 38)] [.ref 0, .int a0, .int a1, .ref 72] (SW V o D) (tk_I g (fun r u => ∃ (V : Mm) (o : Nat → Int64) (D : Nat → UInt64), u = SW V o D ∧ post r V o D)) (fun _ _ => False) := by
  refine ct_inH (by decide +kernel) (show 4 ≤ 5 by decide) (by simp [Value.category]) hl (fun X J O => ?_)
  show Ab X g 0 0 _ 0 [some (.ref 0), some (.int a0), some (.int a1), some (.ref 72), none] [] _
  refine ab_aload_n O 3 dL_subtreeSum_0 rfl rfl ?_
  refine ab_iconst O 0 dL_subtreeSum_1 rfl ?_
  refine ab_aload_n O 0 dL_subtreeSum_2 rfl rfl ?_
  refine ab_iload_n O 1 dL_subtreeSum_3 rfl rfl ?_
  refine ab_iload_n O 2 dL_subtreeSum_4 rfl rfl ?_
  refine ab_callvI O J.2.2.2.2.2 (fr := False) (st := [.int 0, .ref 72]) lk_L_124 rfl (at_0 _ _ _) dL_subtreeSum_5 (c_X8_subtreeSum (d - 1) (by omega) _ O.2.2.2.2.2.2.1 _ _ _ _ _ h) rfl rfl ⟨by rw [J.2.1]; show d - 1 + 1 ≤ d; omega, by rw [J.2.1]; show 8 + (_ + 11) + 36 * (d - 1) ≤ 36 * d; omega⟩ (show 2 ≤ 8 by decide) ⟨by rw [J.2.1]; show 0 + 3 ≤ 3; decide, by rw [J.2.1]; show 0 + 18 ≤ 18; decide⟩ (fun q => q.elim) ?_ ?_
  · intro E u hu
    obtain ⟨V9, rfl, q⟩ := hu
    rcases q with ⟨rfl, q⟩ | ⟨rfl, q⟩
    · refine abx_catch O J [] [(0, 10, 17, 38)] rfl (fun z hz => by cases hz) ⟨by decide, by decide⟩ (by decide) cl_L_21 (by decide) (i := 4) (len := 2) (Or.inr ⟨dL_subtreeSum_13, rfl⟩) (show 4 < 5 by decide) ?_
      refine ab_iconst O 1 dL_subtreeSum_15 rfl ?_
      exact ab_ireturnJ O J dL_subtreeSum_16 (by decide) (by decide) ⟨_, _, _, rfl, q⟩
    · refine abx_catch O J [(0, 10, 13, 21)] [] rfl (fun z hz => by
        simp only [List.mem_cons, List.not_mem_nil, or_false] at hz
        rcases hz with rfl
        · exact ⟨by decide, "java/lang/IndexOutOfBoundsException", by decide, cl_L_21, by decide⟩) ⟨by decide, by decide⟩ (by decide) cl_L_38 (by decide) (i := 4) (len := 2) (Or.inr ⟨dL_subtreeSum_17, rfl⟩) (show 4 < 5 by decide) ?_
      refine ab_iconst O 2 dL_subtreeSum_19 rfl ?_
      exact ab_ireturnJ O J dL_subtreeSum_20 (by decide) (by decide) ⟨_, _, _, rfl, q⟩
  · intro r u hu
    obtain ⟨V1, rfl, h⟩ := hu
    refine ab_i2l O dL_subtreeSum_8 ?_
    refine ab_last O dL_subtreeSum_9 (at_72 _ _ _) (by unfold vp_in; decide) ?_
    refine ab_eq ?_ rfl rfl rfl (so_72 _ _ _ _).symm
    refine ab_goto O 21 dL_subtreeSum_10 rfl ?_
    refine ab_iconst O 0 dL_subtreeSum_21 rfl ?_
    exact ab_ireturnJ O J dL_subtreeSum_22 (by decide) (by decide) ⟨_, _, _, rfl, h⟩

def wp_L_value (V : Mm) (a0 : Int32) (o : Nat → Int64) (D : Nat → UInt64) (post : Int32 → Mm → (Nat → Int64) → (Nat → UInt64) → Prop) : Prop := wp_X8_value V a0 (fun (r : Int32) (V1 : Mm) => post 0 V1 (vp_updL o 0 r.toInt64) D) (fun (E : String) (V1 : Mm) => (E = "java/lang/IndexOutOfBoundsException" ∧ post 1 V1 o D))
set_option maxHeartbeats 4000000 in
theorem c_L_value (d : Nat) (hd : 8 ≤ d) (l : Launch) (hl : l.stackTraces = false) (g : ab_G) (o : Nat → Int64) (D : Nat → UInt64) (a0 : Int32) {V : Mm} {post : Int32 → Mm → (Nat → Int64) → (Nat → UInt64) → Prop} (h : wp_L_value V a0 o D post) : CtH l g tk_strs d 1 6 yL_value cL_value 4 (some .int) [(0, 9, 12, 21)] [.ref 0, .int a0, .ref 72] (SW V o D) (tk_I g (fun r u => ∃ (V : Mm) (o : Nat → Int64) (D : Nat → UInt64), u = SW V o D ∧ post r V o D)) (fun _ _ => False) := by
  refine ct_inH (by decide +kernel) (show 3 ≤ 4 by decide) (by simp [Value.category]) hl (fun X J O => ?_)
  show Ab X g 0 0 _ 0 [some (.ref 0), some (.int a0), some (.ref 72), none] [] _
  refine ab_aload_n O 2 dL_value_0 rfl rfl ?_
  refine ab_iconst O 0 dL_value_1 rfl ?_
  refine ab_aload_n O 0 dL_value_2 rfl rfl ?_
  refine ab_iload_n O 1 dL_value_3 rfl rfl ?_
  refine ab_callvI O J.2.2.2.2.2 (fr := False) (st := [.int 0, .ref 72]) lk_L_40 rfl (at_0 _ _ _) dL_value_4 (c_X8_value (d - 1) (by omega) _ O.2.2.2.2.2.2.1 _ _ _ _ h) rfl rfl ⟨by rw [J.2.1]; show d - 1 + 1 ≤ d; omega, by rw [J.2.1]; show 8 + (_ + 11) + 36 * (d - 1) ≤ 36 * d; omega⟩ (show 2 ≤ 8 by decide) ⟨by rw [J.2.1]; show 0 + 1 ≤ 1; decide, by rw [J.2.1]; show 0 + 6 ≤ 6; decide⟩ (fun q => q.elim) ?_ ?_
  · intro E u hu
    obtain ⟨V9, rfl, q⟩ := hu
    obtain ⟨rfl, q⟩ := q
    refine abx_catch O J [] [] rfl (fun z hz => by cases hz) ⟨by decide, by decide⟩ (by decide) cl_L_21 (by decide) (i := 3) (len := 1) (Or.inl ⟨_, dL_value_12, rfl, rfl⟩) (show 3 < 4 by decide) ?_
    refine ab_iconst O 1 dL_value_13 rfl ?_
    exact ab_ireturnJ O J dL_value_14 (by decide) (by decide) ⟨_, _, _, rfl, q⟩
  · intro r u hu
    obtain ⟨V1, rfl, h⟩ := hu
    refine ab_i2l O dL_value_7 ?_
    refine ab_last O dL_value_8 (at_72 _ _ _) (by unfold vp_in; decide) ?_
    refine ab_eq ?_ rfl rfl rfl (so_72 _ _ _ _).symm
    refine ab_goto O 15 dL_value_9 rfl ?_
    refine ab_iconst O 0 dL_value_15 rfl ?_
    exact ab_ireturnJ O J dL_value_16 (by decide) (by decide) ⟨_, _, _, rfl, h⟩

def wp_L_weight (V : Mm) (a0 : Int32) (o : Nat → Int64) (D : Nat → UInt64) (post : Int32 → Mm → (Nat → Int64) → (Nat → UInt64) → Prop) : Prop := wp_X8_weight V a0 (fun (r : Int32) (V1 : Mm) => post 0 V1 (vp_updL o 0 r.toInt64) D) (fun (E : String) (V1 : Mm) => (E = "java/lang/IndexOutOfBoundsException" ∧ post 1 V1 o D))
set_option maxHeartbeats 4000000 in
theorem c_L_weight (d : Nat) (hd : 8 ≤ d) (l : Launch) (hl : l.stackTraces = false) (g : ab_G) (o : Nat → Int64) (D : Nat → UInt64) (a0 : Int32) {V : Mm} {post : Int32 → Mm → (Nat → Int64) → (Nat → UInt64) → Prop} (h : wp_L_weight V a0 o D post) : CtH l g tk_strs d 1 6 yL_weight cL_weight 4 (some .int) [(0, 9, 12, 21)] [.ref 0, .int a0, .ref 72] (SW V o D) (tk_I g (fun r u => ∃ (V : Mm) (o : Nat → Int64) (D : Nat → UInt64), u = SW V o D ∧ post r V o D)) (fun _ _ => False) := by
  refine ct_inH (by decide +kernel) (show 3 ≤ 4 by decide) (by simp [Value.category]) hl (fun X J O => ?_)
  show Ab X g 0 0 _ 0 [some (.ref 0), some (.int a0), some (.ref 72), none] [] _
  refine ab_aload_n O 2 dL_weight_0 rfl rfl ?_
  refine ab_iconst O 0 dL_weight_1 rfl ?_
  refine ab_aload_n O 0 dL_weight_2 rfl rfl ?_
  refine ab_iload_n O 1 dL_weight_3 rfl rfl ?_
  refine ab_callvI O J.2.2.2.2.2 (fr := False) (st := [.int 0, .ref 72]) lk_L_43 rfl (at_0 _ _ _) dL_weight_4 (c_X8_weight (d - 1) (by omega) _ O.2.2.2.2.2.2.1 _ _ _ _ h) rfl rfl ⟨by rw [J.2.1]; show d - 1 + 1 ≤ d; omega, by rw [J.2.1]; show 8 + (_ + 11) + 36 * (d - 1) ≤ 36 * d; omega⟩ (show 2 ≤ 8 by decide) ⟨by rw [J.2.1]; show 0 + 1 ≤ 1; decide, by rw [J.2.1]; show 0 + 6 ≤ 6; decide⟩ (fun q => q.elim) ?_ ?_
  · intro E u hu
    obtain ⟨V9, rfl, q⟩ := hu
    obtain ⟨rfl, q⟩ := q
    refine abx_catch O J [] [] rfl (fun z hz => by cases hz) ⟨by decide, by decide⟩ (by decide) cl_L_21 (by decide) (i := 3) (len := 1) (Or.inl ⟨_, dL_weight_12, rfl, rfl⟩) (show 3 < 4 by decide) ?_
    refine ab_iconst O 1 dL_weight_13 rfl ?_
    exact ab_ireturnJ O J dL_weight_14 (by decide) (by decide) ⟨_, _, _, rfl, q⟩
  · intro r u hu
    obtain ⟨V1, rfl, h⟩ := hu
    refine ab_i2l O dL_weight_7 ?_
    refine ab_last O dL_weight_8 (at_72 _ _ _) (by unfold vp_in; decide) ?_
    refine ab_eq ?_ rfl rfl rfl (so_72 _ _ _ _).symm
    refine ab_goto O 15 dL_weight_9 rfl ?_
    refine ab_iconst O 0 dL_weight_15 rfl ?_
    exact ab_ireturnJ O J dL_weight_16 (by decide) (by decide) ⟨_, _, _, rfl, h⟩

