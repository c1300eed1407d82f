/-! THE CLAIM OUT OF ONE WALK OF THE LAW'S BODY. Your part is whole_start (and what it stands on); all else here is the same for every law, but numbers. -/
def R_law : String := "ThicketLaw"
def lw_P (b : Addr) (xs : List Int32) (args : Array Value) (s : State) : Prop := args = #[.ref b] ∧ s.IntsAt b xs ∧ xs.length ≤ 2048 ∧ (Jvm.Cond.and given_1 narrow_1).before args s = true
/-- what a walk over the start with the record d0 says of its end, said of the start itself -/
theorem lw_closed {s t : State} {o : Outcome} {d0 : Drawn} {L : List Loc} {k n : Nat} (hd0 : s.drawn.sameBut d0 lw_cs) (hv : ∃ v, o = .returned v) (hW : (s.setDrawn d0).WarmedH t.vm) (hs : (s.setDrawn d0).sameButNew ({ t with vm := s.vm } : State) L k n) : State.butDraws s t lw_cs (fun t1 => Framed s o t1 L k n) := by
  have h2 : t.drawn = d0 := congrArg State.drawn hs.1
  refine ⟨⟨hv, hW, State.sameButNew.setDrawn hs s.drawn⟩, ?_, by decide⟩
  rw [h2]
  exact hd0
def lw_Q (_ : Array Value) (s : State) (o : Outcome) (t : State) : Prop := o = .returned (some (.int 1)) ∧ State.butDraws s t lw_cs (fun t1 => Framed s o t1 [] 601024 7293034)
def lw_Z (below : List Frame) (a : Array Value) (s : State) : State → Prop := fun t => ∃ o, t.status = .running ∧ Ended t below o ∧ lw_Q a s o t
/-- the law's own end, with 1 on the stack, nothing written that was there before, its room as the claim has it; d0: the record of draws at this point (at the entry s.drawn: begin with 'refine W.base ?_' and 'have hd0 := Drawn.sameBut.refl s.drawn lw_cs') -/
theorem lw_ret {p : Program} {l : Launch} {e : Env} {s : State} {m : MethodId} {below : List Frame} {meth : Method} {c : Code} {b : Nat} {d0 : Drawn} (hd0 : s.drawn.sameBut d0 lw_cs) (hx : p.tables.exec = Jvm.exec) (hb : c.code = code) (hr : meth.sig.returnType = ret) (hlocks : meth.locks = false) {pc : Nat} {H : Heap} {ls : Array Slot} (hdg : decode code pc = .ok (.ireturn, 1)) : W p l e room_1 (s.setDrawn d0) m #[Value.ref b] below meth c H [] 601024 7293034 (lw_Z below #[Value.ref b] s) (F0 m pc ls [.int 1]) := by
  intro T hT X
  obtain ⟨fs, hret, hrun, hended, hW, hframe⟩ := X.leave (v := some (.int 1)) (hlocks := hlocks) (fun h => by rw [hr] at h; cases h)
  have hmeth' : T.vm.method? m = some meth := X.method'
  refine ⟨T.setFrames fs, ?_, .returned (some (.int 1)), hrun, hended, rfl, lw_closed hd0 ⟨_, rfl⟩ hW hframe⟩
  jvm_step X.here [X.here.top, hx, hb, hdg, hmeth', hr, ret, narrow_b1]
  (try refine ⟨rfl, ?_⟩); (try refine ⟨rfl, ?_⟩)
  first | (intro acts; rw [hret _ acts rfl rfl rfl]) | rw [hret _ _ rfl rfl rfl]
  exact Steps.refl _
/-- what holds at the law's entry: the machine, the code, the tables' words (any of lw_tbl by 'hts w (by decide +kernel)'), the script of L ints xs at the cell b, what the Statement gives of the start (any of its parts by flat_of_before) -/
def lw_At (p : Program) (s : State) (m : MethodId) (meth : Method) (c : Code) (b L : Nat) (xs : Nat → Int32) : Prop :=
  p.tables.exec = Jvm.exec ∧ c.code = code ∧ meth.sig.returnType = ret ∧ c.maxLocals = 8 ∧ s.vm.findClass R_law = some m.cls ∧ (∀ w ∈ lw_tbl, w.before #[Value.ref b] s = true) ∧ va_X b L xs s s.heap ∧ b < s.heap.size ∧ meth.locks = false ∧ (Jvm.Cond.and given_1 narrow_1).before #[Value.ref b] s = true
/-- what must hold of one call of the script, by its number -/
def wp_case (V : Mm) (o : Nat → Int64) (D : Nat → UInt64) (a1 a2 a3 : Int32) (J : Mm → Prop) : Nat → Prop
  | 0 => wpc_0 V o D a1 a2 a3 J
  | 1 => wpc_1 V o D a1 a2 a3 J
  | 2 => wpc_2 V o D a1 a2 a3 J
  | 3 => wpc_3 V o D a1 a2 a3 J
  | 4 => wpc_4 V o D a1 a2 a3 J
  | 5 => wpc_5 V o D a1 a2 a3 J
  | 6 => wpc_6 V o D a1 a2 a3 J
  | 7 => wpc_7 V o D a1 a2 a3 J
  | 8 => wpc_8 V o D a1 a2 a3 J
  | 9 => wpc_9 V o D a1 a2 a3 J
  | 10 => wpc_10 V o D a1 a2 a3 J
  | 11 => wpc_11 V o D a1 a2 a3 J
  | 12 => wpc_12 V o D a1 a2 a3 J
  | 13 => wpc_13 V o D a1 a2 a3 J
  | 14 => wpc_14 V o D a1 a2 a3 J
  | 15 => wpc_15 V o D a1 a2 a3 J
  | 16 => wpc_16 V o D a1 a2 a3 J
  | 17 => wpc_17 V o D a1 a2 a3 J
  | 18 => wpc_18 V o D a1 a2 a3 J
  | 19 => wpc_19 V o D a1 a2 a3 J
  | 20 => wpc_20 V o D a1 a2 a3 J
  | 21 => wpc_21 V o D a1 a2 a3 J
  | 22 => wpc_22 V o D a1 a2 a3 J
  | 23 => wpc_23 V o D a1 a2 a3 J
  | 24 => wpc_24 V o D a1 a2 a3 J
  | 25 => wpc_25 V o D a1 a2 a3 J
  | 26 => wpc_26 V o D a1 a2 a3 J
  | 27 => wpc_27 V o D a1 a2 a3 J
  | 28 => wpc_28 V o D a1 a2 a3 J
  | 29 => wpc_29 V o D a1 a2 a3 J
  | 30 => wpc_30 V o D a1 a2 a3 J
  | 31 => wpc_31 V o D a1 a2 a3 J
  | 32 => wpc_32 V o D a1 a2 a3 J
  | 33 => wpc_33 V o D a1 a2 a3 J
  | 34 => wpc_34 V o D a1 a2 a3 J
  | 35 => wpc_35 V o D a1 a2 a3 J
  | 36 => wpc_36 V o D a1 a2 a3 J
  | 37 => wpc_37 V o D a1 a2 a3 J
  | 38 => wpc_38 V o D a1 a2 a3 J
  | 39 => wpc_39 V o D a1 a2 a3 J
  | 40 => wpc_40 V o D a1 a2 a3 J
  | 41 => wpc_41 V o D a1 a2 a3 J
  | 42 => wpc_42 V o D a1 a2 a3 J
  | 43 => wpc_43 V o D a1 a2 a3 J
  | 44 => wpc_44 V o D a1 a2 a3 J
  | _ => J V
theorem cc_all {X : ab_M} {g : ab_G} {cells slots b N : Nat} {xs9 : Nat → Int32} {Q : State → Prop} (O : ab_Ok X g cL_law RL) (hI : tk_S tk_strs (xs X)) (hR : xR X = room_1) (hX : va_X b N xs9 (xs X) (xs X).heap) (hbl : b < (xs X).heap.size) (hbA : ¬ g.1 ≤ b) (hc : cells + 6 ≤ 601024) (hs : slots + 36 ≤ 7293034) {x a1 a2 a3 : Int32} (hin1 : vp_in (x + 1) N) (hin2 : vp_in (x + 2) N) (hin3 : vp_in (x + 3) N) (e1 : xs9 (Int32.toNatClampNeg (x + 1)) = a1) (e2 : xs9 (Int32.toNatClampNeg (x + 2)) = a2) (e3 : xs9 (Int32.toNatClampNeg (x + 3)) = a3) {J : Mm → Prop} {V : Mm} {o : Nat → Int64} {D : Nat → UInt64} {k : Int32} {j : Nat} (hj : j < 64) (ek : k = nI j) (h : wp_case V o D a1 a2 a3 J j)
    (hk : ∀ (V : Mm) (o : Nat → Int64) (D : Nat → UInt64), J V → Ab X g (cells + 6) (slots + 36) Q 3013 [some (.retAddr b), some (.ref 0), some (.ref 57), some (.ref 72), some (.ref 73), some (.int x), none, none] [] (SW V o D)) : Ab X g cells slots Q 44 [some (.retAddr b), some (.ref 0), some (.ref 57), some (.ref 72), some (.ref 73), some (.int x), none, none] [.int k] (SW V o D) := by
  subst ek
  rcases Nat.lt_or_ge j 45 with hj | hj
  · rcases (show j = 0 ∨ j = 1 ∨ j = 2 ∨ j = 3 ∨ j = 4 ∨ j = 5 ∨ j = 6 ∨ j = 7 ∨ j = 8 ∨ j = 9 ∨ j = 10 ∨ j = 11 ∨ j = 12 ∨ j = 13 ∨ j = 14 ∨ j = 15 ∨ j = 16 ∨ j = 17 ∨ j = 18 ∨ j = 19 ∨ j = 20 ∨ j = 21 ∨ j = 22 ∨ j = 23 ∨ j = 24 ∨ j = 25 ∨ j = 26 ∨ j = 27 ∨ j = 28 ∨ j = 29 ∨ j = 30 ∨ j = 31 ∨ j = 32 ∨ j = 33 ∨ j = 34 ∨ j = 35 ∨ j = 36 ∨ j = 37 ∨ j = 38 ∨ j = 39 ∨ j = 40 ∨ j = 41 ∨ j = 42 ∨ j = 43 ∨ j = 44 by omega) with rfl | rfl | rfl | rfl | rfl | rfl | rfl | rfl | rfl | rfl | rfl | rfl | rfl | rfl | rfl | rfl | rfl | rfl | rfl | rfl | rfl | rfl | rfl | rfl | rfl | rfl | rfl | rfl | rfl | rfl | rfl | rfl | rfl | rfl | rfl | rfl | rfl | rfl | rfl | rfl | rfl | rfl | rfl | rfl | rfl
    · exact ab_tabIn (off := 196) O 240 dL_law_44 (by decide +kernel) (by decide +kernel) (by decide +kernel) rfl (cc_0 O hI hR hX hbl hbA hc hs hin1 hin2 hin3 e1 e2 e3 h hk)
    · exact ab_tabIn (off := 252) O 296 dL_law_44 (by decide +kernel) (by decide +kernel) (by decide +kernel) rfl (cc_1 O hI hR hX hbl hbA hc hs hin1 hin2 hin3 e1 e2 e3 h hk)
    · exact ab_tabIn (off := 320) O 364 dL_law_44 (by decide +kernel) (by decide +kernel) (by decide +kernel) rfl (cc_2 O hI hR hX hbl hbA hc hs hin1 hin2 hin3 e1 e2 e3 h hk)
    · exact ab_tabIn (off := 400) O 444 dL_law_44 (by decide +kernel) (by decide +kernel) (by decide +kernel) rfl (cc_3 O hI hR hX hbl hbA hc hs hin1 hin2 hin3 e1 e2 e3 h hk)
    · exact ab_tabIn (off := 456) O 500 dL_law_44 (by decide +kernel) (by decide +kernel) (by decide +kernel) rfl (cc_4 O hI hR hX hbl hbA hc hs hin1 hin2 hin3 e1 e2 e3 h hk)
    · exact ab_tabIn (off := 524) O 568 dL_law_44 (by decide +kernel) (by decide +kernel) (by decide +kernel) rfl (cc_5 O hI hR hX hbl hbA hc hs hin1 hin2 hin3 e1 e2 e3 h hk)
    · exact ab_tabIn (off := 604) O 648 dL_law_44 (by decide +kernel) (by decide +kernel) (by decide +kernel) rfl (cc_6 O hI hR hX hbl hbA hc hs hin1 hin2 hin3 e1 e2 e3 h hk)
    · exact ab_tabIn (off := 617) O 661 dL_law_44 (by decide +kernel) (by decide +kernel) (by decide +kernel) rfl (cc_7 O hI hR hX hbl hbA hc hs hin1 hin2 hin3 e1 e2 e3 h hk)
    · exact ab_tabIn (off := 630) O 674 dL_law_44 (by decide +kernel) (by decide +kernel) (by decide +kernel) rfl (cc_8 O hI hR hX hbl hbA hc hs hin1 hin2 hin3 e1 e2 e3 h hk)
    · exact ab_tabIn (off := 686) O 730 dL_law_44 (by decide +kernel) (by decide +kernel) (by decide +kernel) rfl (cc_9 O hI hR hX hbl hbA hc hs hin1 hin2 hin3 e1 e2 e3 h hk)
    · exact ab_tabIn (off := 742) O 786 dL_law_44 (by decide +kernel) (by decide +kernel) (by decide +kernel) rfl (cc_10 O hI hR hX hbl hbA hc hs hin1 hin2 hin3 e1 e2 e3 h hk)
    · exact ab_tabIn (off := 798) O 842 dL_law_44 (by decide +kernel) (by decide +kernel) (by decide +kernel) rfl (cc_11 O hI hR hX hbl hbA hc hs hin1 hin2 hin3 e1 e2 e3 h hk)
    · exact ab_tabIn (off := 866) O 910 dL_law_44 (by decide +kernel) (by decide +kernel) (by decide +kernel) rfl (cc_12 O hI hR hX hbl hbA hc hs hin1 hin2 hin3 e1 e2 e3 h hk)
    · exact ab_tabIn (off := 934) O 978 dL_law_44 (by decide +kernel) (by decide +kernel) (by decide +kernel) rfl (cc_13 O hI hR hX hbl hbA hc hs hin1 hin2 hin3 e1 e2 e3 h hk)
    · exact ab_tabIn (off := 1002) O 1046 dL_law_44 (by decide +kernel) (by decide +kernel) (by decide +kernel) rfl (cc_14 O hI hR hX hbl hbA hc hs hin1 hin2 hin3 e1 e2 e3 h hk)
    · exact ab_tabIn (off := 1015) O 1059 dL_law_44 (by decide +kernel) (by decide +kernel) (by decide +kernel) rfl (cc_15 O hI hR hX hbl hbA hc hs hin1 hin2 hin3 e1 e2 e3 h hk)
    · exact ab_tabIn (off := 1028) O 1072 dL_law_44 (by decide +kernel) (by decide +kernel) (by decide +kernel) rfl (cc_16 O hI hR hX hbl hbA hc hs hin1 hin2 hin3 e1 e2 e3 h hk)
    · exact ab_tabIn (off := 1041) O 1085 dL_law_44 (by decide +kernel) (by decide +kernel) (by decide +kernel) rfl (cc_17 O hI hR hX hbl hbA hc hs hin1 hin2 hin3 e1 e2 e3 h hk)
    · exact ab_tabIn (off := 1097) O 1141 dL_law_44 (by decide +kernel) (by decide +kernel) (by decide +kernel) rfl (cc_18 O hI hR hX hbl hbA hc hs hin1 hin2 hin3 e1 e2 e3 h hk)
    · exact ab_tabIn (off := 1165) O 1209 dL_law_44 (by decide +kernel) (by decide +kernel) (by decide +kernel) rfl (cc_19 O hI hR hX hbl hbA hc hs hin1 hin2 hin3 e1 e2 e3 h hk)
    · exact ab_tabIn (off := 1240) O 1284 dL_law_44 (by decide +kernel) (by decide +kernel) (by decide +kernel) rfl (cc_20 O hI hR hX hbl hbA hc hs hin1 hin2 hin3 e1 e2 e3 h hk)
    · exact ab_tabIn (off := 1315) O 1359 dL_law_44 (by decide +kernel) (by decide +kernel) (by decide +kernel) rfl (cc_21 O hI hR hX hbl hbA hc hs hin1 hin2 hin3 e1 e2 e3 h hk)
    · exact ab_tabIn (off := 1371) O 1415 dL_law_44 (by decide +kernel) (by decide +kernel) (by decide +kernel) rfl (cc_22 O hI hR hX hbl hbA hc hs hin1 hin2 hin3 e1 e2 e3 h hk)
    · exact ab_tabIn (off := 1427) O 1471 dL_law_44 (by decide +kernel) (by decide +kernel) (by decide +kernel) rfl (cc_23 O hI hR hX hbl hbA hc hs hin1 hin2 hin3 e1 e2 e3 h hk)
    · exact ab_tabIn (off := 1495) O 1539 dL_law_44 (by decide +kernel) (by decide +kernel) (by decide +kernel) rfl (cc_24 O hI hR hX hbl hbA hc hs hin1 hin2 hin3 e1 e2 e3 h hk)
    · exact ab_tabIn (off := 1575) O 1619 dL_law_44 (by decide +kernel) (by decide +kernel) (by decide +kernel) rfl (cc_25 O hI hR hX hbl hbA hc hs hin1 hin2 hin3 e1 e2 e3 h hk)
    · exact ab_tabIn (off := 1643) O 1687 dL_law_44 (by decide +kernel) (by decide +kernel) (by decide +kernel) rfl (cc_26 O hI hR hX hbl hbA hc hs hin1 hin2 hin3 e1 e2 e3 h hk)
    · exact ab_tabIn (off := 1711) O 1755 dL_law_44 (by decide +kernel) (by decide +kernel) (by decide +kernel) rfl (cc_27 O hI hR hX hbl hbA hc hs hin1 hin2 hin3 e1 e2 e3 h hk)
    · exact ab_tabIn (off := 1779) O 1823 dL_law_44 (by decide +kernel) (by decide +kernel) (by decide +kernel) rfl (cc_28 O hI hR hX hbl hbA hc hs hin1 hin2 hin3 e1 e2 e3 h hk)
    · exact ab_tabIn (off := 1847) O 1891 dL_law_44 (by decide +kernel) (by decide +kernel) (by decide +kernel) rfl (cc_29 O hI hR hX hbl hbA hc hs hin1 hin2 hin3 e1 e2 e3 h hk)
    · exact ab_tabIn (off := 1915) O 1959 dL_law_44 (by decide +kernel) (by decide +kernel) (by decide +kernel) rfl (cc_30 O hI hR hX hbl hbA hc hs hin1 hin2 hin3 e1 e2 e3 h hk)
    · exact ab_tabIn (off := 2005) O 2049 dL_law_44 (by decide +kernel) (by decide +kernel) (by decide +kernel) rfl (cc_31 O hI hR hX hbl hbA hc hs hin1 hin2 hin3 e1 e2 e3 h hk)
    · exact ab_tabIn (off := 2073) O 2117 dL_law_44 (by decide +kernel) (by decide +kernel) (by decide +kernel) rfl (cc_32 O hI hR hX hbl hbA hc hs hin1 hin2 hin3 e1 e2 e3 h hk)
    · exact ab_tabIn (off := 2141) O 2185 dL_law_44 (by decide +kernel) (by decide +kernel) (by decide +kernel) rfl (cc_33 O hI hR hX hbl hbA hc hs hin1 hin2 hin3 e1 e2 e3 h hk)
    · exact ab_tabIn (off := 2221) O 2265 dL_law_44 (by decide +kernel) (by decide +kernel) (by decide +kernel) rfl (cc_34 O hI hR hX hbl hbA hc hs hin1 hin2 hin3 e1 e2 e3 h hk)
    · exact ab_tabIn (off := 2301) O 2345 dL_law_44 (by decide +kernel) (by decide +kernel) (by decide +kernel) rfl (cc_35 O hI hR hX hbl hbA hc hs hin1 hin2 hin3 e1 e2 e3 h hk)
    · exact ab_tabIn (off := 2381) O 2425 dL_law_44 (by decide +kernel) (by decide +kernel) (by decide +kernel) rfl (cc_36 O hI hR hX hbl hbA hc hs hin1 hin2 hin3 e1 e2 e3 h hk)
    · exact ab_tabIn (off := 2461) O 2505 dL_law_44 (by decide +kernel) (by decide +kernel) (by decide +kernel) rfl (cc_37 O hI hR hX hbl hbA hc hs hin1 hin2 hin3 e1 e2 e3 h hk)
    · exact ab_tabIn (off := 2529) O 2573 dL_law_44 (by decide +kernel) (by decide +kernel) (by decide +kernel) rfl (cc_38 O hI hR hX hbl hbA hc hs hin1 hin2 hin3 e1 e2 e3 h hk)
    · exact ab_tabIn (off := 2597) O 2641 dL_law_44 (by decide +kernel) (by decide +kernel) (by decide +kernel) rfl (cc_39 O hI hR hX hbl hbA hc hs hin1 hin2 hin3 e1 e2 e3 h hk)
    · exact ab_tabIn (off := 2665) O 2709 dL_law_44 (by decide +kernel) (by decide +kernel) (by decide +kernel) rfl (cc_40 O hI hR hX hbl hbA hc hs hin1 hin2 hin3 e1 e2 e3 h hk)
    · exact ab_tabIn (off := 2733) O 2777 dL_law_44 (by decide +kernel) (by decide +kernel) (by decide +kernel) rfl (cc_41 O hI hR hX hbl hbA hc hs hin1 hin2 hin3 e1 e2 e3 h hk)
    · exact ab_tabIn (off := 2789) O 2833 dL_law_44 (by decide +kernel) (by decide +kernel) (by decide +kernel) rfl (cc_42 O hI hR hX hbl hbA hc hs hin1 hin2 hin3 e1 e2 e3 h hk)
    · exact ab_tabIn (off := 2857) O 2901 dL_law_44 (by decide +kernel) (by decide +kernel) (by decide +kernel) rfl (cc_43 O hI hR hX hbl hbA hc hs hin1 hin2 hin3 e1 e2 e3 h hk)
    · exact ab_tabIn (off := 2913) O 2957 dL_law_44 (by decide +kernel) (by decide +kernel) (by decide +kernel) rfl (cc_44 O hI hR hX hbl hbA hc hs hin1 hin2 hin3 e1 e2 e3 h hk)
  · have ht : (nI j).toInt = (j : Int) := nI_toInt (by omega)
    refine ab_tabOut O 3013 dL_law_44 (Or.inr (by rw [ht]; omega)) rfl ?_
    refine ab_widen (Nat.le_add_right _ 6) (Nat.le_add_right _ 36) (hk V o D ?_)
    have e : wp_case V o D a1 a2 a3 J j = J V := by
      unfold wp_case
      split <;> first | rfl | omega
    rw [e] at h
    exact h
/-- the law's loop -/
theorem law_loop {X : ab_M} {g : ab_G} {b N c0 s0 : Nat} {xs9 : Nat → Int32} {Q : State → Prop} (O : ab_Ok X g cL_law RL) (hI : tk_S tk_strs (xs X)) (hR : xR X = room_1) (hX : va_X b N xs9 (xs X) (xs X).heap) (hbl : b < (xs X).heap.size) (hbA : ¬ g.1 ≤ b) (hN : N ≤ 2048) (hc0 : c0 ≤ 1000) (hs0 : s0 ≤ 10000) {J : Mm → Prop}
    (hJ : ∀ (V : Mm), J V → ∀ (o : Nat → Int64) (D : Nat → UInt64) (a1 a2 a3 : Int32) (j : Nat), wp_case V o D a1 a2 a3 J j)
    (hend : ∀ (V : Mm) (o : Nat → Int64) (D : Nat → UInt64) (x : Int32) (cells slots : Nat), cells ≤ 601024 → slots ≤ 7293034 → Ab X g cells slots Q 3019 [some (.retAddr b), some (.ref 0), some (.ref 57), some (.ref 72), some (.ref 73), some (.int x), none, none] [] (SW V o D)) :
    ∀ (m k : Nat), k + m = 513 → ∀ (V : Mm) (o : Nat → Int64) (D : Nat → UInt64), J V → Ab X g (c0 + 6 * k) (s0 + 36 * k) Q 28 [some (.retAddr b), some (.ref 0), some (.ref 57), some (.ref 72), some (.ref 73), some (.int (nI (4 * k))), none, none] [] (SW V o D) := by
  intro m
  induction m with
  | zero =>
    intro k hk V o D hV
    refine ab_iload O dL_law_28 rfl ?_
    refine ab_aload_nR O 0 dL_law_30 rfl rfl ?_
    refine ab_slen O hX hbl hbA dL_law_31 ?_
    refine ab_iconst O 4 dL_law_32 rfl ?_
    refine ab_isub O dL_law_33 ?_
    refine ab_icmp_gt O 3019 dL_law_34 rfl (fun q => ?_) (fun q => ?_)
    · exact hend V o D _ _ _ (by omega) (by omega)
    · exfalso
      have h1 : (nI N - nI 4).toInt = (N : Int) - 4 := pk_sub_toInt (by omega) (by omega)
      have h2 : (nI (4 * k)).toInt = ((4 * k : Nat) : Int) := nI_toInt (by omega)
      apply q
      show nI N - nI 4 < nI (4 * k)
      rw [Int32.lt_iff_toInt_lt, h1, h2]
      omega
  | succ m ih =>
    intro k hk V o D hV
    refine ab_iload O dL_law_28 rfl ?_
    refine ab_aload_nR O 0 dL_law_30 rfl rfl ?_
    refine ab_slen O hX hbl hbA dL_law_31 ?_
    refine ab_iconst O 4 dL_law_32 rfl ?_
    refine ab_isub O dL_law_33 ?_
    refine ab_icmp_gt O 3019 dL_law_34 rfl (fun q => ?_) (fun q => ?_)
    · exact hend V o D _ _ _ (by omega) (by omega)
    · have h1 : (nI N - nI 4).toInt = (N : Int) - 4 := pk_sub_toInt (by omega) (by omega)
      have h2 : (nI (4 * k)).toInt = ((4 * k : Nat) : Int) := nI_toInt (by omega)
      have q2 : ¬ nI N - nI 4 < nI (4 * k) := q
      rw [Int32.lt_iff_toInt_lt, h1, h2] at q2
      have hk4 : 4 * k + 4 ≤ N := by omega
      have i1 : nI (4 * k) + 1 = nI (4 * k + 1) := nI_add _ 1
      have i2 : nI (4 * k) + 2 = nI (4 * k + 2) := nI_add _ 2
      have i3 : nI (4 * k) + 3 = nI (4 * k + 3) := nI_add _ 3
      refine ab_aload_nR O 0 dL_law_37 rfl rfl ?_
      refine ab_iload O dL_law_38 rfl ?_
      refine ab_sld O hX hbl hbA dL_law_40 (vp_in_nI (by omega) (by omega)) ?_
      refine ab_bipush O 63 dL_law_41 rfl ?_
      refine ab_iand O dL_law_43 ?_
      obtain ⟨j, hj, ej⟩ := pk_andE (xs9 (nI (4 * k)).toNatClampNeg) (m := 63) 6 rfl
      refine cc_all O hI hR hX hbl hbA (by omega) (by omega) (by rw [i1]; exact vp_in_nI (by omega) (by omega)) (by rw [i2]; exact vp_in_nI (by omega) (by omega)) (by rw [i3]; exact vp_in_nI (by omega) (by omega)) rfl rfl rfl hj ej (hJ V hV o D _ _ _ j) (fun V o D hV => ?_)
      have i4 : nI (4 * k) + 4 = nI (4 * (k + 1)) := nI_add _ 4
      refine ab_iinc O (nI (4 * (k + 1))) dL_law_3013 rfl i4 ?_
      refine ab_goto O 28 dL_law_3016 rfl ?_
      refine ab_eq (ab_widen (c2 := c0 + 6 * (k + 1)) (s2 := s0 + 36 * (k + 1)) (by omega) (by omega) (ih (k + 1) (by omega) V o D hV)) rfl rfl rfl rfl
/-- the memory behind the constructors -/
def V00 : Mm := fun a j => if 9 ≤ a ∧ a < 29 then (if j < 20 then -1 else 0) else 0

theorem lw_K {s : State} {args : Array Value} (hts : ∀ w ∈ tk_w, w.before args s = true) (hov : va_Nw (.arrayOver (.array .int)) s) : ∃ (D : va_G) (K : Nat → ClassId), ∀ b : Nat, va_K D vwCl (tk_ty (b, D, K)) s := by
  obtain ⟨c0, i0, h0⟩ := u_known (C := RX0) (T := TX0) (N := 4) (n := 4) hts ic_X0 (hts _ (tk_t (w := .instantiable RX0 4) 60 (by decide +kernel) rfl))
  obtain ⟨c1, i1, h1⟩ := u_known (C := RX1) (T := TX1) (N := 6) (n := 6) hts ic_X1 (hts _ (tk_t (w := .instantiable RX1 6) 131 (by decide +kernel) rfl))
  obtain ⟨c2, i2, h2⟩ := u_known (C := RX2) (T := TX2) (N := 3) (n := 3) hts ic_X2 (hts _ (tk_t (w := .instantiable RX2 3) 115 (by decide +kernel) rfl))
  obtain ⟨c3, i3, h3⟩ := u_known (C := RX3) (T := TX3) (N := 7) (n := 7) hts ic_X3 (hts _ (tk_t (w := .instantiable RX3 7) 30 (by decide +kernel) rfl))
  obtain ⟨c4, i4, h4⟩ := u_known (C := RX4) (T := TX4) (N := 4) (n := 4) hts ic_X4 (hts _ (tk_t (w := .instantiable RX4 4) 156 (by decide +kernel) rfl))
  obtain ⟨c5, i5, h5⟩ := u_known (C := RX5) (T := TX5) (N := 8) (n := 8) hts ic_X5 (hts _ (tk_t (w := .instantiable RX5 8) 175 (by decide +kernel) rfl))
  obtain ⟨c6, i6, h6⟩ := u_known (C := RX6) (T := TX6) (N := 3) (n := 3) hts ic_X6 (hts _ (tk_t (w := .instantiable RX6 3) 206 (by decide +kernel) rfl))
  obtain ⟨c7, i7, h7⟩ := u_known (C := RX7) (T := TX7) (N := 8) (n := 8) hts ic_X7 (hts _ (tk_t (w := .instantiable RX7 8) 84 (by decide +kernel) rfl))
  obtain ⟨c8, i8, h8⟩ := u_known (C := RX8) (T := TX8) (N := 8) (n := 8) hts ic_X8 (hts _ (tk_t (w := .instantiable RX8 8) 22 (by decide +kernel) rfl))
  obtain ⟨c9, i9, h9⟩ := u_known (C := RX9) (T := TX9) (N := 18) (n := 18) hts ic_X9 (hts _ (tk_t (w := .instantiable RX9 18) 1115 (by decide +kernel) rfl))
  obtain ⟨k0, q0, m0, f0, g0, z0⟩ := Cond.arrayClass_spec (hts _ ac_int)
  obtain ⟨k1, q1, m1, f1, g1, z1⟩ := Cond.arrayClass_spec (hts _ ac_boolean)
  obtain ⟨k2, q2, m2, f2, g2, z2⟩ := Cond.arrayClass_spec (hts _ ac_long)
  obtain ⟨k3, q3, m3, f3, g3, z3⟩ := Cond.arrayClass_spec (hts _ ac_double)
  obtain ⟨m4, k4, q4, -, g4, z4, f4⟩ := Cond.arrayOver_specA hov
  refine ⟨(fun k => match k with | 0 => c0 | 1 => c1 | 2 => c2 | 3 => c3 | 4 => c4 | 5 => c5 | 6 => c6 | 7 => c7 | 8 => c8 | _ => c9, fun k => match k with | 0 => i0 | 1 => i1 | 2 => i2 | 3 => i3 | 4 => i4 | 5 => i5 | 6 => i6 | 7 => i7 | 8 => i8 | _ => i9), (fun k => match k with | 0 => k0 | 1 => k1 | 2 => k2 | 3 => k3 | _ => k4), fun b => ⟨?_, ?_⟩⟩
  · intro k q hq
    match k, hq with
    | 0, hq => cases hq; exact h0
    | 1, hq => cases hq; exact h1
    | 2, hq => cases hq; exact h2
    | 3, hq => cases hq; exact h3
    | 4, hq => cases hq; exact h4
    | 5, hq => cases hq; exact h5
    | 6, hq => cases hq; exact h6
    | 7, hq => cases hq; exact h7
    | 8, hq => cases hq; exact h8
    | 9, hq => cases hq; exact h9
    | k + 10, hq => simp [vwCl] at hq
  · intro k q hq
    match k, hq with
    | 0, hq => cases hq; exact ⟨fun n z => ⟨fun _ h => (by cases h), q0, g0, m0, z0⟩, f0⟩
    | 1, hq => cases hq; exact ⟨fun n z => ⟨fun _ h => (by cases h), q1, g1, m1, z1⟩, f1⟩
    | 2, hq => cases hq; exact ⟨fun n z => ⟨fun _ h => (by cases h), q2, g2, m2, z2⟩, f2⟩
    | 3, hq => cases hq; exact ⟨fun n z => ⟨fun _ h => (by cases h), q3, g3, m3, z3⟩, f3⟩
    | 4, hq => cases hq; exact ⟨fun n z => ⟨fun _ h => (by cases h), q4, g4, m4, z4⟩, f4⟩
    | k + 5, hq => simp [tk_ty] at hq
theorem lw_S {s : State} {args : Array Value} (hts : ∀ w ∈ lw_tbl, w.before args s = true) (hgv : (Jvm.Cond.and given_1 narrow_1).before args s = true) : tk_S tk_strs s := by
  have hs := flat_of_before _ hgv
  have hw : s.vm.findClass RX8 ≠ none := by
    obtain ⟨c, k, h1, -⟩ := Cond.instantiable_spec (hts (.instantiable RX8 8) (List.mem_append_right _ (List.mem_of_getElem? (i := 22) (by decide +kernel))))
    rw [h1]; intro h; cases h
  refine ⟨fun q hq => ?_, ⟨va_Nw.of rfl (hts _ (List.mem_append_right _ (List.mem_of_getElem? (i := 31) (by decide +kernel)))), Jvm.Stand.arrayOver_alikeB (Vm.Alike.refl _) (hts (.arrayOver (.array .int)) (List.mem_append_right _ (List.mem_of_getElem? (i := 66) (by decide +kernel))))⟩, fun x hx => ?_, fun E hE => ⟨?_, fun F hF hne => ?_⟩⟩
  · have key : ∀ (k : Nat) (t : String), (Cond.stringRef RX8 k t).before args s = true → ∃ sa : Nat, vk_R RX8 k t sa s := by
      intro k t h
      obtain ⟨cur, hcur⟩ := Option.ne_none_iff_exists'.mp hw
      obtain ⟨_, _, _, a, -, -, -, -, -, ev⟩ := Cond.stringRef_spec hcur h
      exact ⟨a, vk_R.of h ev⟩
    simp only [tk_strs, List.mem_cons, List.not_mem_nil, or_false] at hq
    rcases hq with rfl | rfl | rfl | rfl | rfl | rfl | rfl | rfl | rfl | rfl | rfl | rfl | rfl | rfl | rfl | rfl | rfl | rfl | rfl
    · exact key _ _ (hts _ (List.mem_append_right _ (List.mem_of_getElem? (i := 399) (by decide +kernel))))
    · exact key _ _ (hts _ (List.mem_append_right _ (List.mem_of_getElem? (i := 435) (by decide +kernel))))
    · exact key _ _ (hts _ (List.mem_append_right _ (List.mem_of_getElem? (i := 468) (by decide +kernel))))
    · exact key _ _ (hts _ (List.mem_append_right _ (List.mem_of_getElem? (i := 499) (by decide +kernel))))
    · exact key _ _ (hts _ (List.mem_append_right _ (List.mem_of_getElem? (i := 512) (by decide +kernel))))
    · exact key _ _ (hts _ (List.mem_append_right _ (List.mem_of_getElem? (i := 519) (by decide +kernel))))
    · exact key _ _ (hts _ (List.mem_append_right _ (List.mem_of_getElem? (i := 589) (by decide +kernel))))
    · exact key _ _ (hts _ (List.mem_append_right _ (List.mem_of_getElem? (i := 595) (by decide +kernel))))
    · exact key _ _ (hts _ (List.mem_append_right _ (List.mem_of_getElem? (i := 645) (by decide +kernel))))
    · exact key _ _ (hts _ (List.mem_append_right _ (List.mem_of_getElem? (i := 665) (by decide +kernel))))
    · exact key _ _ (hts _ (List.mem_append_right _ (List.mem_of_getElem? (i := 717) (by decide +kernel))))
    · exact key _ _ (hts _ (List.mem_append_right _ (List.mem_of_getElem? (i := 747) (by decide +kernel))))
    · exact key _ _ (hts _ (List.mem_append_right _ (List.mem_of_getElem? (i := 771) (by decide +kernel))))
    · exact key _ _ (hts _ (List.mem_append_right _ (List.mem_of_getElem? (i := 813) (by decide +kernel))))
    · exact key _ _ (hts _ (List.mem_append_right _ (List.mem_of_getElem? (i := 818) (by decide +kernel))))
    · exact key _ _ (hts _ (List.mem_append_right _ (List.mem_of_getElem? (i := 845) (by decide +kernel))))
    · exact key _ _ (hts _ (List.mem_append_right _ (List.mem_of_getElem? (i := 966) (by decide +kernel))))
    · exact key _ _ (hts _ (List.mem_append_right _ (List.mem_of_getElem? (i := 986) (by decide +kernel))))
    · exact key _ _ (hts _ (List.mem_append_right _ (List.mem_of_getElem? (i := 1062) (by decide +kernel))))
  · simp only [tk_dcl, List.mem_cons, List.not_mem_nil, or_false] at hx
    rcases hx with rfl | rfl | rfl
    · exact va_Nw.of rfl (hts _ (List.mem_append_right _ (List.mem_of_getElem? (i := 360) (by decide +kernel))))
    · exact va_Nw.of rfl (hts _ (List.mem_append_right _ (List.mem_of_getElem? (i := 362) (by decide +kernel))))
    · exact va_Nw.of rfl (hts _ (List.mem_append_right _ (List.mem_of_getElem? (i := 364) (by decide +kernel))))
  · simp only [tk_exs, List.mem_cons, List.not_mem_nil, or_false] at hE
    rcases hE with rfl | rfl | rfl | rfl | rfl
    · exact va_Nw.of rfl (hts _ (List.mem_append_right _ (List.mem_of_getElem? (i := 358) (by decide +kernel))))
    · exact va_Nw.of rfl (hts _ (List.mem_append_right _ (List.mem_of_getElem? (i := 428) (by decide +kernel))))
    · exact va_Nw.of rfl (hts _ (List.mem_append_right _ (List.mem_of_getElem? (i := 461) (by decide +kernel))))
    · exact va_Nw.of rfl (hts _ (List.mem_append_right _ (List.mem_of_getElem? (i := 505) (by decide +kernel))))
    · exact va_Nw.of rfl (hts _ (List.mem_append_right _ (List.mem_of_getElem? (i := 658) (by decide +kernel))))
  · have key : ∀ q ∈ [("java/lang/IllegalArgumentException", "java/lang/IllegalStateException"), ("java/lang/IllegalArgumentException", "java/lang/IndexOutOfBoundsException"), ("java/lang/IllegalArgumentException", "java/lang/UnsupportedOperationException"), ("java/lang/IllegalArgumentException", "java/util/NoSuchElementException"), ("java/lang/IllegalStateException", "java/lang/IllegalArgumentException"), ("java/lang/IllegalStateException", "java/lang/IndexOutOfBoundsException"), ("java/lang/IllegalStateException", "java/lang/UnsupportedOperationException"), ("java/lang/IllegalStateException", "java/util/NoSuchElementException"), ("java/lang/IndexOutOfBoundsException", "java/lang/IllegalArgumentException"), ("java/lang/IndexOutOfBoundsException", "java/lang/IllegalStateException"), ("java/lang/IndexOutOfBoundsException", "java/lang/UnsupportedOperationException"), ("java/lang/IndexOutOfBoundsException", "java/util/NoSuchElementException"), ("java/lang/UnsupportedOperationException", "java/lang/IllegalArgumentException"), ("java/lang/UnsupportedOperationException", "java/lang/IllegalStateException"), ("java/lang/UnsupportedOperationException", "java/lang/IndexOutOfBoundsException"), ("java/lang/UnsupportedOperationException", "java/util/NoSuchElementException"), ("java/util/NoSuchElementException", "java/lang/IllegalArgumentException"), ("java/util/NoSuchElementException", "java/lang/IllegalStateException"), ("java/util/NoSuchElementException", "java/lang/IndexOutOfBoundsException"), ("java/util/NoSuchElementException", "java/lang/UnsupportedOperationException")], va_Nc q.1 q.2 s := by
      intro q hq
      refine va_Nc.of (args := args) (hs _ ?_)
      revert q
      decide +kernel
    refine key (E, F) ?_
    revert hne
    revert F
    revert E
    decide +kernel
theorem lw_X {s : State} {args : Array Value} (hts : ∀ w ∈ lw_tbl, w.before args s = true) (hgv : (Jvm.Cond.and given_1 narrow_1).before args s = true) (g : ab_G) (hg : g.1 = s.heap.size) : tk_X g s s.heap := by
  have hs := flat_of_before _ hgv
  have hA : ∀ a : Nat, a < s.heap.size → ¬ g.1 ≤ a := fun a h => by omega
  refine ⟨vx_Zqof (hts _ (List.mem_append_right _ (List.mem_of_getElem? (i := 383) (by decide +kernel)))) (hts _ (List.mem_append_right _ (List.mem_of_getElem? (i := 12) (by decide +kernel)))) (hs _ (by decide +kernel)) hA, vx_Zqof (hts _ (List.mem_append_right _ (List.mem_of_getElem? (i := 385) (by decide +kernel)))) (hts _ (List.mem_append_right _ (List.mem_of_getElem? (i := 12) (by decide +kernel)))) (hs _ (by decide +kernel)) hA⟩
set_option maxHeartbeats 4000000 in
set_option maxRecDepth 100000 in
theorem law_start {X : ab_M} {g : ab_G} {b N : Nat} {xs9 : Nat → Int32} {Q : State → Prop} (O : ab_Ok X g cL_law RL) (hI : tk_S tk_strs (xs X)) (hR : xR X = room_1) (hX : va_X b N xs9 (xs X) (xs X).heap) (hbl : b < (xs X).heap.size) (hbA : ¬ g.1 ≤ b) (hz : (xs X).heap.size = g.1) (hN : N ≤ 2048) {J : Mm → Prop} (h0 : J V00)
    (hJ : ∀ (V : Mm), J V → ∀ (o : Nat → Int64) (D : Nat → UInt64) (a1 a2 a3 : Int32) (j : Nat), wp_case V o D a1 a2 a3 J j)
    (hend : ∀ (V : Mm) (o : Nat → Int64) (D : Nat → UInt64) (x : Int32) (cells slots : Nat), cells ≤ 601024 → slots ≤ 7293034 → Ab X g cells slots Q 3019 [some (.retAddr b), some (.ref 0), some (.ref 57), some (.ref 72), some (.ref 73), some (.int x), none, none] [] (SW V o D)) :
    Ab X g 0 0 Q 0 [some (.retAddr b), none, none, none, none, none, none, none] [] [] := by
  refine ab_new (fs := [.null, .null, .null, .null, .null, .null, .null, .null]) O nw_L_8 dL_law_0 (by decide +kernel) (fun _ => rfl) (by rw [hR]; show 0 + 1 ≤ 601024; omega) (by rw [hR]; show 0 + 8 ≤ 7293034; omega) (show (xs X).heap.size + 0 ≤ g.1 + 0 by omega) ?_
  refine ab_eq (ws2 := [.inr (8, [.null, .null, .null, .null, .null, .null, .null, .null])]) (st2 := [.ref 0]) ?_ rfl rfl rfl rfl
  refine ab_dup O dL_law_3 rfl ?_
  refine ab_callc O hI (fr := True) (st := [.ref 0]) lk_L_145 dL_law_4 (c_X8_init 11 (by decide) _ O.2.2.2.2.2.2.1 _) rfl rfl (by rw [hR]; exact ⟨by decide, by decide⟩) (show 1 ≤ 8 by decide) ⟨by rw [hR]; show 1 + 56 ≤ 601024; omega, by rw [hR]; show 8 + 1228 ≤ 7293034; omega⟩ (fun _ => (show (xs X).heap.size + 1 ≤ g.1 + 1 by omega)) (fun u hu => ?_)
  subst hu
  refine ab_astore_n O 1 dL_law_7 rfl (show 1 < 8 by decide) ?_
  refine ab_new (fs := [.int 0, .null, .null, .null, .null, .null, .null, .null, .null, .int 0, .int 0, .null, .null, .null, .null, .null, .null, .int 0]) O nw_L_146 dL_law_8 (by decide +kernel) (fun _ => rfl) (by rw [hR]; show 57 + 1 ≤ 601024; omega) (by rw [hR]; show 1236 + 18 ≤ 7293034; omega) (show (xs X).heap.size + 57 ≤ g.1 + 57 by omega) ?_
  refine ab_eq (ws2 := [.inr (8, [.ref 1, .ref 7, .ref 29, .ref 35, .ref 36, .ref 40, .ref 43, .ref 50]), .inr (3, [.ref 2, .ref 3, .ref 4, .ref 5, .ref 6, .int 0, .int 0]), .inl (0, 20, .inl (fun _ => 0)), .inl (0, 60, .inl (fun _ => 0)), .inl (0, 60, .inl (fun _ => 0)), .inl (0, 60, .inl (fun _ => 0)), .inl (1, 60, .inl (fun _ => 0)), .inr (0, [.ref 1, .ref 8, .int 0, .int 0]), .inl (4, 20, .inr (.inr (.inr (.inr (fun i => if i < 20 then some (8 + 1 + i) else none))))), .inl (0, 20, .inl (fun j => if j < 20 then (-1) else (0 : Int32))), .inl (0, 20, .inl (fun j => if j < 20 then (-1) else (0 : Int32))), .inl (0, 20, .inl (fun j => if j < 20 then (-1) else (0 : Int32))), .inl (0, 20, .inl (fun j => if j < 20 then (-1) else (0 : Int32))), .inl (0, 20, .inl (fun j => if j < 20 then (-1) else (0 : Int32))), .inl (0, 20, .inl (fun j => if j < 20 then (-1) else (0 : Int32))), .inl (0, 20, .inl (fun j => if j < 20 then (-1) else (0 : Int32))), .inl (0, 20, .inl (fun j => if j < 20 then (-1) else (0 : Int32))), .inl (0, 20, .inl (fun j => if j < 20 then (-1) else (0 : Int32))), .inl (0, 20, .inl (fun j => if j < 20 then (-1) else (0 : Int32))), .inl (0, 20, .inl (fun j => if j < 20 then (-1) else (0 : Int32))), .inl (0, 20, .inl (fun j => if j < 20 then (-1) else (0 : Int32))), .inl (0, 20, .inl (fun j => if j < 20 then (-1) else (0 : Int32))), .inl (0, 20, .inl (fun j => if j < 20 then (-1) else (0 : Int32))), .inl (0, 20, .inl (fun j => if j < 20 then (-1) else (0 : Int32))), .inl (0, 20, .inl (fun j => if j < 20 then (-1) else (0 : Int32))), .inl (0, 20, .inl (fun j => if j < 20 then (-1) else (0 : Int32))), .inl (0, 20, .inl (fun j => if j < 20 then (-1) else (0 : Int32))), .inl (0, 20, .inl (fun j => if j < 20 then (-1) else (0 : Int32))), .inl (0, 20, .inl (fun j => if j < 20 then (-1) else (0 : Int32))), .inr (7, [.ref 1, .ref 7, .ref 30, .ref 31, .ref 32, .ref 33, .ref 34, .int 0]), .inl (0, 20, .inl (fun _ => 0)), .inl (0, 20, .inl (fun _ => 0)), .inl (0, 20, .inl (fun _ => 0)), .inl (0, 20, .inl (fun _ => 0)), .inl (0, 20, .inl (fun _ => 0)), .inr (2, [.ref 1, .ref 7, .ref 29]), .inr (1, [.ref 1, .ref 37, .ref 38, .ref 39, .int 0, .int 0]), .inl (0, 60, .inl (fun _ => 0)), .inl (0, 20, .inl (fun _ => 0)), .inl (1, 60, .inl (fun _ => 0)), .inr (4, [.ref 1, .ref 41, .ref 42, .int 0]), .inl (1, 20, .inl (fun _ => 0)), .inl (0, 20, .inl (fun _ => 0)), .inr (5, [.ref 1, .ref 29, .ref 44, .ref 45, .ref 46, .ref 47, .ref 48, .ref 49]), .inl (0, 20, .inl (fun _ => 0)), .inl (0, 20, .inl (fun _ => 0)), .inl (0, 20, .inl (fun _ => 0)), .inl (0, 20, .inl (fun _ => 0)), .inl (0, 20, .inl (fun _ => 0)), .inl (0, 20, .inl (fun _ => 0)), .inr (6, [.ref 1, .ref 29, .ref 51]), .inl (4, 5, .inr (.inr (.inr (.inr (fun i => if i < 5 then some (51 + 1 + i) else none))))), .inl (0, 20, .inl (fun _ => 0)), .inl (0, 20, .inl (fun _ => 0)), .inl (0, 20, .inl (fun _ => 0)), .inl (0, 20, .inl (fun _ => 0)), .inl (0, 20, .inl (fun _ => 0)), .inr (9, [.int 0, .null, .null, .null, .null, .null, .null, .null, .null, .int 0, .int 0, .null, .null, .null, .null, .null, .null, .int 0])]) (st2 := [.ref 57]) ?_ rfl rfl rfl rfl
  refine ab_dup O dL_law_11 rfl ?_
  refine ab_callc O hI (fr := True) (st := [.ref 57]) lk_L_148 dL_law_12 (c_X9_init 11 (by decide) _ O.2.2.2.2.2.2.1 _) rfl rfl (by rw [hR]; exact ⟨by decide, by decide⟩) (show 1 ≤ 8 by decide) ⟨by rw [hR]; show 58 + 14 ≤ 601024; omega, by rw [hR]; show 1254 + 560 ≤ 7293034; omega⟩ (fun _ => (show (xs X).heap.size + 58 ≤ g.1 + 58 by omega)) (fun u hu => ?_)
  subst hu
  refine ab_astore_n O 2 dL_law_15 rfl (show 2 < 8 by decide) ?_
  refine ab_iconst O 1 dL_law_16 rfl ?_
  refine ab_newa (N := 1) (kd := 2) (a0 := (1, .inr (.inl (fun _ => 0)))) O (ty := .long) rfl dL_law_17 ac_long rfl (fun q => q) (fun _ => rfl) (fun _ => rfl) (by decide) rfl (by decide +kernel) (by rw [hR]; show 72 + 1 ≤ 601024; omega) (by rw [hR]; show 1814 + 1 ≤ 7293034; omega) (show (xs X).heap.size + 72 ≤ g.1 + 72 by omega) ?_
  refine ab_eq (ws2 := [.inr (8, [.ref 1, .ref 7, .ref 29, .ref 35, .ref 36, .ref 40, .ref 43, .ref 50]), .inr (3, [.ref 2, .ref 3, .ref 4, .ref 5, .ref 6, .int 0, .int 0]), .inl (0, 20, .inl (fun _ => 0)), .inl (0, 60, .inl (fun _ => 0)), .inl (0, 60, .inl (fun _ => 0)), .inl (0, 60, .inl (fun _ => 0)), .inl (1, 60, .inl (fun _ => 0)), .inr (0, [.ref 1, .ref 8, .int 0, .int 0]), .inl (4, 20, .inr (.inr (.inr (.inr (fun i => if i < 20 then some (8 + 1 + i) else none))))), .inl (0, 20, .inl (fun j => if j < 20 then (-1) else (0 : Int32))), .inl (0, 20, .inl (fun j => if j < 20 then (-1) else (0 : Int32))), .inl (0, 20, .inl (fun j => if j < 20 then (-1) else (0 : Int32))), .inl (0, 20, .inl (fun j => if j < 20 then (-1) else (0 : Int32))), .inl (0, 20, .inl (fun j => if j < 20 then (-1) else (0 : Int32))), .inl (0, 20, .inl (fun j => if j < 20 then (-1) else (0 : Int32))), .inl (0, 20, .inl (fun j => if j < 20 then (-1) else (0 : Int32))), .inl (0, 20, .inl (fun j => if j < 20 then (-1) else (0 : Int32))), .inl (0, 20, .inl (fun j => if j < 20 then (-1) else (0 : Int32))), .inl (0, 20, .inl (fun j => if j < 20 then (-1) else (0 : Int32))), .inl (0, 20, .inl (fun j => if j < 20 then (-1) else (0 : Int32))), .inl (0, 20, .inl (fun j => if j < 20 then (-1) else (0 : Int32))), .inl (0, 20, .inl (fun j => if j < 20 then (-1) else (0 : Int32))), .inl (0, 20, .inl (fun j => if j < 20 then (-1) else (0 : Int32))), .inl (0, 20, .inl (fun j => if j < 20 then (-1) else (0 : Int32))), .inl (0, 20, .inl (fun j => if j < 20 then (-1) else (0 : Int32))), .inl (0, 20, .inl (fun j => if j < 20 then (-1) else (0 : Int32))), .inl (0, 20, .inl (fun j => if j < 20 then (-1) else (0 : Int32))), .inl (0, 20, .inl (fun j => if j < 20 then (-1) else (0 : Int32))), .inl (0, 20, .inl (fun j => if j < 20 then (-1) else (0 : Int32))), .inr (7, [.ref 1, .ref 7, .ref 30, .ref 31, .ref 32, .ref 33, .ref 34, .int 0]), .inl (0, 20, .inl (fun _ => 0)), .inl (0, 20, .inl (fun _ => 0)), .inl (0, 20, .inl (fun _ => 0)), .inl (0, 20, .inl (fun _ => 0)), .inl (0, 20, .inl (fun _ => 0)), .inr (2, [.ref 1, .ref 7, .ref 29]), .inr (1, [.ref 1, .ref 37, .ref 38, .ref 39, .int 0, .int 0]), .inl (0, 60, .inl (fun _ => 0)), .inl (0, 20, .inl (fun _ => 0)), .inl (1, 60, .inl (fun _ => 0)), .inr (4, [.ref 1, .ref 41, .ref 42, .int 0]), .inl (1, 20, .inl (fun _ => 0)), .inl (0, 20, .inl (fun _ => 0)), .inr (5, [.ref 1, .ref 29, .ref 44, .ref 45, .ref 46, .ref 47, .ref 48, .ref 49]), .inl (0, 20, .inl (fun _ => 0)), .inl (0, 20, .inl (fun _ => 0)), .inl (0, 20, .inl (fun _ => 0)), .inl (0, 20, .inl (fun _ => 0)), .inl (0, 20, .inl (fun _ => 0)), .inl (0, 20, .inl (fun _ => 0)), .inr (6, [.ref 1, .ref 29, .ref 51]), .inl (4, 5, .inr (.inr (.inr (.inr (fun i => if i < 5 then some (51 + 1 + i) else none))))), .inl (0, 20, .inl (fun _ => 0)), .inl (0, 20, .inl (fun _ => 0)), .inl (0, 20, .inl (fun _ => 0)), .inl (0, 20, .inl (fun _ => 0)), .inl (0, 20, .inl (fun _ => 0)), .inr (9, [.int 0, .ref 58, .ref 59, .ref 60, .ref 61, .ref 62, .ref 63, .ref 64, .ref 65, .int 0, .int 0, .ref 66, .ref 67, .ref 68, .ref 69, .ref 70, .ref 71, .int 0]), .inl (0, 20, .inl (fun _ => 0)), .inl (0, 60, .inl (fun _ => 0)), .inl (0, 60, .inl (fun _ => 0)), .inl (0, 60, .inl (fun _ => 0)), .inl (0, 60, .inl (fun _ => 0)), .inl (0, 20, .inl (fun _ => 0)), .inl (1, 60, .inl (fun _ => 0)), .inl (1, 60, .inl (fun _ => 0)), .inl (1, 60, .inl (fun _ => 0)), .inl (0, 20, .inl (fun _ => 0)), .inl (0, 20, .inl (fun _ => 0)), .inl (0, 20, .inl (fun _ => 0)), .inl (0, 20, .inl (fun _ => 0)), .inl (0, 20, .inl (fun _ => 0)), .inl (2, 1, .inr (.inl (fun _ => 0)))]) (st2 := [.ref 72]) ?_ rfl rfl rfl rfl
  refine ab_astore_n O 3 dL_law_19 rfl (show 3 < 8 by decide) ?_
  refine ab_iconst O 1 dL_law_20 rfl ?_
  refine ab_newa (N := 1) (kd := 3) (a0 := (1, .inr (.inr (.inr (.inl (fun _ => 0)))))) O (ty := .double) rfl dL_law_21 ac_double rfl (fun q => q) (fun _ => rfl) (fun _ => rfl) (by decide) rfl (by decide +kernel) (by rw [hR]; show 73 + 1 ≤ 601024; omega) (by rw [hR]; show 1815 + 1 ≤ 7293034; omega) (show (xs X).heap.size + 73 ≤ g.1 + 73 by omega) ?_
  refine ab_eq (ws2 := [.inr (8, [.ref 1, .ref 7, .ref 29, .ref 35, .ref 36, .ref 40, .ref 43, .ref 50]), .inr (3, [.ref 2, .ref 3, .ref 4, .ref 5, .ref 6, .int 0, .int 0]), .inl (0, 20, .inl (fun _ => 0)), .inl (0, 60, .inl (fun _ => 0)), .inl (0, 60, .inl (fun _ => 0)), .inl (0, 60, .inl (fun _ => 0)), .inl (1, 60, .inl (fun _ => 0)), .inr (0, [.ref 1, .ref 8, .int 0, .int 0]), .inl (4, 20, .inr (.inr (.inr (.inr (fun i => if i < 20 then some (8 + 1 + i) else none))))), .inl (0, 20, .inl (fun j => if j < 20 then (-1) else (0 : Int32))), .inl (0, 20, .inl (fun j => if j < 20 then (-1) else (0 : Int32))), .inl (0, 20, .inl (fun j => if j < 20 then (-1) else (0 : Int32))), .inl (0, 20, .inl (fun j => if j < 20 then (-1) else (0 : Int32))), .inl (0, 20, .inl (fun j => if j < 20 then (-1) else (0 : Int32))), .inl (0, 20, .inl (fun j => if j < 20 then (-1) else (0 : Int32))), .inl (0, 20, .inl (fun j => if j < 20 then (-1) else (0 : Int32))), .inl (0, 20, .inl (fun j => if j < 20 then (-1) else (0 : Int32))), .inl (0, 20, .inl (fun j => if j < 20 then (-1) else (0 : Int32))), .inl (0, 20, .inl (fun j => if j < 20 then (-1) else (0 : Int32))), .inl (0, 20, .inl (fun j => if j < 20 then (-1) else (0 : Int32))), .inl (0, 20, .inl (fun j => if j < 20 then (-1) else (0 : Int32))), .inl (0, 20, .inl (fun j => if j < 20 then (-1) else (0 : Int32))), .inl (0, 20, .inl (fun j => if j < 20 then (-1) else (0 : Int32))), .inl (0, 20, .inl (fun j => if j < 20 then (-1) else (0 : Int32))), .inl (0, 20, .inl (fun j => if j < 20 then (-1) else (0 : Int32))), .inl (0, 20, .inl (fun j => if j < 20 then (-1) else (0 : Int32))), .inl (0, 20, .inl (fun j => if j < 20 then (-1) else (0 : Int32))), .inl (0, 20, .inl (fun j => if j < 20 then (-1) else (0 : Int32))), .inl (0, 20, .inl (fun j => if j < 20 then (-1) else (0 : Int32))), .inr (7, [.ref 1, .ref 7, .ref 30, .ref 31, .ref 32, .ref 33, .ref 34, .int 0]), .inl (0, 20, .inl (fun _ => 0)), .inl (0, 20, .inl (fun _ => 0)), .inl (0, 20, .inl (fun _ => 0)), .inl (0, 20, .inl (fun _ => 0)), .inl (0, 20, .inl (fun _ => 0)), .inr (2, [.ref 1, .ref 7, .ref 29]), .inr (1, [.ref 1, .ref 37, .ref 38, .ref 39, .int 0, .int 0]), .inl (0, 60, .inl (fun _ => 0)), .inl (0, 20, .inl (fun _ => 0)), .inl (1, 60, .inl (fun _ => 0)), .inr (4, [.ref 1, .ref 41, .ref 42, .int 0]), .inl (1, 20, .inl (fun _ => 0)), .inl (0, 20, .inl (fun _ => 0)), .inr (5, [.ref 1, .ref 29, .ref 44, .ref 45, .ref 46, .ref 47, .ref 48, .ref 49]), .inl (0, 20, .inl (fun _ => 0)), .inl (0, 20, .inl (fun _ => 0)), .inl (0, 20, .inl (fun _ => 0)), .inl (0, 20, .inl (fun _ => 0)), .inl (0, 20, .inl (fun _ => 0)), .inl (0, 20, .inl (fun _ => 0)), .inr (6, [.ref 1, .ref 29, .ref 51]), .inl (4, 5, .inr (.inr (.inr (.inr (fun i => if i < 5 then some (51 + 1 + i) else none))))), .inl (0, 20, .inl (fun _ => 0)), .inl (0, 20, .inl (fun _ => 0)), .inl (0, 20, .inl (fun _ => 0)), .inl (0, 20, .inl (fun _ => 0)), .inl (0, 20, .inl (fun _ => 0)), .inr (9, [.int 0, .ref 58, .ref 59, .ref 60, .ref 61, .ref 62, .ref 63, .ref 64, .ref 65, .int 0, .int 0, .ref 66, .ref 67, .ref 68, .ref 69, .ref 70, .ref 71, .int 0]), .inl (0, 20, .inl (fun _ => 0)), .inl (0, 60, .inl (fun _ => 0)), .inl (0, 60, .inl (fun _ => 0)), .inl (0, 60, .inl (fun _ => 0)), .inl (0, 60, .inl (fun _ => 0)), .inl (0, 20, .inl (fun _ => 0)), .inl (1, 60, .inl (fun _ => 0)), .inl (1, 60, .inl (fun _ => 0)), .inl (1, 60, .inl (fun _ => 0)), .inl (0, 20, .inl (fun _ => 0)), .inl (0, 20, .inl (fun _ => 0)), .inl (0, 20, .inl (fun _ => 0)), .inl (0, 20, .inl (fun _ => 0)), .inl (0, 20, .inl (fun _ => 0)), .inl (2, 1, .inr (.inl (fun _ => 0))), .inl (3, 1, .inr (.inr (.inr (.inl (fun _ => 0)))))]) (st2 := [.ref 73]) ?_ rfl rfl rfl rfl
  refine ab_astore O dL_law_23 (show 4 < 8 by decide) ?_
  refine ab_eq (ws2 := SW V00 (fun _ => 0) (fun _ => 0)) ?_ rfl rfl rfl rfl
  refine ab_iconst O 0 dL_law_25 rfl ?_
  refine ab_istore O dL_law_26 (show 5 < 8 by decide) ?_
  exact ab_eq (law_loop (c0 := 74) (s0 := 1816) O hI hR hX hbl hbA hN (by decide) (by decide) hJ hend 513 0 rfl V00 _ _ h0) rfl rfl rfl rfl
set_option maxHeartbeats 4000000 in
theorem whole_of {J : Mm → Prop} (h0 : J V00) (hJ : ∀ (V : Mm), J V → ∀ (o : Nat → Int64) (D : Nat → UInt64) (a1 a2 a3 : Int32) (j : Nat), wp_case V o D a1 a2 a3 J j)
    {p : Program} {e : Env} {s : State} {m : MethodId} {below : List Frame} {meth : Method} {c : Code} (l : Launch) (hflags : l.flags = flags0) {b L : Nat} {xs : Nat → Int32} (hL : L ≤ 2048) (C0 : lw_At p s m meth c b L xs) : W p l e room_1 s m #[Value.ref b] below meth c s.heap [] 0 0 (lw_Z below #[Value.ref b] s) (entryFrame m ([Value.ref b] : List Value).toArray 8) := by
  obtain ⟨hx, hb, hr, hml, hown, hts, hX, hbl, hlocks, hgv⟩ := id C0
  have htw : ∀ w ∈ tk_w, w.before #[Value.ref b] s = true := fun w hw => hts w (List.mem_filter.mp hw).1
  have hS := lw_S hts hgv
  obtain ⟨D, K, hK⟩ := lw_K htw hS.2.1.2
  have hst : l.stackTraces = false := by
    unfold Launch.stackTraces
    rw [hflags]
    decide +kernel
  have hXX := lw_X hts hgv (s.heap.size, D, K) rfl
  have hd0 := Drawn.sameBut.refl s.drawn lw_cs
  refine W.base ?_
  have hl := lv_entry ([.ref b]) (n := 8) (Nat.le_of_ble_eq_true rfl)
  rw [lg_entry_eq]
  generalize (lg_sl ([.ref b]) ++ List.replicate (8 - (lg_sl ([.ref b])).length) Slot.unset).toArray = ls at hl ⊢
  have hl : lv_has ls 8 [(0, .ref b)] := hl
  let X : ab_M := (p, l, e, room_1, s.setDrawn s.drawn, m, #[Value.ref b], below, meth, c)
  have O : ab_Ok X (s.heap.size, D, K) cL_law RL := ⟨hx, hb, hown, dr_words htw _, hK _, Nat.le_refl _, hst, hXX, hlocks⟩
  refine law_start (X := X) (g := (s.heap.size, D, K)) (xs9 := xs) (N := L) O hS rfl hX hbl (Nat.not_le.mpr hbl) rfl hL h0 hJ ?_ s.heap [] ls ?_ va_S.rf ⟨hl.1.trans hml.symm, hl.2.1, hml.symm, fun i v hi => ?_⟩
  · intro V o D x cells slots hc hs
    refine ab_iconst O 1 dL_law_3019 rfl ?_
    intro H locs ls hP hS2 hl2
    refine va_forget (fun q hq => hS2.2.2 q hq) ?_
    refine W.widen hc hs ?_
    exact lw_ret hd0 hx hb hr hlocks dL_law_3020
  · intro k q h
    rw [cw_at] at h
    simp at h
  · match i, hi with
    | 0, hi =>
      simp at hi
      subst hi
      exact ⟨lv_at hl 0 rfl, rfl⟩
    | 1, hi => simp at hi
    | 2, hi => simp at hi
    | 3, hi => simp at hi
    | 4, hi => simp at hi
    | 5, hi => simp at hi
    | 6, hi => simp at hi
    | 7, hi => simp at hi
    | i + 8, hi => simp at hi

