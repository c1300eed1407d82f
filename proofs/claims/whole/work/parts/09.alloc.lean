/-! ALLOCATIONS, constructors -/
section ABN
variable {X : ab_M} {g : ab_G} {cells slots : Nat} {pc : Nat} {L : List (Option Value)} {st : List Value} {ws : List va_E} {cc : ByteArray} {own : String} {Q : State → Prop}
variable {l : Launch} {strs : List (String × Nat × String)} {nL : Nat} {ret : Option FieldType} {name : String} {d mc ms : Nat} {px : String → List va_E → Prop} {Qc : Array Value → State → Outcome → State → Prop}
theorem ct_met {fr : Prop} {y : MethodName} {args : List Value} (h : Ct l g strs fr d mc ms y cc nL ret args ws Qc (fun _ _ => False)) : Met l y (.code y cc nL ret :: tk_w) (tk_rm d mc ms) (va_Pc (args.map (cv g.1)) (tk_P g strs fr ws)) Qc mc ms (ab_A g) := by
  intro p e h1 h2 h3 s m a below hf happ hP hK
  obtain ⟨n, o, q1, q2, q3, q4⟩ := h p e h1 h2 h3 s m a below hf happ hP hK
  refine ⟨n, o, q1, q2, q3, ?_⟩
  rcases q4 with q4 | ⟨q, -, E, ce, L, hx, -⟩
  · exact q4
  · obtain ⟨u, -, hu, -⟩ := hx
    exact hu.1.elim
theorem ab_callc (O : ab_Ok X g cc own) (hI : tk_S strs (xs X)) {fr : Prop} {index n nL2 d2 mc2 ms2 i : Nat} {y : MethodName} {c2 : ByteArray} {args stk : List Value} {post : List va_E → Prop} (h : ci_ok own index y c2 nL2 n) (hd : decode cc pc = .ok (.invokespecial index, 3))
    (hM : Ct (xl X) g strs fr d2 mc2 ms2 y c2 nL2 none (.ref i :: args) ws (tk_V g post) (fun _ _ => False)) (hst : stk = args.reverse ++ .ref i :: st) (hn : args.length = n) (hR : d2 + 1 ≤ (xR X).frames ∧ 8 + (nL2 + 11) + 36 * d2 ≤ (xR X).locals) (hW : (st.map fun v => v.category).sum ≤ 8) (hroom : cells + mc2 ≤ (xR X).cells ∧ slots + ms2 ≤ (xR X).slots) (hF : fr → (xs X).heap.size + cells ≤ g.1 + ws.length)
    (kk : ∀ (u : List va_E), post u → Ab X g (cells + mc2) (slots + ms2) Q (pc + 3) L st u) : Ab X g cells slots Q pc L stk ws := by
  subst hst
  intro H locs ls hP hS hl T hT Xs
  have hz : fr → H.size = g.1 + ws.length := fun q => tk_size hT Xs O.2.2.2.2.2.1 hP hS (hF q)
  refine va_callv (A0 := ab_A g) (A1 := ab_A g) (a := ((.ref i :: args).map (cv g.1)).toArray) (rest := st.map (cv g.1)) (va_runI (As := args.map (cv g.1)) (b := g.1 + i) (rest := st.map (cv g.1)) ⟨O.1, O.2.1, rfl, O.2.2.1, O.2.2.2.1⟩ (ct_met hM) ⟨tk_callB O.2.2.2.1 h.1 hR, h.2.2, O.2.2.2.1 _ h.2.1⟩ ⟨tk_blind, fun U hU hW => ⟨rfl, tk_pre O hI hP hS hz U hU hW⟩⟩ rfl (by rw [List.length_map]; exact hn) hl.1 (by simp [F0, cv]) (by show 2 * 0 + _ ≤ 8; rw [tk_cat]; omega) hd hroom) hS (fun _ _ q => q) (fun _ q => q) ?_ T hT Xs
  exact fun u t H1 locs1 e1 _ hp hB _ _ hS1 => kk u hp H1 locs1 ls (by rw [← e1]; exact hB) hS1 hl
def cn_ok (own : String) (index : Nat) (y : MethodName) (host : String) (c2 : ByteArray) (nL2 : Nat) (n : Nat) : Prop := (y.cls ≠ "java/lang/invoke/MethodHandle" ∧ y.cls ≠ "java/lang/invoke/VarHandle" ∧ (parseMethodDescriptor y.desc).map (fun d => d.parameters.length) = some n) ∧ Cond.initialized y.cls ∈ tk_w ∧ Cond.code y c2 nL2 none ∈ tk_w ∧ Cond.instanceMethod y ∈ tk_w ∧ y.name = "<init>"
theorem ab_calln (O : ab_Ok X g cc own) (hI : tk_S strs (xs X)) {fr : Prop} {index n nL2 d2 mc2 ms2 i : Nat} {y : MethodName} {host : String} {c2 : ByteArray} {args stk : List Value} {post : List va_E → Prop} (h : cn_ok own index y host c2 nL2 n) (hnw : va_Nw (.methodLinkNest own index y host) (xs X)) (hd : decode cc pc = .ok (.invokespecial index, 3))
    (hM : Ct (xl X) g strs fr d2 mc2 ms2 y c2 nL2 none (.ref i :: args) ws (tk_V g post) (fun _ _ => False)) (hst : stk = args.reverse ++ .ref i :: st) (hn : args.length = n) (hR : d2 + 1 ≤ (xR X).frames ∧ 8 + (nL2 + 11) + 36 * d2 ≤ (xR X).locals) (hW : (st.map fun v => v.category).sum ≤ 8) (hroom : cells + mc2 ≤ (xR X).cells ∧ slots + ms2 ≤ (xR X).slots) (hF : fr → (xs X).heap.size + cells ≤ g.1 + ws.length)
    (kk : ∀ (u : List va_E), post u → Ab X g (cells + mc2) (slots + ms2) Q (pc + 3) L st u) : Ab X g cells slots Q pc L stk ws := by
  subst hst
  intro H locs ls hP hS hl T hT Xs
  have hz : fr → H.size = g.1 + ws.length := fun q => tk_size hT Xs O.2.2.2.2.2.1 hP hS (hF q)
  refine va_callv (A0 := ab_A g) (A1 := ab_A g) (a := ((.ref i :: args).map (cv g.1)).toArray) (rest := st.map (cv g.1)) (va_runIN (As := args.map (cv g.1)) (b := g.1 + i) (rest := st.map (cv g.1)) ⟨O.1, O.2.1, rfl, O.2.2.1, O.2.2.2.1⟩ (ct_met hM) ⟨va_cnB n O.2.2.2.1 (tk_good tk_w _ (fun _ h => h) h.2.2.1) rfl rfl rfl hnw (O.2.2.2.1 _ h.2.1) h.1 hR, h.2.2.2.2, O.2.2.2.1 _ h.2.2.2.1⟩ ⟨tk_blind, fun U hU hW => ⟨rfl, tk_pre O hI hP hS hz U hU hW⟩⟩ rfl (by rw [List.length_map]; exact hn) hl.1 (by simp [F0, cv]) (by show 2 * 0 + _ ≤ 8; rw [tk_cat]; omega) hd hroom) hS (fun _ _ q => q) (fun _ q => q) ?_ T hT Xs
  exact fun u t H1 locs1 e1 _ hp hB _ _ hS1 => kk u hp H1 locs1 ls (by rw [← e1]; exact hB) hS1 hl
def nw_ok (own : String) (index ci : Nat) (C : String) (T : u_T) (N : Nat) (ty : Nat → FieldType) : Prop := vwCl[ci]? = some (C, T, N) ∧ Cond.classLink own index C ∈ tk_w ∧ Cond.instantiable C N ∈ tk_w ∧ Cond.initialized C ∈ tk_w ∧ (∀ w ∈ u_ws C T N, w ∈ tk_w) ∧ ∀ k, k < N → parseFieldDescriptor (T k).2.2.1 = some (ty k)
theorem ab_new (O : ab_Ok X g cc own) {index ci N : Nat} {C : String} {T : u_T} {ty : Nat → FieldType} {fs : List Value} (h : nw_ok own index ci C T N ty) (hd : decode cc pc = .ok (.new index, 3)) (hfs : ∀ j, j < N → defaultValue (ty j) = vp_V fs j) (hfc : ∀ b, fs.map (cv b) = fs) (hcells : cells + 1 ≤ (xR X).cells) (hslots : slots + N ≤ (xR X).slots) (hF : (xs X).heap.size + cells ≤ g.1 + ws.length)
    (kk : Ab X g (cells + 1) (slots + N) Q (pc + 3) L (.ref ws.length :: st) (ws ++ [.inr (ci, fs)])) : Ab X g cells slots Q pc L st ws := by
  intro H locs ls hP hS hl T hT Xs
  have hz : H.size = g.1 + ws.length := tk_size hT Xs O.2.2.2.2.2.1 hP hS hF
  have hKn := O.2.2.2.2.1.1 ci _ h.1
  refine W.newcK (g := F0 (xm X) pc ls (st.map (cv g.1))) O.1 O.2.1 O.2.2.1 (O.2.2.2.1 _ h.2.1) (O.2.2.2.1 _ h.2.2.1) (O.2.2.2.1 _ h.2.2.2.1) rfl hd hcells hslots hKn.2.1 hz (fun H1 kC hkC e1 z1 o1 => ?_) T hT Xs
  have hk : ∀ q : Nat, q < H.size → H1[q]? = H[q]? := fun q hq => o1 q (by rw [← hz]; exact hq)
  refine kk H1 locs ls ?_ ⟨Nat.le_trans hS.1 (by omega), fun q h1 h2 => (hk q (Nat.lt_of_lt_of_le h1 hS.1)).trans (hS.2.1 q h1 h2), hS.2.2⟩ hl
  rw [← cw_push]
  refine (tk_kept hP hk).app (fun k x hx => ?_)
  have h0 : k < 1 := (List.getElem?_eq_some_iff.mp hx).1
  rw [show k = 0 by omega] at hx
  cases hx
  refine ⟨_, h.1, (u_born ty O.2.2.2.1 h.2.2.2.2.1 hKn hkC e1 h.2.2.2.2.2).to (fun j hj => ?_)⟩
  show defaultValue (ty j) = vp_V (fs.map (cv g.1)) j
  rw [hfc]
  exact hfs j hj
theorem ab_newa (O : ab_Ok X g cc own) {atype : ArrayType} {ty : FieldType} {n : Int32} {N kd : Nat} {a0 : vp_A} (hty : newarray.typeOf atype = ty) (hd : decode cc pc = .ok (.newarray atype, 2)) (harr : Cond.arrayClass ty ∈ tk_w) (hk : (tk_ty g)[kd]? = some (g.2.2 kd, ty)) (hr : va_RA (xs X) (g.2.2 kd) ty → (xs X).vm.findClass ("[" ++ ty.toString) = some (g.2.2 kd)) (ha : ∀ cA : ClassId, vp_cell cA a0 = arrV cA N (fun _ => defaultValue ty)) (hc : ∀ b, ce b g.2.2 (.inl (kd, a0)) = .inl (g.2.2 kd, a0)) (hn : ¬ n < 0) (hN : n.toNatClampNeg = N) (hbytes : N * componentBytes ty ≤ 536870912) (hcells : cells + 1 ≤ (xR X).cells) (hslots : slots + N ≤ (xR X).slots) (hF : (xs X).heap.size + cells ≤ g.1 + ws.length)
    (kk : Ab X g (cells + 1) (slots + N) Q (pc + 2) L (.ref ws.length :: st) (ws ++ [.inl (kd, a0)])) : Ab X g cells slots Q pc L (.int n :: st) ws := by
  subst hty
  intro H locs ls hP hS hl T hT Xs
  have hz : H.size = g.1 + ws.length := tk_size hT Xs O.2.2.2.2.2.1 hP hS hF
  refine va_newaK (g := F0 (xm X) pc ls (.int n :: st.map (cv g.1))) O.1 O.2.1 (O.2.2.2.1 _ harr) rfl hd rfl hn hN hbytes hcells hslots hz (fun H1 cA e1 z1 o1 hAr hNm => ?_) T hT Xs
  have hkk := O.2.2.2.2.1.2 kd _ hk
  have hcA : cA = g.2.2 kd := Option.some.inj (hNm.symm.trans (hr hkk.2))
  subst hcA
  have hk : ∀ q : Nat, q < H.size → H1[q]? = H[q]? := fun q hq => o1 q (by rw [← hz]; exact hq)
  refine kk H1 locs ls ?_ ⟨Nat.le_trans hS.1 (by omega), fun q h1 h2 => (hk q (Nat.lt_of_lt_of_le h1 hS.1)).trans (hS.2.1 q h1 h2), hS.2.2⟩ hl
  rw [← cw_push]
  refine (tk_kept hP hk).app (fun k x hx => ?_)
  have h0 : k < 1 := (List.getElem?_eq_some_iff.mp hx).1
  rw [show k = 0 by omega] at hx
  cases hx
  rw [hc]
  show H1[g.1 + ws.length]? = some (vp_cell _ a0)
  rw [ha]
  exact e1
/-- new int[N][K]: the outer array's cell, and N rows behind it -/
theorem ab_multi (O : ab_Ok X g cc own) {index : Nat} {n k0 : Int32} {N K : Nat} (hd : decode cc pc = .ok (.multianewarray index 2, 4)) (hcl : Cond.classLink own index ("[" ++ (FieldType.array .int).toString) ∈ tk_w) (hov : va_Nw (.arrayOver (.array .int)) (xs X)) (harr : Cond.arrayClass .int ∈ tk_w) (hn : ¬ n < 0) (hk : ¬ k0 < 0) (hN : n.toNatClampNeg = N) (hK : k0.toNatClampNeg = K) (hb : N ≤ 1000 ∧ K ≤ 1000) (hcells : cells + (1 + N) ≤ (xR X).cells) (hslots : slots + (N + N * K) ≤ (xR X).slots) (hF : (xs X).heap.size + cells ≤ g.1 + ws.length)
    (kk : Ab X g (cells + 1 + N) (slots + N + N * K) Q (pc + 4) L (.ref ws.length :: st) (ws ++ .inl (4, N, .inr (.inr (.inr (.inr (fun i => if i < N then some (ws.length + 1 + i) else none))))) :: List.replicate N (.inl (0, K, .inl (fun _ => 0))))) : Ab X g cells slots Q pc L (.int k0 :: .int n :: st) ws := by
  subst hN
  subst hK
  intro H locs ls hP hS hl T hT Xs
  have hz : H.size = g.1 + ws.length := tk_size hT Xs O.2.2.2.2.2.1 hP hS hF
  obtain ⟨vm₁, cA, comp, -, fA, fC, -, -, X', step⟩ := Xs.multianewarray2F O.1 O.2.2.1 (O.2.2.2.1 _ hcl) (Jvm.Stand.arrayOver_alikeB (Vm.Alike.refl _) hov) (O.2.2.2.1 _ harr) (g := F0 (xm X) pc ls (.int k0 :: .int n :: st.map (cv g.1))) rfl (by rw [O.2.1]; exact hd) rfl hn hk (by omega) (by rw [show componentBytes FieldType.int = 4 from rfl]; omega) (by omega) rfl rfl hcells hslots
  have hcA : cA = g.2.2 4 := Option.some.inj (fA.symm.trans (O.2.2.2.2.1.2 4 _ rfl).2)
  have hco : comp = g.2.2 0 := Option.some.inj (fC.symm.trans (O.2.2.2.2.1.2 0 _ rfl).2)
  subst hcA
  subst hco
  obtain ⟨f1, f2, -, -⟩ := Jvm.Free.Multi.fill_facts (T.setVm vm₁) (g.2.2 4) (g.2.2 0) n.toNatClampNeg k0.toNatClampNeg (defaultValue .int) n.toNatClampNeg
  have f3 := fun j hj => Jvm.Free.Multi.fill_inner (T.setVm vm₁) (g.2.2 4) (g.2.2 0) n.toNatClampNeg k0.toNatClampNeg (defaultValue .int) n.toNatClampNeg j hj
  have f4 := fun (a : Nat) (ha : a < (T.setVm vm₁).heap.size) => Jvm.Free.Multi.fill_old (T.setVm vm₁) (g.2.2 4) (g.2.2 0) n.toNatClampNeg k0.toNatClampNeg (defaultValue .int) (a := a) ha n.toNatClampNeg
  have hTh : (T.setVm vm₁).heap = H := hT
  rw [hTh] at f1 f2 f3 f4
  generalize Jvm.Free.Multi.fill (T.setVm vm₁) (g.2.2 4) (g.2.2 0) n.toNatClampNeg k0.toNatClampNeg (defaultValue .int) n.toNatClampNeg = F at X' step f1 f2 f3 f4
  have hP1 : va_P g.2.1 vwCl (cw g.1 g.2.2 (ws ++ .inl (4, n.toNatClampNeg, .inr (.inr (.inr (.inr (fun i => if i < n.toNatClampNeg then some (ws.length + 1 + i) else none))))) :: List.replicate n.toNatClampNeg (.inl (0, k0.toNatClampNeg, .inl (fun _ => 0))))) F.heap := by
    intro j x hx
    rw [cw_at] at hx
    by_cases h1 : j < ws.length
    · rw [List.getElem?_append_left h1] at hx
      refine (hP j x (by rw [cw_at]; exact hx)).kept (f4 _ ?_)
      exact (hP j x (by rw [cw_at]; exact hx)).lt
    · rw [List.getElem?_append_right (by omega)] at hx
      by_cases h2 : j = ws.length
      · subst h2
        rw [Nat.sub_self] at hx
        cases hx
        show F.heap[g.1 + ws.length]? = some (vp_cell _ _)
        rw [← hz, f2, vr_outer, vp_cell_q]
        congr 2
        funext i
        by_cases hi : i < n.toNatClampNeg
        · simp only [hi, if_true, Option.map_some]
          rw [hz]
          show va_rf (some _) = va_rf (some _)
          congr 2
          omega
        · simp only [hi, if_false, Option.map_none]
      · rw [show j - ws.length = (j - ws.length - 1) + 1 by omega, List.getElem?_cons_succ, List.getElem?_replicate] at hx
        by_cases h3 : j - ws.length - 1 < n.toNatClampNeg
        · rw [if_pos h3] at hx
          cases hx
          show F.heap[g.1 + j]? = some (vp_cell _ _)
          have := f3 _ h3
          rw [hz, show g.1 + ws.length + 1 + (j - ws.length - 1) = g.1 + j by omega] at this
          rw [this, vp_cell_i]
          show some _ = some (arrV _ _ _)
          rw [show (fun (_ : Nat) => Value.int 0) = (fun _ => defaultValue .int) from rfl, ← arrV_new]
          rfl
        · rw [if_neg h3] at hx
          cases hx
  obtain ⟨t, a1, a2⟩ := kk F.heap locs ls hP1 ⟨by rw [f1]; exact Nat.le_trans hS.1 (by omega), fun q h1 h2 => (f4 q (Nat.lt_of_lt_of_le h1 hS.1)).trans (hS.2.1 q h1 h2), hS.2.2⟩ hl F rfl X'
  refine ⟨t, step t ?_, a2⟩
  rw [hT, hz]
  exact a1
end ABN

