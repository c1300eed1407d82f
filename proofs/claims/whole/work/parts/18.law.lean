/-! THE LAW's own rows -/
section ABLW
variable {X : ab_M} {g : ab_G} {cells slots : Nat} {pc : Nat} {L : List (Option Value)} {st : List Value} {ws : List va_E} {cc : ByteArray} {own : String} {Q : State → Prop}
variable {strs : List (String × Nat × String)} {b N : Nat} {xs9 : Nat → Int32}
theorem ab_aload_nR (O : ab_Ok X g cc own) {k0 : Fin 4} (i : Nat) {x : Nat} (hd : decode cc pc = .ok (.aload_n k0, 1)) (hi : (k0 : Nat) = i) (hx : L[i]? = some (some (.retAddr x))) (k : Ab X g cells slots Q (pc + 1) L (.retAddr x :: st) ws) : Ab X g cells slots Q pc L st ws := by
  intro H locs ls hP hS hl
  exact lv_aload_n O.1 O.2.1 hd hi (hl.get hx) (k H locs ls hP hS hl)
theorem ab_slen (O : ab_Ok X g cc own) (hX : va_X b N xs9 (xs X) (xs X).heap) (hbl : b < (xs X).heap.size) (hbA : ¬ g.1 ≤ b) (hd : decode cc pc = .ok (.arraylength, 1)) (k : Ab X g cells slots Q (pc + 1) L (.int (Int32.ofNat N) :: st) ws) : Ab X g cells slots Q pc L (.retAddr b :: st) ws := by
  intro H locs ls hP hS hl
  exact va_slen O.1 O.2.1 hX hbl hbA hS hd (k H locs ls hP hS hl)
theorem ab_sld (O : ab_Ok X g cc own) (hX : va_X b N xs9 (xs X) (xs X).heap) (hbl : b < (xs X).heap.size) (hbA : ¬ g.1 ≤ b) {i : Int32} (hd : decode cc pc = .ok (.iaload, 1)) (hin : vp_in i N) (k : Ab X g cells slots Q (pc + 1) L (.int (xs9 i.toNatClampNeg) :: st) ws) : Ab X g cells slots Q pc L (.int i :: .retAddr b :: st) ws := by
  intro H locs ls hP hS hl
  exact va_sld O.1 O.2.1 hX hbl hbA hS hin hd (k H locs ls hP hS hl)
theorem ab_tabIn (O : ab_Ok X g cc own) {dflt lo hi : Int} {offs : Array Int} {len : Nat} {x : Int32} {off : Int} (tgt : Nat) (hd : decode cc pc = .ok (.tableswitch dflt lo hi offs, len)) (h1 : ¬ x.toInt < lo) (h2 : ¬ hi < x.toInt) (ho : offs[(x.toInt - lo).toNat]? = some off) (ht : (pc : Int) + off = (tgt : Int)) (k : Ab X g cells slots Q tgt L st ws) : Ab X g cells slots Q pc L (.int x :: st) ws := by
  intro H locs ls hP hS hl
  exact lv_tableIn O.1 O.2.1 hd h1 h2 ho ht (k H locs ls hP hS hl)
theorem ab_tabOut (O : ab_Ok X g cc own) {dflt lo hi : Int} {offs : Array Int} {len : Nat} {x : Int32} (tgt : Nat) (hd : decode cc pc = .ok (.tableswitch dflt lo hi offs, len)) (h : x.toInt < lo ∨ hi < x.toInt) (ht : (pc : Int) + dflt = (tgt : Int)) (k : Ab X g cells slots Q tgt L st ws) : Ab X g cells slots Q pc L (.int x :: st) ws := by
  intro H locs ls hP hS hl
  exact lv_tableOut O.1 O.2.1 hd h ht (k H locs ls hP hS hl)
theorem ch_met {l : Launch} {d mc ms nL : Nat} {ret : Option FieldType} {hh : List (Nat × Nat × Nat × Nat)} {Qc : Array Value → State → Outcome → State → Prop} {y : MethodName} {args : List Value} (h : CtH l g strs d mc ms y cc nL ret hh args ws Qc (fun _ _ => False)) : Met l y (.codeWith y cc nL ret hh :: tk_w) (tk_rm d mc ms) (va_Pc (args.map (cv g.1)) (tk_P g strs False ws)) Qc mc ms (ab_A g) := by
  intro p e h1 h2 h3 s m a below hf happ hP hK
  obtain ⟨n, o, q1, q2, q3, q4⟩ := h p e h1 h2 h3 s m a below hf happ hP hK
  refine ⟨n, o, q1, q2, q3, ?_⟩
  rcases q4 with q4 | ⟨q, -, E, ce, L, hx, -⟩
  · exact q4
  · obtain ⟨u, -, hu, -⟩ := hx
    exact hu.1.elim
def ch_ok (own : String) (index : Nat) (y : MethodName) (c2 : ByteArray) (nL2 : Nat) (ret2 : Option FieldType) (hh : List (Nat × Nat × Nat × Nat)) (n : Nat) : Prop := (y.cls ≠ "java/lang/invoke/MethodHandle" ∧ y.cls ≠ "java/lang/invoke/VarHandle" ∧ (parseMethodDescriptor y.desc).map (fun d => d.parameters.length) = some n) ∧ Cond.methodLink own index y ∈ tk_w ∧ Cond.initialized y.cls ∈ tk_w ∧ Cond.codeWith y c2 nL2 ret2 hh ∈ tk_w ∧ Cond.static y ∈ tk_w
theorem ab_callh (O : ab_Ok X g cc own) (hI : tk_S strs (xs X)) {index n nL2 d2 mc2 ms2 : Nat} {y : MethodName} {c2 : ByteArray} {ret2 : Option FieldType} {hh : List (Nat × Nat × Nat × Nat)} {args stk : List Value} {post : Int32 → List va_E → Prop} (h : ch_ok own index y c2 nL2 ret2 hh n) (hd : decode cc pc = .ok (.invokestatic index, 3))
    (hM : CtH (xl X) g strs d2 mc2 ms2 y c2 nL2 ret2 hh args ws (tk_I g post) (fun _ _ => False)) (hst : stk = args.reverse ++ st) (hn : args.length = n) (hR : d2 + 1 ≤ (xR X).frames ∧ 8 + (nL2 + 11) + 36 * d2 ≤ (xR X).locals) (hW : (st.map fun v => v.category).sum ≤ 8) (hroom : cells + mc2 ≤ (xR X).cells ∧ slots + ms2 ≤ (xR X).slots)
    (kk : ∀ (r : Int32) (u : List va_E), post r u → Ab X g (cells + mc2) (slots + ms2) Q (pc + 3) L (.int r :: st) u) : Ab X g cells slots Q pc L stk ws := by
  subst hst
  intro H locs ls hP hS hl T hT Xs
  have hG : GoodIn tk_w (.codeWith y c2 nL2 ret2 hh :: tk_w) := tk_good tk_w _ (fun _ h => h) h.2.2.2.1
  have cw : vx_CSW (xR X) (xs X) (xa X) own index y c2 nL2 ret2 hh (.codeWith y c2 nL2 ret2 hh :: tk_w) (tk_rm d2 mc2 ms2) mc2 ms2 n := ⟨⟨rfl, rfl, hR.1, hR.2, pay_in O.2.2.2.1 hG, List.mem_cons_self⟩, O.2.2.2.1 _ h.2.2.2.1, O.2.2.2.1 _ h.2.2.1, ⟨h.1.1, h.1.2.1⟩, fun sig q => by
    have h2 := h.1.2.2
    rw [q] at h2
    exact (Option.some.inj h2).symm, O.2.2.2.1 _ h.2.1, O.2.2.2.1 _ h.2.2.2.2⟩
  refine va_calli (A0 := ab_A g) (A1 := ab_A g) (a := (args.map (cv g.1)).toArray) (rest := st.map (cv g.1)) (vx_runSW (As := args.map (cv g.1)) (rest := st.map (cv g.1)) ⟨O.1, O.2.1, rfl, O.2.2.1, O.2.2.2.1⟩ (ch_met hM) cw ⟨tk_blind, fun U hU hW => ⟨rfl, tk_pre O hI hP hS (fun q => q.elim) U hU hW⟩⟩ rfl (by rw [List.length_map]; exact hn) hl.1 (by simp [F0, cv]) (by show 2 * 0 + _ ≤ 8; rw [tk_cat]; omega) hd hroom) hS (fun _ _ q => q) (fun _ q => q) ?_ T hT Xs
  exact fun r u t H1 locs1 e1 _ hp hB _ _ hS1 => kk r u hp H1 locs1 ls (by rw [← e1]; exact hB) hS1 hl
end ABLW

theorem ch_L_149 : ch_ok RL 149 yL_addVertex cL_addVertex 4 (some .int) [(0, 9, 12, 13), (0, 9, 15, 15)] 3 := ⟨by decide +kernel, lk_L_149, iy_RL, cy_L_addVertex, sy_L_addVertex⟩
theorem ch_L_159 : ch_ok RL 159 yL_setValue cL_setValue 5 (some .int) [(0, 10, 13, 21), (0, 10, 17, 13)] 4 := ⟨by decide +kernel, lk_L_159, iy_RL, cy_L_setValue, sy_L_setValue⟩
theorem ch_L_163 : ch_ok RL 163 yL_addEdge cL_addEdge 6 (some .int) [(0, 12, 15, 21), (0, 12, 19, 13), (0, 12, 23, 27), (0, 12, 27, 15)] 5 := ⟨by decide +kernel, lk_L_163, iy_RL, cy_L_addEdge, sy_L_addEdge⟩
theorem ch_L_167 : ch_ok RL 167 yL_removeEdge cL_removeEdge 4 (some .int) [(0, 9, 12, 21), (0, 9, 15, 15)] 3 := ⟨by decide +kernel, lk_L_167, iy_RL, cy_L_removeEdge, sy_L_removeEdge⟩
theorem ch_L_170 : ch_ok RL 170 yL_setWeight cL_setWeight 5 (some .int) [(0, 10, 13, 21), (0, 10, 17, 13), (0, 10, 21, 15)] 4 := ⟨by decide +kernel, lk_L_170, iy_RL, cy_L_setWeight, sy_L_setWeight⟩
theorem ch_L_173 : ch_ok RL 173 yL_addOnPath cL_addOnPath 6 (some .int) [(0, 12, 15, 21), (0, 12, 19, 13), (0, 12, 23, 38)] 5 := ⟨by decide +kernel, lk_L_173, iy_RL, cy_L_addOnPath, sy_L_addOnPath⟩
theorem ch_L_184 : ch_ok RL 184 yL_value cL_value 4 (some .int) [(0, 9, 12, 21)] 3 := ⟨by decide +kernel, lk_L_184, iy_RL, cy_L_value, sy_L_value⟩
theorem ch_L_187 : ch_ok RL 187 yL_weight cL_weight 4 (some .int) [(0, 9, 12, 21)] 3 := ⟨by decide +kernel, lk_L_187, iy_RL, cy_L_weight, sy_L_weight⟩
theorem ch_L_190 : ch_ok RL 190 yL_state cL_state 4 (some .int) [(0, 9, 12, 21)] 3 := ⟨by decide +kernel, lk_L_190, iy_RL, cy_L_state, sy_L_state⟩
theorem ch_L_193 : ch_ok RL 193 yL_otherEnd cL_otherEnd 5 (some .int) [(0, 10, 13, 21), (0, 10, 17, 38)] 4 := ⟨by decide +kernel, lk_L_193, iy_RL, cy_L_otherEnd, sy_L_otherEnd⟩
theorem ch_L_196 : ch_ok RL 196 yL_parallel cL_parallel 5 (some .int) [(0, 10, 13, 21)] 4 := ⟨by decide +kernel, lk_L_196, iy_RL, cy_L_parallel, sy_L_parallel⟩
theorem ch_L_199 : ch_ok RL 199 yL_lightest cL_lightest 5 (some .int) [(0, 10, 13, 21), (0, 10, 17, 38)] 4 := ⟨by decide +kernel, lk_L_199, iy_RL, cy_L_lightest, sy_L_lightest⟩
theorem ch_L_214 : ch_ok RL 214 yL_degree cL_degree 4 (some .int) [(0, 9, 12, 21)] 3 := ⟨by decide +kernel, lk_L_214, iy_RL, cy_L_degree, sy_L_degree⟩
theorem ch_L_217 : ch_ok RL 217 yL_neighbour cL_neighbour 5 (some .int) [(0, 10, 13, 21), (0, 10, 17, 38)] 4 := ⟨by decide +kernel, lk_L_217, iy_RL, cy_L_neighbour, sy_L_neighbour⟩
theorem ch_L_220 : ch_ok RL 220 yL_isConnected cL_isConnected 5 (some .int) [(0, 17, 20, 21)] 4 := ⟨by decide +kernel, lk_L_220, iy_RL, cy_L_isConnected, sy_L_isConnected⟩
theorem ch_L_223 : ch_ok RL 223 yL_isConnectedByWalk cL_isConnectedByWalk 5 (some .int) [(0, 17, 20, 21)] 4 := ⟨by decide +kernel, lk_L_223, iy_RL, cy_L_isConnectedByWalk, sy_L_isConnectedByWalk⟩
theorem ch_L_226 : ch_ok RL 226 yL_replacement cL_replacement 4 (some .int) [(0, 9, 12, 21), (0, 9, 15, 15), (0, 9, 18, 38)] 3 := ⟨by decide +kernel, lk_L_226, iy_RL, cy_L_replacement, sy_L_replacement⟩
theorem ch_L_229 : ch_ok RL 229 yL_replacementAnew cL_replacementAnew 4 (some .int) [(0, 9, 12, 21), (0, 9, 15, 15), (0, 9, 18, 38)] 3 := ⟨by decide +kernel, lk_L_229, iy_RL, cy_L_replacementAnew, sy_L_replacementAnew⟩
theorem ch_L_232 : ch_ok RL 232 yL_pathVertices cL_pathVertices 5 (some .int) [(0, 10, 13, 21), (0, 10, 17, 38)] 4 := ⟨by decide +kernel, lk_L_232, iy_RL, cy_L_pathVertices, sy_L_pathVertices⟩
theorem ch_L_235 : ch_ok RL 235 yL_pathVertex cL_pathVertex 6 (some .int) [(0, 12, 15, 21), (0, 12, 19, 38), (0, 12, 23, 13)] 5 := ⟨by decide +kernel, lk_L_235, iy_RL, cy_L_pathVertex, sy_L_pathVertex⟩
theorem ch_L_238 : ch_ok RL 238 yL_pathSum cL_pathSum 5 (some .int) [(0, 10, 13, 21), (0, 10, 17, 38)] 4 := ⟨by decide +kernel, lk_L_238, iy_RL, cy_L_pathSum, sy_L_pathSum⟩
theorem ch_L_241 : ch_ok RL 241 yL_pathSumByHeavyPaths cL_pathSumByHeavyPaths 5 (some .int) [(0, 10, 13, 21), (0, 10, 17, 38)] 4 := ⟨by decide +kernel, lk_L_241, iy_RL, cy_L_pathSumByHeavyPaths, sy_L_pathSumByHeavyPaths⟩
theorem ch_L_244 : ch_ok RL 244 yL_pathSumByWalk cL_pathSumByWalk 5 (some .int) [(0, 10, 13, 21), (0, 10, 17, 38)] 4 := ⟨by decide +kernel, lk_L_244, iy_RL, cy_L_pathSumByWalk, sy_L_pathSumByWalk⟩
theorem ch_L_247 : ch_ok RL 247 yL_last cL_last 5 (some .int) [(0, 10, 13, 21), (0, 10, 17, 38), (0, 10, 21, 27)] 4 := ⟨by decide +kernel, lk_L_247, iy_RL, cy_L_last, sy_L_last⟩
theorem ch_L_250 : ch_ok RL 250 yL_lastByWalk cL_lastByWalk 5 (some .int) [(0, 10, 13, 21), (0, 10, 17, 38), (0, 10, 21, 27)] 4 := ⟨by decide +kernel, lk_L_250, iy_RL, cy_L_lastByWalk, sy_L_lastByWalk⟩
theorem ch_L_253 : ch_ok RL 253 yL_mean cL_mean 5 (some .int) [(0, 10, 13, 21), (0, 10, 17, 38)] 4 := ⟨by decide +kernel, lk_L_253, iy_RL, cy_L_mean, sy_L_mean⟩
theorem ch_L_257 : ch_ok RL 257 yL_parent cL_parent 5 (some .int) [(0, 10, 13, 21), (0, 10, 17, 38), (0, 10, 21, 27)] 4 := ⟨by decide +kernel, lk_L_257, iy_RL, cy_L_parent, sy_L_parent⟩
theorem ch_L_260 : ch_ok RL 260 yL_depth cL_depth 5 (some .int) [(0, 10, 13, 21), (0, 10, 17, 38)] 4 := ⟨by decide +kernel, lk_L_260, iy_RL, cy_L_depth, sy_L_depth⟩
theorem ch_L_263 : ch_ok RL 263 yL_ancestor cL_ancestor 6 (some .int) [(0, 12, 15, 21), (0, 12, 19, 38), (0, 12, 23, 13)] 5 := ⟨by decide +kernel, lk_L_263, iy_RL, cy_L_ancestor, sy_L_ancestor⟩
theorem ch_L_266 : ch_ok RL 266 yL_ancestorByWalk cL_ancestorByWalk 6 (some .int) [(0, 12, 15, 21), (0, 12, 19, 38), (0, 12, 23, 13)] 5 := ⟨by decide +kernel, lk_L_266, iy_RL, cy_L_ancestorByWalk, sy_L_ancestorByWalk⟩
theorem ch_L_269 : ch_ok RL 269 yL_common cL_common 6 (some .int) [(0, 12, 15, 21), (0, 12, 19, 38)] 5 := ⟨by decide +kernel, lk_L_269, iy_RL, cy_L_common, sy_L_common⟩
theorem ch_L_272 : ch_ok RL 272 yL_commonByWalk cL_commonByWalk 6 (some .int) [(0, 12, 15, 21), (0, 12, 19, 38)] 5 := ⟨by decide +kernel, lk_L_272, iy_RL, cy_L_commonByWalk, sy_L_commonByWalk⟩
theorem ch_L_275 : ch_ok RL 275 yL_subtreeSize cL_subtreeSize 5 (some .int) [(0, 10, 13, 21), (0, 10, 17, 38)] 4 := ⟨by decide +kernel, lk_L_275, iy_RL, cy_L_subtreeSize, sy_L_subtreeSize⟩
theorem ch_L_278 : ch_ok RL 278 yL_subtreeSum cL_subtreeSum 5 (some .int) [(0, 10, 13, 21), (0, 10, 17, 38)] 4 := ⟨by decide +kernel, lk_L_278, iy_RL, cy_L_subtreeSum, sy_L_subtreeSum⟩
theorem ch_L_281 : ch_ok RL 281 yL_heavyChild cL_heavyChild 5 (some .int) [(0, 10, 13, 21), (0, 10, 17, 38), (0, 10, 21, 27)] 4 := ⟨by decide +kernel, lk_L_281, iy_RL, cy_L_heavyChild, sy_L_heavyChild⟩
theorem ch_L_284 : ch_ok RL 284 yL_head cL_head 5 (some .int) [(0, 10, 13, 21), (0, 10, 17, 38)] 4 := ⟨by decide +kernel, lk_L_284, iy_RL, cy_L_head, sy_L_head⟩
theorem ch_L_287 : ch_ok RL 287 yL_heavyPaths cL_heavyPaths 4 (some .int) [(0, 9, 12, 21)] 3 := ⟨by decide +kernel, lk_L_287, iy_RL, cy_L_heavyPaths, sy_L_heavyPaths⟩
theorem ch_L_290 : ch_ok RL 290 yL_lightEdges cL_lightEdges 5 (some .int) [(0, 10, 13, 21), (0, 10, 17, 38)] 4 := ⟨by decide +kernel, lk_L_290, iy_RL, cy_L_lightEdges, sy_L_lightEdges⟩
theorem ch_L_293 : ch_ok RL 293 yL_diameter cL_diameter 4 (some .int) [(0, 9, 12, 21)] 3 := ⟨by decide +kernel, lk_L_293, iy_RL, cy_L_diameter, sy_L_diameter⟩
theorem ch_L_296 : ch_ok RL 296 yL_diameterByTrying cL_diameterByTrying 4 (some .int) [(0, 9, 12, 21)] 3 := ⟨by decide +kernel, lk_L_296, iy_RL, cy_L_diameterByTrying, sy_L_diameterByTrying⟩
def wpc_0 (V : Mm) (o : Nat → Int64) (D : Nat → UInt64) (a1 a2 a3 : Int32) (J : Mm → Prop) : Prop := (wp_L_addVertex V a1 o D (fun (k1 : Int32) (V2 : Mm) (o3 : Nat → Int64) (D4 : Nat → UInt64) => (wp_X9_addVertex V2 a1 (fun (r5 : Int32) (V6 : Mm) => (wp_X9_thrown V6 (fun (r7 : Int32) (V8 : Mm) => ((r7 = k1 → ((k1 = 0 → (((lg_cmp ((o3 0)) ((r5).toInt64)) = 0 → J V8) ∧ (¬ (lg_cmp ((o3 0)) ((r5).toInt64)) = 0 → False))) ∧ (¬ k1 = 0 → J V8))) ∧ (¬ r7 = k1 → False))))))))
set_option maxHeartbeats 4000000 in
theorem cc_0 {X : ab_M} {g : ab_G} {cells slots b N : Nat} {xs9 : Nat → Int32} {Q : State → Prop} (O : ab_Ok X g cL_law RL) (hI : tk_S tk_strs (xs X)) (hR : xR X = room_1) (hX : va_X b N xs9 (xs X) (xs X).heap) (hbl : b < (xs X).heap.size) (hbA : ¬ g.1 ≤ b) (hc : cells + 6 ≤ 601024) (hs : slots + 36 ≤ 7293034) {x a1 a2 a3 : Int32} (hin1 : vp_in (x + 1) N) (hin2 : vp_in (x + 2) N) (hin3 : vp_in (x + 3) N) (e1 : xs9 (Int32.toNatClampNeg (x + 1)) = a1) (e2 : xs9 (Int32.toNatClampNeg (x + 2)) = a2) (e3 : xs9 (Int32.toNatClampNeg (x + 3)) = a3) {J : Mm → Prop} {V : Mm} {o : Nat → Int64} {D : Nat → UInt64} (h : wpc_0 V o D a1 a2 a3 J) (hk : ∀ (V : Mm) (o : Nat → Int64) (D : Nat → UInt64), J V → Ab X g (cells + 6) (slots + 36) Q 3013 [some (.retAddr b), some (.ref 0), some (.ref 57), some (.ref 72), some (.ref 73), some (.int x), none, none] [] (SW V o D)) : Ab X g cells slots Q 240 [some (.retAddr b), some (.ref 0), some (.ref 57), some (.ref 72), some (.ref 73), some (.int x), none, none] [] (SW V o D) := by
  refine ab_aload_n O 1 dL_law_240 rfl rfl ?_
  refine ab_aload_nR O 0 dL_law_241 rfl rfl ?_
  refine ab_iload O dL_law_242 rfl ?_
  refine ab_iconst O 1 dL_law_244 rfl ?_
  refine ab_iadd O dL_law_245 ?_
  refine ab_sld O hX hbl hbA dL_law_246 hin1 ?_
  refine ab_eq (st2 := [.int a1, .ref 0]) ?_ rfl rfl (by rw [e1]) rfl
  refine ab_aload_n O 3 dL_law_247 rfl rfl ?_
  refine ab_callh O hI (st := []) ch_L_149 dL_law_248 (c_L_addVertex 11 (by decide) _ O.2.2.2.2.2.2.1 _ _ _ a1 h) rfl rfl (by rw [hR]; exact ⟨by decide, by decide⟩) (show 0 ≤ 8 by decide) (by rw [hR]; exact ⟨show cells + 2 ≤ 601024 by omega, show slots + 12 ≤ 7293034 by omega⟩) (fun k1 u hu => ?_)
  obtain ⟨V2, o3, D4, rfl, h⟩ := hu
  refine ab_istore O dL_law_251 (show 6 < 8 by decide) ?_
  refine ab_aload_n O 2 dL_law_253 rfl rfl ?_
  refine ab_aload_nR O 0 dL_law_254 rfl rfl ?_
  refine ab_iload O dL_law_255 rfl ?_
  refine ab_iconst O 1 dL_law_257 rfl ?_
  refine ab_iadd O dL_law_258 ?_
  refine ab_sld O hX hbl hbA dL_law_259 hin1 ?_
  refine ab_eq (st2 := [.int a1, .ref 57]) ?_ rfl rfl (by rw [e1]) rfl
  refine ab_callvI O hI (fr := False) (st := []) lk_L_154 rfl (at_57 _ _ _) dL_law_260 (c_X9_addVertex 11 (by decide) _ O.2.2.2.2.2.2.1 _ _ _ a1 h) rfl rfl (by rw [hR]; exact ⟨by decide, by decide⟩) (show 0 ≤ 8 by decide) (by rw [hR]; exact ⟨show cells + 2 ≤ 601024 by omega, show slots + 12 ≤ 7293034 by omega⟩) (fun q => q.elim) (fun E u q => q.elim) (fun r5 u hu => ?_)
  obtain ⟨V6, rfl, h⟩ := hu
  refine ab_istore O dL_law_263 (show 7 < 8 by decide) ?_
  refine ab_aload_n O 2 dL_law_265 rfl rfl ?_
  refine ab_callvI O hI (fr := False) (st := []) lk_L_155 rfl (at_57 _ _ _) dL_law_266 (c_X9_thrown 11 (by decide) _ O.2.2.2.2.2.2.1 _ _ _ h) rfl rfl (by rw [hR]; exact ⟨by decide, by decide⟩) (show 0 ≤ 8 by decide) (by rw [hR]; exact ⟨show cells + 2 ≤ 601024 by omega, show slots + 12 ≤ 7293034 by omega⟩) (fun q => q.elim) (fun E u q => q.elim) (fun r7 u hu => ?_)
  obtain ⟨V8, rfl, h⟩ := hu
  refine ab_iload O dL_law_269 rfl ?_
  refine ab_icmp_eq O 276 dL_law_271 rfl (fun q9 => ?_) (fun q9 => ?_)
  · have h := h.1 q9
    refine ab_iload O dL_law_276 rfl ?_
    refine ab_if_ne O 293 dL_law_278 rfl (fun q10 => ?_) (fun q10 => ?_)
    · have h := h.2 q10
      refine ab_goto O 3013 dL_law_293 rfl ?_
      exact ab_widen (by omega) (by omega) (ab_less (hk V8 o3 D4 h) (ab_le_s (ab_le_s (ab_le_s (ab_le_s (ab_le_s (ab_le_s (ab_le_n (ab_le_n ab_le_0)))))))))
    · have h := h.1 q10
      refine ab_aload_n O 3 dL_law_281 rfl rfl ?_
      refine ab_iconst O 0 dL_law_282 rfl ?_
      refine ab_lald O dL_law_283 (at_72 _ _ _) (by unfold vp_in; decide) ?_
      refine ab_eq (st2 := [.long (o3 0)]) ?_ rfl rfl rfl rfl
      refine ab_iload O dL_law_284 rfl ?_
      refine ab_i2l O dL_law_286 ?_
      refine ab_lcmp O dL_law_287 ?_
      refine ab_if_eq O 293 dL_law_288 rfl (fun q11 => ?_) (fun q11 => ?_)
      · have h := h.1 q11
        refine ab_goto O 3013 dL_law_293 rfl ?_
        exact ab_widen (by omega) (by omega) (ab_less (hk V8 o3 D4 h) (ab_le_s (ab_le_s (ab_le_s (ab_le_s (ab_le_s (ab_le_s (ab_le_n (ab_le_n ab_le_0)))))))))
      · have h := h.2 q11
        exact h.elim
  · have h := h.2 q9
    exact h.elim

def wpc_1 (V : Mm) (o : Nat → Int64) (D : Nat → UInt64) (a1 a2 a3 : Int32) (J : Mm → Prop) : Prop := (wp_L_setValue V a1 a2 o D (fun (k1 : Int32) (V2 : Mm) (o3 : Nat → Int64) (D4 : Nat → UInt64) => (wp_X9_setValue V2 a1 a2 (fun (r5 : Int32) (V6 : Mm) => (wp_X9_thrown V6 (fun (r7 : Int32) (V8 : Mm) => ((r7 = k1 → ((k1 = 0 → (((lg_cmp ((o3 0)) ((r5).toInt64)) = 0 → J V8) ∧ (¬ (lg_cmp ((o3 0)) ((r5).toInt64)) = 0 → False))) ∧ (¬ k1 = 0 → J V8))) ∧ (¬ r7 = k1 → False))))))))
set_option maxHeartbeats 4000000 in
theorem cc_1 {X : ab_M} {g : ab_G} {cells slots b N : Nat} {xs9 : Nat → Int32} {Q : State → Prop} (O : ab_Ok X g cL_law RL) (hI : tk_S tk_strs (xs X)) (hR : xR X = room_1) (hX : va_X b N xs9 (xs X) (xs X).heap) (hbl : b < (xs X).heap.size) (hbA : ¬ g.1 ≤ b) (hc : cells + 6 ≤ 601024) (hs : slots + 36 ≤ 7293034) {x a1 a2 a3 : Int32} (hin1 : vp_in (x + 1) N) (hin2 : vp_in (x + 2) N) (hin3 : vp_in (x + 3) N) (e1 : xs9 (Int32.toNatClampNeg (x + 1)) = a1) (e2 : xs9 (Int32.toNatClampNeg (x + 2)) = a2) (e3 : xs9 (Int32.toNatClampNeg (x + 3)) = a3) {J : Mm → Prop} {V : Mm} {o : Nat → Int64} {D : Nat → UInt64} (h : wpc_1 V o D a1 a2 a3 J) (hk : ∀ (V : Mm) (o : Nat → Int64) (D : Nat → UInt64), J V → Ab X g (cells + 6) (slots + 36) Q 3013 [some (.retAddr b), some (.ref 0), some (.ref 57), some (.ref 72), some (.ref 73), some (.int x), none, none] [] (SW V o D)) : Ab X g cells slots Q 296 [some (.retAddr b), some (.ref 0), some (.ref 57), some (.ref 72), some (.ref 73), some (.int x), none, none] [] (SW V o D) := by
  refine ab_aload_n O 1 dL_law_296 rfl rfl ?_
  refine ab_aload_nR O 0 dL_law_297 rfl rfl ?_
  refine ab_iload O dL_law_298 rfl ?_
  refine ab_iconst O 1 dL_law_300 rfl ?_
  refine ab_iadd O dL_law_301 ?_
  refine ab_sld O hX hbl hbA dL_law_302 hin1 ?_
  refine ab_eq (st2 := [.int a1, .ref 0]) ?_ rfl rfl (by rw [e1]) rfl
  refine ab_aload_nR O 0 dL_law_303 rfl rfl ?_
  refine ab_iload O dL_law_304 rfl ?_
  refine ab_iconst O 2 dL_law_306 rfl ?_
  refine ab_iadd O dL_law_307 ?_
  refine ab_sld O hX hbl hbA dL_law_308 hin2 ?_
  refine ab_eq (st2 := [.int a2, .int a1, .ref 0]) ?_ rfl rfl (by rw [e2]) rfl
  refine ab_aload_n O 3 dL_law_309 rfl rfl ?_
  refine ab_callh O hI (st := []) ch_L_159 dL_law_310 (c_L_setValue 11 (by decide) _ O.2.2.2.2.2.2.1 _ _ _ a1 a2 h) rfl rfl (by rw [hR]; exact ⟨by decide, by decide⟩) (show 0 ≤ 8 by decide) (by rw [hR]; exact ⟨show cells + 2 ≤ 601024 by omega, show slots + 12 ≤ 7293034 by omega⟩) (fun k1 u hu => ?_)
  obtain ⟨V2, o3, D4, rfl, h⟩ := hu
  refine ab_istore O dL_law_313 (show 6 < 8 by decide) ?_
  refine ab_aload_n O 2 dL_law_315 rfl rfl ?_
  refine ab_aload_nR O 0 dL_law_316 rfl rfl ?_
  refine ab_iload O dL_law_317 rfl ?_
  refine ab_iconst O 1 dL_law_319 rfl ?_
  refine ab_iadd O dL_law_320 ?_
  refine ab_sld O hX hbl hbA dL_law_321 hin1 ?_
  refine ab_eq (st2 := [.int a1, .ref 57]) ?_ rfl rfl (by rw [e1]) rfl
  refine ab_aload_nR O 0 dL_law_322 rfl rfl ?_
  refine ab_iload O dL_law_323 rfl ?_
  refine ab_iconst O 2 dL_law_325 rfl ?_
  refine ab_iadd O dL_law_326 ?_
  refine ab_sld O hX hbl hbA dL_law_327 hin2 ?_
  refine ab_eq (st2 := [.int a2, .int a1, .ref 57]) ?_ rfl rfl (by rw [e2]) rfl
  refine ab_callvI O hI (fr := False) (st := []) lk_L_162 rfl (at_57 _ _ _) dL_law_328 (c_X9_setValue 11 (by decide) _ O.2.2.2.2.2.2.1 _ _ _ a1 a2 h) rfl rfl (by rw [hR]; exact ⟨by decide, by decide⟩) (show 0 ≤ 8 by decide) (by rw [hR]; exact ⟨show cells + 2 ≤ 601024 by omega, show slots + 12 ≤ 7293034 by omega⟩) (fun q => q.elim) (fun E u q => q.elim) (fun r5 u hu => ?_)
  obtain ⟨V6, rfl, h⟩ := hu
  refine ab_istore O dL_law_331 (show 7 < 8 by decide) ?_
  refine ab_aload_n O 2 dL_law_333 rfl rfl ?_
  refine ab_callvI O hI (fr := False) (st := []) lk_L_155 rfl (at_57 _ _ _) dL_law_334 (c_X9_thrown 11 (by decide) _ O.2.2.2.2.2.2.1 _ _ _ h) rfl rfl (by rw [hR]; exact ⟨by decide, by decide⟩) (show 0 ≤ 8 by decide) (by rw [hR]; exact ⟨show cells + 2 ≤ 601024 by omega, show slots + 12 ≤ 7293034 by omega⟩) (fun q => q.elim) (fun E u q => q.elim) (fun r7 u hu => ?_)
  obtain ⟨V8, rfl, h⟩ := hu
  refine ab_iload O dL_law_337 rfl ?_
  refine ab_icmp_eq O 344 dL_law_339 rfl (fun q9 => ?_) (fun q9 => ?_)
  · have h := h.1 q9
    refine ab_iload O dL_law_344 rfl ?_
    refine ab_if_ne O 361 dL_law_346 rfl (fun q10 => ?_) (fun q10 => ?_)
    · have h := h.2 q10
      refine ab_goto O 3013 dL_law_361 rfl ?_
      exact ab_widen (by omega) (by omega) (ab_less (hk V8 o3 D4 h) (ab_le_s (ab_le_s (ab_le_s (ab_le_s (ab_le_s (ab_le_s (ab_le_n (ab_le_n ab_le_0)))))))))
    · have h := h.1 q10
      refine ab_aload_n O 3 dL_law_349 rfl rfl ?_
      refine ab_iconst O 0 dL_law_350 rfl ?_
      refine ab_lald O dL_law_351 (at_72 _ _ _) (by unfold vp_in; decide) ?_
      refine ab_eq (st2 := [.long (o3 0)]) ?_ rfl rfl rfl rfl
      refine ab_iload O dL_law_352 rfl ?_
      refine ab_i2l O dL_law_354 ?_
      refine ab_lcmp O dL_law_355 ?_
      refine ab_if_eq O 361 dL_law_356 rfl (fun q11 => ?_) (fun q11 => ?_)
      · have h := h.1 q11
        refine ab_goto O 3013 dL_law_361 rfl ?_
        exact ab_widen (by omega) (by omega) (ab_less (hk V8 o3 D4 h) (ab_le_s (ab_le_s (ab_le_s (ab_le_s (ab_le_s (ab_le_s (ab_le_n (ab_le_n ab_le_0)))))))))
      · have h := h.2 q11
        exact h.elim
  · have h := h.2 q9
    exact h.elim

def wpc_2 (V : Mm) (o : Nat → Int64) (D : Nat → UInt64) (a1 a2 a3 : Int32) (J : Mm → Prop) : Prop := (wp_L_addEdge V a1 a2 a3 o D (fun (k1 : Int32) (V2 : Mm) (o3 : Nat → Int64) (D4 : Nat → UInt64) => (wp_X9_addEdge V2 a1 a2 a3 (fun (r5 : Int32) (V6 : Mm) => (wp_X9_thrown V6 (fun (r7 : Int32) (V8 : Mm) => ((r7 = k1 → ((k1 = 0 → (((lg_cmp ((o3 0)) ((r5).toInt64)) = 0 → J V8) ∧ (¬ (lg_cmp ((o3 0)) ((r5).toInt64)) = 0 → False))) ∧ (¬ k1 = 0 → J V8))) ∧ (¬ r7 = k1 → False))))))))
set_option maxHeartbeats 4000000 in
theorem cc_2 {X : ab_M} {g : ab_G} {cells slots b N : Nat} {xs9 : Nat → Int32} {Q : State → Prop} (O : ab_Ok X g cL_law RL) (hI : tk_S tk_strs (xs X)) (hR : xR X = room_1) (hX : va_X b N xs9 (xs X) (xs X).heap) (hbl : b < (xs X).heap.size) (hbA : ¬ g.1 ≤ b) (hc : cells + 6 ≤ 601024) (hs : slots + 36 ≤ 7293034) {x a1 a2 a3 : Int32} (hin1 : vp_in (x + 1) N) (hin2 : vp_in (x + 2) N) (hin3 : vp_in (x + 3) N) (e1 : xs9 (Int32.toNatClampNeg (x + 1)) = a1) (e2 : xs9 (Int32.toNatClampNeg (x + 2)) = a2) (e3 : xs9 (Int32.toNatClampNeg (x + 3)) = a3) {J : Mm → Prop} {V : Mm} {o : Nat → Int64} {D : Nat → UInt64} (h : wpc_2 V o D a1 a2 a3 J) (hk : ∀ (V : Mm) (o : Nat → Int64) (D : Nat → UInt64), J V → Ab X g (cells + 6) (slots + 36) Q 3013 [some (.retAddr b), some (.ref 0), some (.ref 57), some (.ref 72), some (.ref 73), some (.int x), none, none] [] (SW V o D)) : Ab X g cells slots Q 364 [some (.retAddr b), some (.ref 0), some (.ref 57), some (.ref 72), some (.ref 73), some (.int x), none, none] [] (SW V o D) := by
  refine ab_aload_n O 1 dL_law_364 rfl rfl ?_
  refine ab_aload_nR O 0 dL_law_365 rfl rfl ?_
  refine ab_iload O dL_law_366 rfl ?_
  refine ab_iconst O 1 dL_law_368 rfl ?_
  refine ab_iadd O dL_law_369 ?_
  refine ab_sld O hX hbl hbA dL_law_370 hin1 ?_
  refine ab_eq (st2 := [.int a1, .ref 0]) ?_ rfl rfl (by rw [e1]) rfl
  refine ab_aload_nR O 0 dL_law_371 rfl rfl ?_
  refine ab_iload O dL_law_372 rfl ?_
  refine ab_iconst O 2 dL_law_374 rfl ?_
  refine ab_iadd O dL_law_375 ?_
  refine ab_sld O hX hbl hbA dL_law_376 hin2 ?_
  refine ab_eq (st2 := [.int a2, .int a1, .ref 0]) ?_ rfl rfl (by rw [e2]) rfl
  refine ab_aload_nR O 0 dL_law_377 rfl rfl ?_
  refine ab_iload O dL_law_378 rfl ?_
  refine ab_iconst O 3 dL_law_380 rfl ?_
  refine ab_iadd O dL_law_381 ?_
  refine ab_sld O hX hbl hbA dL_law_382 hin3 ?_
  refine ab_eq (st2 := [.int a3, .int a2, .int a1, .ref 0]) ?_ rfl rfl (by rw [e3]) rfl
  refine ab_aload_n O 3 dL_law_383 rfl rfl ?_
  refine ab_callh O hI (st := []) ch_L_163 dL_law_384 (c_L_addEdge 11 (by decide) _ O.2.2.2.2.2.2.1 _ _ _ a1 a2 a3 h) rfl rfl (by rw [hR]; exact ⟨by decide, by decide⟩) (show 0 ≤ 8 by decide) (by rw [hR]; exact ⟨show cells + 5 ≤ 601024 by omega, show slots + 30 ≤ 7293034 by omega⟩) (fun k1 u hu => ?_)
  obtain ⟨V2, o3, D4, rfl, h⟩ := hu
  refine ab_istore O dL_law_387 (show 6 < 8 by decide) ?_
  refine ab_aload_n O 2 dL_law_389 rfl rfl ?_
  refine ab_aload_nR O 0 dL_law_390 rfl rfl ?_
  refine ab_iload O dL_law_391 rfl ?_
  refine ab_iconst O 1 dL_law_393 rfl ?_
  refine ab_iadd O dL_law_394 ?_
  refine ab_sld O hX hbl hbA dL_law_395 hin1 ?_
  refine ab_eq (st2 := [.int a1, .ref 57]) ?_ rfl rfl (by rw [e1]) rfl
  refine ab_aload_nR O 0 dL_law_396 rfl rfl ?_
  refine ab_iload O dL_law_397 rfl ?_
  refine ab_iconst O 2 dL_law_399 rfl ?_
  refine ab_iadd O dL_law_400 ?_
  refine ab_sld O hX hbl hbA dL_law_401 hin2 ?_
  refine ab_eq (st2 := [.int a2, .int a1, .ref 57]) ?_ rfl rfl (by rw [e2]) rfl
  refine ab_aload_nR O 0 dL_law_402 rfl rfl ?_
  refine ab_iload O dL_law_403 rfl ?_
  refine ab_iconst O 3 dL_law_405 rfl ?_
  refine ab_iadd O dL_law_406 ?_
  refine ab_sld O hX hbl hbA dL_law_407 hin3 ?_
  refine ab_eq (st2 := [.int a3, .int a2, .int a1, .ref 57]) ?_ rfl rfl (by rw [e3]) rfl
  refine ab_callvI O hI (fr := False) (st := []) lk_L_166 rfl (at_57 _ _ _) dL_law_408 (c_X9_addEdge 11 (by decide) _ O.2.2.2.2.2.2.1 _ _ _ a1 a2 a3 h) rfl rfl (by rw [hR]; exact ⟨by decide, by decide⟩) (show 0 ≤ 8 by decide) (by rw [hR]; exact ⟨show cells + 5 ≤ 601024 by omega, show slots + 30 ≤ 7293034 by omega⟩) (fun q => q.elim) (fun E u q => q.elim) (fun r5 u hu => ?_)
  obtain ⟨V6, rfl, h⟩ := hu
  refine ab_istore O dL_law_411 (show 7 < 8 by decide) ?_
  refine ab_aload_n O 2 dL_law_413 rfl rfl ?_
  refine ab_callvI O hI (fr := False) (st := []) lk_L_155 rfl (at_57 _ _ _) dL_law_414 (c_X9_thrown 11 (by decide) _ O.2.2.2.2.2.2.1 _ _ _ h) rfl rfl (by rw [hR]; exact ⟨by decide, by decide⟩) (show 0 ≤ 8 by decide) (by rw [hR]; exact ⟨show cells + 5 ≤ 601024 by omega, show slots + 30 ≤ 7293034 by omega⟩) (fun q => q.elim) (fun E u q => q.elim) (fun r7 u hu => ?_)
  obtain ⟨V8, rfl, h⟩ := hu
  refine ab_iload O dL_law_417 rfl ?_
  refine ab_icmp_eq O 424 dL_law_419 rfl (fun q9 => ?_) (fun q9 => ?_)
  · have h := h.1 q9
    refine ab_iload O dL_law_424 rfl ?_
    refine ab_if_ne O 441 dL_law_426 rfl (fun q10 => ?_) (fun q10 => ?_)
    · have h := h.2 q10
      refine ab_goto O 3013 dL_law_441 rfl ?_
      exact ab_widen (by omega) (by omega) (ab_less (hk V8 o3 D4 h) (ab_le_s (ab_le_s (ab_le_s (ab_le_s (ab_le_s (ab_le_s (ab_le_n (ab_le_n ab_le_0)))))))))
    · have h := h.1 q10
      refine ab_aload_n O 3 dL_law_429 rfl rfl ?_
      refine ab_iconst O 0 dL_law_430 rfl ?_
      refine ab_lald O dL_law_431 (at_72 _ _ _) (by unfold vp_in; decide) ?_
      refine ab_eq (st2 := [.long (o3 0)]) ?_ rfl rfl rfl rfl
      refine ab_iload O dL_law_432 rfl ?_
      refine ab_i2l O dL_law_434 ?_
      refine ab_lcmp O dL_law_435 ?_
      refine ab_if_eq O 441 dL_law_436 rfl (fun q11 => ?_) (fun q11 => ?_)
      · have h := h.1 q11
        refine ab_goto O 3013 dL_law_441 rfl ?_
        exact ab_widen (by omega) (by omega) (ab_less (hk V8 o3 D4 h) (ab_le_s (ab_le_s (ab_le_s (ab_le_s (ab_le_s (ab_le_s (ab_le_n (ab_le_n ab_le_0)))))))))
      · have h := h.2 q11
        exact h.elim
  · have h := h.2 q9
    exact h.elim

def wpc_3 (V : Mm) (o : Nat → Int64) (D : Nat → UInt64) (a1 a2 a3 : Int32) (J : Mm → Prop) : Prop := (wp_L_removeEdge V a1 o D (fun (k1 : Int32) (V2 : Mm) (o3 : Nat → Int64) (D4 : Nat → UInt64) => (wp_X9_removeEdge V2 a1 (fun (r5 : Int32) (V6 : Mm) => (wp_X9_thrown V6 (fun (r7 : Int32) (V8 : Mm) => ((r7 = k1 → ((k1 = 0 → (((lg_cmp ((o3 0)) ((r5).toInt64)) = 0 → J V8) ∧ (¬ (lg_cmp ((o3 0)) ((r5).toInt64)) = 0 → False))) ∧ (¬ k1 = 0 → J V8))) ∧ (¬ r7 = k1 → False))))))))
set_option maxHeartbeats 4000000 in
theorem cc_3 {X : ab_M} {g : ab_G} {cells slots b N : Nat} {xs9 : Nat → Int32} {Q : State → Prop} (O : ab_Ok X g cL_law RL) (hI : tk_S tk_strs (xs X)) (hR : xR X = room_1) (hX : va_X b N xs9 (xs X) (xs X).heap) (hbl : b < (xs X).heap.size) (hbA : ¬ g.1 ≤ b) (hc : cells + 6 ≤ 601024) (hs : slots + 36 ≤ 7293034) {x a1 a2 a3 : Int32} (hin1 : vp_in (x + 1) N) (hin2 : vp_in (x + 2) N) (hin3 : vp_in (x + 3) N) (e1 : xs9 (Int32.toNatClampNeg (x + 1)) = a1) (e2 : xs9 (Int32.toNatClampNeg (x + 2)) = a2) (e3 : xs9 (Int32.toNatClampNeg (x + 3)) = a3) {J : Mm → Prop} {V : Mm} {o : Nat → Int64} {D : Nat → UInt64} (h : wpc_3 V o D a1 a2 a3 J) (hk : ∀ (V : Mm) (o : Nat → Int64) (D : Nat → UInt64), J V → Ab X g (cells + 6) (slots + 36) Q 3013 [some (.retAddr b), some (.ref 0), some (.ref 57), some (.ref 72), some (.ref 73), some (.int x), none, none] [] (SW V o D)) : Ab X g cells slots Q 444 [some (.retAddr b), some (.ref 0), some (.ref 57), some (.ref 72), some (.ref 73), some (.int x), none, none] [] (SW V o D) := by
  refine ab_aload_n O 1 dL_law_444 rfl rfl ?_
  refine ab_aload_nR O 0 dL_law_445 rfl rfl ?_
  refine ab_iload O dL_law_446 rfl ?_
  refine ab_iconst O 1 dL_law_448 rfl ?_
  refine ab_iadd O dL_law_449 ?_
  refine ab_sld O hX hbl hbA dL_law_450 hin1 ?_
  refine ab_eq (st2 := [.int a1, .ref 0]) ?_ rfl rfl (by rw [e1]) rfl
  refine ab_aload_n O 3 dL_law_451 rfl rfl ?_
  refine ab_callh O hI (st := []) ch_L_167 dL_law_452 (c_L_removeEdge 11 (by decide) _ O.2.2.2.2.2.2.1 _ _ _ a1 h) rfl rfl (by rw [hR]; exact ⟨by decide, by decide⟩) (show 0 ≤ 8 by decide) (by rw [hR]; exact ⟨show cells + 2 ≤ 601024 by omega, show slots + 12 ≤ 7293034 by omega⟩) (fun k1 u hu => ?_)
  obtain ⟨V2, o3, D4, rfl, h⟩ := hu
  refine ab_istore O dL_law_455 (show 6 < 8 by decide) ?_
  refine ab_aload_n O 2 dL_law_457 rfl rfl ?_
  refine ab_aload_nR O 0 dL_law_458 rfl rfl ?_
  refine ab_iload O dL_law_459 rfl ?_
  refine ab_iconst O 1 dL_law_461 rfl ?_
  refine ab_iadd O dL_law_462 ?_
  refine ab_sld O hX hbl hbA dL_law_463 hin1 ?_
  refine ab_eq (st2 := [.int a1, .ref 57]) ?_ rfl rfl (by rw [e1]) rfl
  refine ab_callvI O hI (fr := False) (st := []) lk_L_169 rfl (at_57 _ _ _) dL_law_464 (c_X9_removeEdge 11 (by decide) _ O.2.2.2.2.2.2.1 _ _ _ a1 h) rfl rfl (by rw [hR]; exact ⟨by decide, by decide⟩) (show 0 ≤ 8 by decide) (by rw [hR]; exact ⟨show cells + 2 ≤ 601024 by omega, show slots + 12 ≤ 7293034 by omega⟩) (fun q => q.elim) (fun E u q => q.elim) (fun r5 u hu => ?_)
  obtain ⟨V6, rfl, h⟩ := hu
  refine ab_istore O dL_law_467 (show 7 < 8 by decide) ?_
  refine ab_aload_n O 2 dL_law_469 rfl rfl ?_
  refine ab_callvI O hI (fr := False) (st := []) lk_L_155 rfl (at_57 _ _ _) dL_law_470 (c_X9_thrown 11 (by decide) _ O.2.2.2.2.2.2.1 _ _ _ h) rfl rfl (by rw [hR]; exact ⟨by decide, by decide⟩) (show 0 ≤ 8 by decide) (by rw [hR]; exact ⟨show cells + 2 ≤ 601024 by omega, show slots + 12 ≤ 7293034 by omega⟩) (fun q => q.elim) (fun E u q => q.elim) (fun r7 u hu => ?_)
  obtain ⟨V8, rfl, h⟩ := hu
  refine ab_iload O dL_law_473 rfl ?_
  refine ab_icmp_eq O 480 dL_law_475 rfl (fun q9 => ?_) (fun q9 => ?_)
  · have h := h.1 q9
    refine ab_iload O dL_law_480 rfl ?_
    refine ab_if_ne O 497 dL_law_482 rfl (fun q10 => ?_) (fun q10 => ?_)
    · have h := h.2 q10
      refine ab_goto O 3013 dL_law_497 rfl ?_
      exact ab_widen (by omega) (by omega) (ab_less (hk V8 o3 D4 h) (ab_le_s (ab_le_s (ab_le_s (ab_le_s (ab_le_s (ab_le_s (ab_le_n (ab_le_n ab_le_0)))))))))
    · have h := h.1 q10
      refine ab_aload_n O 3 dL_law_485 rfl rfl ?_
      refine ab_iconst O 0 dL_law_486 rfl ?_
      refine ab_lald O dL_law_487 (at_72 _ _ _) (by unfold vp_in; decide) ?_
      refine ab_eq (st2 := [.long (o3 0)]) ?_ rfl rfl rfl rfl
      refine ab_iload O dL_law_488 rfl ?_
      refine ab_i2l O dL_law_490 ?_
      refine ab_lcmp O dL_law_491 ?_
      refine ab_if_eq O 497 dL_law_492 rfl (fun q11 => ?_) (fun q11 => ?_)
      · have h := h.1 q11
        refine ab_goto O 3013 dL_law_497 rfl ?_
        exact ab_widen (by omega) (by omega) (ab_less (hk V8 o3 D4 h) (ab_le_s (ab_le_s (ab_le_s (ab_le_s (ab_le_s (ab_le_s (ab_le_n (ab_le_n ab_le_0)))))))))
      · have h := h.2 q11
        exact h.elim
  · have h := h.2 q9
    exact h.elim

def wpc_4 (V : Mm) (o : Nat → Int64) (D : Nat → UInt64) (a1 a2 a3 : Int32) (J : Mm → Prop) : Prop := (wp_L_setWeight V a1 a2 o D (fun (k1 : Int32) (V2 : Mm) (o3 : Nat → Int64) (D4 : Nat → UInt64) => (wp_X9_setWeight V2 a1 a2 (fun (r5 : Int32) (V6 : Mm) => (wp_X9_thrown V6 (fun (r7 : Int32) (V8 : Mm) => ((r7 = k1 → ((k1 = 0 → (((lg_cmp ((o3 0)) ((r5).toInt64)) = 0 → J V8) ∧ (¬ (lg_cmp ((o3 0)) ((r5).toInt64)) = 0 → False))) ∧ (¬ k1 = 0 → J V8))) ∧ (¬ r7 = k1 → False))))))))
set_option maxHeartbeats 4000000 in
theorem cc_4 {X : ab_M} {g : ab_G} {cells slots b N : Nat} {xs9 : Nat → Int32} {Q : State → Prop} (O : ab_Ok X g cL_law RL) (hI : tk_S tk_strs (xs X)) (hR : xR X = room_1) (hX : va_X b N xs9 (xs X) (xs X).heap) (hbl : b < (xs X).heap.size) (hbA : ¬ g.1 ≤ b) (hc : cells + 6 ≤ 601024) (hs : slots + 36 ≤ 7293034) {x a1 a2 a3 : Int32} (hin1 : vp_in (x + 1) N) (hin2 : vp_in (x + 2) N) (hin3 : vp_in (x + 3) N) (e1 : xs9 (Int32.toNatClampNeg (x + 1)) = a1) (e2 : xs9 (Int32.toNatClampNeg (x + 2)) = a2) (e3 : xs9 (Int32.toNatClampNeg (x + 3)) = a3) {J : Mm → Prop} {V : Mm} {o : Nat → Int64} {D : Nat → UInt64} (h : wpc_4 V o D a1 a2 a3 J) (hk : ∀ (V : Mm) (o : Nat → Int64) (D : Nat → UInt64), J V → Ab X g (cells + 6) (slots + 36) Q 3013 [some (.retAddr b), some (.ref 0), some (.ref 57), some (.ref 72), some (.ref 73), some (.int x), none, none] [] (SW V o D)) : Ab X g cells slots Q 500 [some (.retAddr b), some (.ref 0), some (.ref 57), some (.ref 72), some (.ref 73), some (.int x), none, none] [] (SW V o D) := by
  refine ab_aload_n O 1 dL_law_500 rfl rfl ?_
  refine ab_aload_nR O 0 dL_law_501 rfl rfl ?_
  refine ab_iload O dL_law_502 rfl ?_
  refine ab_iconst O 1 dL_law_504 rfl ?_
  refine ab_iadd O dL_law_505 ?_
  refine ab_sld O hX hbl hbA dL_law_506 hin1 ?_
  refine ab_eq (st2 := [.int a1, .ref 0]) ?_ rfl rfl (by rw [e1]) rfl
  refine ab_aload_nR O 0 dL_law_507 rfl rfl ?_
  refine ab_iload O dL_law_508 rfl ?_
  refine ab_iconst O 2 dL_law_510 rfl ?_
  refine ab_iadd O dL_law_511 ?_
  refine ab_sld O hX hbl hbA dL_law_512 hin2 ?_
  refine ab_eq (st2 := [.int a2, .int a1, .ref 0]) ?_ rfl rfl (by rw [e2]) rfl
  refine ab_aload_n O 3 dL_law_513 rfl rfl ?_
  refine ab_callh O hI (st := []) ch_L_170 dL_law_514 (c_L_setWeight 11 (by decide) _ O.2.2.2.2.2.2.1 _ _ _ a1 a2 h) rfl rfl (by rw [hR]; exact ⟨by decide, by decide⟩) (show 0 ≤ 8 by decide) (by rw [hR]; exact ⟨show cells + 3 ≤ 601024 by omega, show slots + 18 ≤ 7293034 by omega⟩) (fun k1 u hu => ?_)
  obtain ⟨V2, o3, D4, rfl, h⟩ := hu
  refine ab_istore O dL_law_517 (show 6 < 8 by decide) ?_
  refine ab_aload_n O 2 dL_law_519 rfl rfl ?_
  refine ab_aload_nR O 0 dL_law_520 rfl rfl ?_
  refine ab_iload O dL_law_521 rfl ?_
  refine ab_iconst O 1 dL_law_523 rfl ?_
  refine ab_iadd O dL_law_524 ?_
  refine ab_sld O hX hbl hbA dL_law_525 hin1 ?_
  refine ab_eq (st2 := [.int a1, .ref 57]) ?_ rfl rfl (by rw [e1]) rfl
  refine ab_aload_nR O 0 dL_law_526 rfl rfl ?_
  refine ab_iload O dL_law_527 rfl ?_
  refine ab_iconst O 2 dL_law_529 rfl ?_
  refine ab_iadd O dL_law_530 ?_
  refine ab_sld O hX hbl hbA dL_law_531 hin2 ?_
  refine ab_eq (st2 := [.int a2, .int a1, .ref 57]) ?_ rfl rfl (by rw [e2]) rfl
  refine ab_callvI O hI (fr := False) (st := []) lk_L_172 rfl (at_57 _ _ _) dL_law_532 (c_X9_setWeight 11 (by decide) _ O.2.2.2.2.2.2.1 _ _ _ a1 a2 h) rfl rfl (by rw [hR]; exact ⟨by decide, by decide⟩) (show 0 ≤ 8 by decide) (by rw [hR]; exact ⟨show cells + 3 ≤ 601024 by omega, show slots + 18 ≤ 7293034 by omega⟩) (fun q => q.elim) (fun E u q => q.elim) (fun r5 u hu => ?_)
  obtain ⟨V6, rfl, h⟩ := hu
  refine ab_istore O dL_law_535 (show 7 < 8 by decide) ?_
  refine ab_aload_n O 2 dL_law_537 rfl rfl ?_
  refine ab_callvI O hI (fr := False) (st := []) lk_L_155 rfl (at_57 _ _ _) dL_law_538 (c_X9_thrown 11 (by decide) _ O.2.2.2.2.2.2.1 _ _ _ h) rfl rfl (by rw [hR]; exact ⟨by decide, by decide⟩) (show 0 ≤ 8 by decide) (by rw [hR]; exact ⟨show cells + 3 ≤ 601024 by omega, show slots + 18 ≤ 7293034 by omega⟩) (fun q => q.elim) (fun E u q => q.elim) (fun r7 u hu => ?_)
  obtain ⟨V8, rfl, h⟩ := hu
  refine ab_iload O dL_law_541 rfl ?_
  refine ab_icmp_eq O 548 dL_law_543 rfl (fun q9 => ?_) (fun q9 => ?_)
  · have h := h.1 q9
    refine ab_iload O dL_law_548 rfl ?_
    refine ab_if_ne O 565 dL_law_550 rfl (fun q10 => ?_) (fun q10 => ?_)
    · have h := h.2 q10
      refine ab_goto O 3013 dL_law_565 rfl ?_
      exact ab_widen (by omega) (by omega) (ab_less (hk V8 o3 D4 h) (ab_le_s (ab_le_s (ab_le_s (ab_le_s (ab_le_s (ab_le_s (ab_le_n (ab_le_n ab_le_0)))))))))
    · have h := h.1 q10
      refine ab_aload_n O 3 dL_law_553 rfl rfl ?_
      refine ab_iconst O 0 dL_law_554 rfl ?_
      refine ab_lald O dL_law_555 (at_72 _ _ _) (by unfold vp_in; decide) ?_
      refine ab_eq (st2 := [.long (o3 0)]) ?_ rfl rfl rfl rfl
      refine ab_iload O dL_law_556 rfl ?_
      refine ab_i2l O dL_law_558 ?_
      refine ab_lcmp O dL_law_559 ?_
      refine ab_if_eq O 565 dL_law_560 rfl (fun q11 => ?_) (fun q11 => ?_)
      · have h := h.1 q11
        refine ab_goto O 3013 dL_law_565 rfl ?_
        exact ab_widen (by omega) (by omega) (ab_less (hk V8 o3 D4 h) (ab_le_s (ab_le_s (ab_le_s (ab_le_s (ab_le_s (ab_le_s (ab_le_n (ab_le_n ab_le_0)))))))))
      · have h := h.2 q11
        exact h.elim
  · have h := h.2 q9
    exact h.elim

def wpc_5 (V : Mm) (o : Nat → Int64) (D : Nat → UInt64) (a1 a2 a3 : Int32) (J : Mm → Prop) : Prop := (wp_L_addOnPath V a1 a2 a3 o D (fun (k1 : Int32) (V2 : Mm) (o3 : Nat → Int64) (D4 : Nat → UInt64) => (wp_X9_addOnPath V2 a1 a2 a3 (fun (r5 : Int32) (V6 : Mm) => (wp_X9_thrown V6 (fun (r7 : Int32) (V8 : Mm) => ((r7 = k1 → ((k1 = 0 → (((lg_cmp ((o3 0)) ((r5).toInt64)) = 0 → J V8) ∧ (¬ (lg_cmp ((o3 0)) ((r5).toInt64)) = 0 → False))) ∧ (¬ k1 = 0 → J V8))) ∧ (¬ r7 = k1 → False))))))))
set_option maxHeartbeats 4000000 in
theorem cc_5 {X : ab_M} {g : ab_G} {cells slots b N : Nat} {xs9 : Nat → Int32} {Q : State → Prop} (O : ab_Ok X g cL_law RL) (hI : tk_S tk_strs (xs X)) (hR : xR X = room_1) (hX : va_X b N xs9 (xs X) (xs X).heap) (hbl : b < (xs X).heap.size) (hbA : ¬ g.1 ≤ b) (hc : cells + 6 ≤ 601024) (hs : slots + 36 ≤ 7293034) {x a1 a2 a3 : Int32} (hin1 : vp_in (x + 1) N) (hin2 : vp_in (x + 2) N) (hin3 : vp_in (x + 3) N) (e1 : xs9 (Int32.toNatClampNeg (x + 1)) = a1) (e2 : xs9 (Int32.toNatClampNeg (x + 2)) = a2) (e3 : xs9 (Int32.toNatClampNeg (x + 3)) = a3) {J : Mm → Prop} {V : Mm} {o : Nat → Int64} {D : Nat → UInt64} (h : wpc_5 V o D a1 a2 a3 J) (hk : ∀ (V : Mm) (o : Nat → Int64) (D : Nat → UInt64), J V → Ab X g (cells + 6) (slots + 36) Q 3013 [some (.retAddr b), some (.ref 0), some (.ref 57), some (.ref 72), some (.ref 73), some (.int x), none, none] [] (SW V o D)) : Ab X g cells slots Q 568 [some (.retAddr b), some (.ref 0), some (.ref 57), some (.ref 72), some (.ref 73), some (.int x), none, none] [] (SW V o D) := by
  refine ab_aload_n O 1 dL_law_568 rfl rfl ?_
  refine ab_aload_nR O 0 dL_law_569 rfl rfl ?_
  refine ab_iload O dL_law_570 rfl ?_
  refine ab_iconst O 1 dL_law_572 rfl ?_
  refine ab_iadd O dL_law_573 ?_
  refine ab_sld O hX hbl hbA dL_law_574 hin1 ?_
  refine ab_eq (st2 := [.int a1, .ref 0]) ?_ rfl rfl (by rw [e1]) rfl
  refine ab_aload_nR O 0 dL_law_575 rfl rfl ?_
  refine ab_iload O dL_law_576 rfl ?_
  refine ab_iconst O 2 dL_law_578 rfl ?_
  refine ab_iadd O dL_law_579 ?_
  refine ab_sld O hX hbl hbA dL_law_580 hin2 ?_
  refine ab_eq (st2 := [.int a2, .int a1, .ref 0]) ?_ rfl rfl (by rw [e2]) rfl
  refine ab_aload_nR O 0 dL_law_581 rfl rfl ?_
  refine ab_iload O dL_law_582 rfl ?_
  refine ab_iconst O 3 dL_law_584 rfl ?_
  refine ab_iadd O dL_law_585 ?_
  refine ab_sld O hX hbl hbA dL_law_586 hin3 ?_
  refine ab_eq (st2 := [.int a3, .int a2, .int a1, .ref 0]) ?_ rfl rfl (by rw [e3]) rfl
  refine ab_aload_n O 3 dL_law_587 rfl rfl ?_
  refine ab_callh O hI (st := []) ch_L_173 dL_law_588 (c_L_addOnPath 11 (by decide) _ O.2.2.2.2.2.2.1 _ _ _ a1 a2 a3 h) rfl rfl (by rw [hR]; exact ⟨by decide, by decide⟩) (show 0 ≤ 8 by decide) (by rw [hR]; exact ⟨show cells + 3 ≤ 601024 by omega, show slots + 18 ≤ 7293034 by omega⟩) (fun k1 u hu => ?_)
  obtain ⟨V2, o3, D4, rfl, h⟩ := hu
  refine ab_istore O dL_law_591 (show 6 < 8 by decide) ?_
  refine ab_aload_n O 2 dL_law_593 rfl rfl ?_
  refine ab_aload_nR O 0 dL_law_594 rfl rfl ?_
  refine ab_iload O dL_law_595 rfl ?_
  refine ab_iconst O 1 dL_law_597 rfl ?_
  refine ab_iadd O dL_law_598 ?_
  refine ab_sld O hX hbl hbA dL_law_599 hin1 ?_
  refine ab_eq (st2 := [.int a1, .ref 57]) ?_ rfl rfl (by rw [e1]) rfl
  refine ab_aload_nR O 0 dL_law_600 rfl rfl ?_
  refine ab_iload O dL_law_601 rfl ?_
  refine ab_iconst O 2 dL_law_603 rfl ?_
  refine ab_iadd O dL_law_604 ?_
  refine ab_sld O hX hbl hbA dL_law_605 hin2 ?_
  refine ab_eq (st2 := [.int a2, .int a1, .ref 57]) ?_ rfl rfl (by rw [e2]) rfl
  refine ab_aload_nR O 0 dL_law_606 rfl rfl ?_
  refine ab_iload O dL_law_607 rfl ?_
  refine ab_iconst O 3 dL_law_609 rfl ?_
  refine ab_iadd O dL_law_610 ?_
  refine ab_sld O hX hbl hbA dL_law_611 hin3 ?_
  refine ab_eq (st2 := [.int a3, .int a2, .int a1, .ref 57]) ?_ rfl rfl (by rw [e3]) rfl
  refine ab_callvI O hI (fr := False) (st := []) lk_L_175 rfl (at_57 _ _ _) dL_law_612 (c_X9_addOnPath 11 (by decide) _ O.2.2.2.2.2.2.1 _ _ _ a1 a2 a3 h) rfl rfl (by rw [hR]; exact ⟨by decide, by decide⟩) (show 0 ≤ 8 by decide) (by rw [hR]; exact ⟨show cells + 3 ≤ 601024 by omega, show slots + 18 ≤ 7293034 by omega⟩) (fun q => q.elim) (fun E u q => q.elim) (fun r5 u hu => ?_)
  obtain ⟨V6, rfl, h⟩ := hu
  refine ab_istore O dL_law_615 (show 7 < 8 by decide) ?_
  refine ab_aload_n O 2 dL_law_617 rfl rfl ?_
  refine ab_callvI O hI (fr := False) (st := []) lk_L_155 rfl (at_57 _ _ _) dL_law_618 (c_X9_thrown 11 (by decide) _ O.2.2.2.2.2.2.1 _ _ _ h) rfl rfl (by rw [hR]; exact ⟨by decide, by decide⟩) (show 0 ≤ 8 by decide) (by rw [hR]; exact ⟨show cells + 3 ≤ 601024 by omega, show slots + 18 ≤ 7293034 by omega⟩) (fun q => q.elim) (fun E u q => q.elim) (fun r7 u hu => ?_)
  obtain ⟨V8, rfl, h⟩ := hu
  refine ab_iload O dL_law_621 rfl ?_
  refine ab_icmp_eq O 628 dL_law_623 rfl (fun q9 => ?_) (fun q9 => ?_)
  · have h := h.1 q9
    refine ab_iload O dL_law_628 rfl ?_
    refine ab_if_ne O 645 dL_law_630 rfl (fun q10 => ?_) (fun q10 => ?_)
    · have h := h.2 q10
      refine ab_goto O 3013 dL_law_645 rfl ?_
      exact ab_widen (by omega) (by omega) (ab_less (hk V8 o3 D4 h) (ab_le_s (ab_le_s (ab_le_s (ab_le_s (ab_le_s (ab_le_s (ab_le_n (ab_le_n ab_le_0)))))))))
    · have h := h.1 q10
      refine ab_aload_n O 3 dL_law_633 rfl rfl ?_
      refine ab_iconst O 0 dL_law_634 rfl ?_
      refine ab_lald O dL_law_635 (at_72 _ _ _) (by unfold vp_in; decide) ?_
      refine ab_eq (st2 := [.long (o3 0)]) ?_ rfl rfl rfl rfl
      refine ab_iload O dL_law_636 rfl ?_
      refine ab_i2l O dL_law_638 ?_
      refine ab_lcmp O dL_law_639 ?_
      refine ab_if_eq O 645 dL_law_640 rfl (fun q11 => ?_) (fun q11 => ?_)
      · have h := h.1 q11
        refine ab_goto O 3013 dL_law_645 rfl ?_
        exact ab_widen (by omega) (by omega) (ab_less (hk V8 o3 D4 h) (ab_le_s (ab_le_s (ab_le_s (ab_le_s (ab_le_s (ab_le_s (ab_le_n (ab_le_n ab_le_0)))))))))
      · have h := h.2 q11
        exact h.elim
  · have h := h.2 q9
    exact h.elim

def wpc_6 (V : Mm) (o : Nat → Int64) (D : Nat → UInt64) (a1 a2 a3 : Int32) (J : Mm → Prop) : Prop := (wp_X8_vertices V (fun (r1 : Int32) (V2 : Mm) => (wp_X9_vertices V2 (fun (r3 : Int32) (V4 : Mm) => ((r1 = r3 → J V4) ∧ (¬ r1 = r3 → False))))))
set_option maxHeartbeats 4000000 in
theorem cc_6 {X : ab_M} {g : ab_G} {cells slots b N : Nat} {xs9 : Nat → Int32} {Q : State → Prop} (O : ab_Ok X g cL_law RL) (hI : tk_S tk_strs (xs X)) (hR : xR X = room_1) (hX : va_X b N xs9 (xs X) (xs X).heap) (hbl : b < (xs X).heap.size) (hbA : ¬ g.1 ≤ b) (hc : cells + 6 ≤ 601024) (hs : slots + 36 ≤ 7293034) {x a1 a2 a3 : Int32} (hin1 : vp_in (x + 1) N) (hin2 : vp_in (x + 2) N) (hin3 : vp_in (x + 3) N) (e1 : xs9 (Int32.toNatClampNeg (x + 1)) = a1) (e2 : xs9 (Int32.toNatClampNeg (x + 2)) = a2) (e3 : xs9 (Int32.toNatClampNeg (x + 3)) = a3) {J : Mm → Prop} {V : Mm} {o : Nat → Int64} {D : Nat → UInt64} (h : wpc_6 V o D a1 a2 a3 J) (hk : ∀ (V : Mm) (o : Nat → Int64) (D : Nat → UInt64), J V → Ab X g (cells + 6) (slots + 36) Q 3013 [some (.retAddr b), some (.ref 0), some (.ref 57), some (.ref 72), some (.ref 73), some (.int x), none, none] [] (SW V o D)) : Ab X g cells slots Q 648 [some (.retAddr b), some (.ref 0), some (.ref 57), some (.ref 72), some (.ref 73), some (.int x), none, none] [] (SW V o D) := by
  refine ab_aload_n O 1 dL_law_648 rfl rfl ?_
  refine ab_callvI O hI (fr := False) (st := []) lk_L_176 rfl (at_0 _ _ _) dL_law_649 (c_X8_vertices 11 (by decide) _ O.2.2.2.2.2.2.1 _ _ _ h) rfl rfl (by rw [hR]; exact ⟨by decide, by decide⟩) (show 0 ≤ 8 by decide) (by rw [hR]; exact ⟨show cells + 0 ≤ 601024 by omega, show slots + 0 ≤ 7293034 by omega⟩) (fun q => q.elim) (fun E u q => q.elim) (fun r1 u hu => ?_)
  obtain ⟨V2, rfl, h⟩ := hu
  refine ab_aload_n O 2 dL_law_652 rfl rfl ?_
  refine ab_callvI O hI (fr := False) (st := [.int r1]) lk_L_179 rfl (at_57 _ _ _) dL_law_653 (c_X9_vertices 11 (by decide) _ O.2.2.2.2.2.2.1 _ _ _ h) rfl rfl (by rw [hR]; exact ⟨by decide, by decide⟩) (show 1 ≤ 8 by decide) (by rw [hR]; exact ⟨show cells + 0 ≤ 601024 by omega, show slots + 0 ≤ 7293034 by omega⟩) (fun q => q.elim) (fun E u q => q.elim) (fun r3 u hu => ?_)
  obtain ⟨V4, rfl, h⟩ := hu
  refine ab_icmp_eq O 3013 dL_law_656 rfl (fun q5 => ?_) (fun q5 => ?_)
  · have h := h.1 q5
    exact ab_widen (by omega) (by omega) (ab_less (hk V4 o D h) (ab_le_s (ab_le_s (ab_le_s (ab_le_s (ab_le_s (ab_le_s (ab_le_n (ab_le_n ab_le_0)))))))))
  · have h := h.2 q5
    exact h.elim

def wpc_7 (V : Mm) (o : Nat → Int64) (D : Nat → UInt64) (a1 a2 a3 : Int32) (J : Mm → Prop) : Prop := (wp_X8_edges V (fun (r1 : Int32) (V2 : Mm) => (wp_X9_edges V2 (fun (r3 : Int32) (V4 : Mm) => ((r1 = r3 → J V4) ∧ (¬ r1 = r3 → False))))))
set_option maxHeartbeats 4000000 in
theorem cc_7 {X : ab_M} {g : ab_G} {cells slots b N : Nat} {xs9 : Nat → Int32} {Q : State → Prop} (O : ab_Ok X g cL_law RL) (hI : tk_S tk_strs (xs X)) (hR : xR X = room_1) (hX : va_X b N xs9 (xs X) (xs X).heap) (hbl : b < (xs X).heap.size) (hbA : ¬ g.1 ≤ b) (hc : cells + 6 ≤ 601024) (hs : slots + 36 ≤ 7293034) {x a1 a2 a3 : Int32} (hin1 : vp_in (x + 1) N) (hin2 : vp_in (x + 2) N) (hin3 : vp_in (x + 3) N) (e1 : xs9 (Int32.toNatClampNeg (x + 1)) = a1) (e2 : xs9 (Int32.toNatClampNeg (x + 2)) = a2) (e3 : xs9 (Int32.toNatClampNeg (x + 3)) = a3) {J : Mm → Prop} {V : Mm} {o : Nat → Int64} {D : Nat → UInt64} (h : wpc_7 V o D a1 a2 a3 J) (hk : ∀ (V : Mm) (o : Nat → Int64) (D : Nat → UInt64), J V → Ab X g (cells + 6) (slots + 36) Q 3013 [some (.retAddr b), some (.ref 0), some (.ref 57), some (.ref 72), some (.ref 73), some (.int x), none, none] [] (SW V o D)) : Ab X g cells slots Q 661 [some (.retAddr b), some (.ref 0), some (.ref 57), some (.ref 72), some (.ref 73), some (.int x), none, none] [] (SW V o D) := by
  refine ab_aload_n O 1 dL_law_661 rfl rfl ?_
  refine ab_callvI O hI (fr := False) (st := []) lk_L_180 rfl (at_0 _ _ _) dL_law_662 (c_X8_edges 11 (by decide) _ O.2.2.2.2.2.2.1 _ _ _ h) rfl rfl (by rw [hR]; exact ⟨by decide, by decide⟩) (show 0 ≤ 8 by decide) (by rw [hR]; exact ⟨show cells + 0 ≤ 601024 by omega, show slots + 0 ≤ 7293034 by omega⟩) (fun q => q.elim) (fun E u q => q.elim) (fun r1 u hu => ?_)
  obtain ⟨V2, rfl, h⟩ := hu
  refine ab_aload_n O 2 dL_law_665 rfl rfl ?_
  refine ab_callvI O hI (fr := False) (st := [.int r1]) lk_L_183 rfl (at_57 _ _ _) dL_law_666 (c_X9_edges 11 (by decide) _ O.2.2.2.2.2.2.1 _ _ _ h) rfl rfl (by rw [hR]; exact ⟨by decide, by decide⟩) (show 1 ≤ 8 by decide) (by rw [hR]; exact ⟨show cells + 0 ≤ 601024 by omega, show slots + 0 ≤ 7293034 by omega⟩) (fun q => q.elim) (fun E u q => q.elim) (fun r3 u hu => ?_)
  obtain ⟨V4, rfl, h⟩ := hu
  refine ab_icmp_eq O 3013 dL_law_669 rfl (fun q5 => ?_) (fun q5 => ?_)
  · have h := h.1 q5
    exact ab_widen (by omega) (by omega) (ab_less (hk V4 o D h) (ab_le_s (ab_le_s (ab_le_s (ab_le_s (ab_le_s (ab_le_s (ab_le_n (ab_le_n ab_le_0)))))))))
  · have h := h.2 q5
    exact h.elim

def wpc_8 (V : Mm) (o : Nat → Int64) (D : Nat → UInt64) (a1 a2 a3 : Int32) (J : Mm → Prop) : Prop := (wp_L_value V a1 o D (fun (k1 : Int32) (V2 : Mm) (o3 : Nat → Int64) (D4 : Nat → UInt64) => (wp_X9_value V2 a1 (fun (r5 : Int32) (V6 : Mm) => (wp_X9_thrown V6 (fun (r7 : Int32) (V8 : Mm) => ((r7 = k1 → ((k1 = 0 → (((lg_cmp ((o3 0)) ((r5).toInt64)) = 0 → J V8) ∧ (¬ (lg_cmp ((o3 0)) ((r5).toInt64)) = 0 → False))) ∧ (¬ k1 = 0 → J V8))) ∧ (¬ r7 = k1 → False))))))))
set_option maxHeartbeats 4000000 in
theorem cc_8 {X : ab_M} {g : ab_G} {cells slots b N : Nat} {xs9 : Nat → Int32} {Q : State → Prop} (O : ab_Ok X g cL_law RL) (hI : tk_S tk_strs (xs X)) (hR : xR X = room_1) (hX : va_X b N xs9 (xs X) (xs X).heap) (hbl : b < (xs X).heap.size) (hbA : ¬ g.1 ≤ b) (hc : cells + 6 ≤ 601024) (hs : slots + 36 ≤ 7293034) {x a1 a2 a3 : Int32} (hin1 : vp_in (x + 1) N) (hin2 : vp_in (x + 2) N) (hin3 : vp_in (x + 3) N) (e1 : xs9 (Int32.toNatClampNeg (x + 1)) = a1) (e2 : xs9 (Int32.toNatClampNeg (x + 2)) = a2) (e3 : xs9 (Int32.toNatClampNeg (x + 3)) = a3) {J : Mm → Prop} {V : Mm} {o : Nat → Int64} {D : Nat → UInt64} (h : wpc_8 V o D a1 a2 a3 J) (hk : ∀ (V : Mm) (o : Nat → Int64) (D : Nat → UInt64), J V → Ab X g (cells + 6) (slots + 36) Q 3013 [some (.retAddr b), some (.ref 0), some (.ref 57), some (.ref 72), some (.ref 73), some (.int x), none, none] [] (SW V o D)) : Ab X g cells slots Q 674 [some (.retAddr b), some (.ref 0), some (.ref 57), some (.ref 72), some (.ref 73), some (.int x), none, none] [] (SW V o D) := by
  refine ab_aload_n O 1 dL_law_674 rfl rfl ?_
  refine ab_aload_nR O 0 dL_law_675 rfl rfl ?_
  refine ab_iload O dL_law_676 rfl ?_
  refine ab_iconst O 1 dL_law_678 rfl ?_
  refine ab_iadd O dL_law_679 ?_
  refine ab_sld O hX hbl hbA dL_law_680 hin1 ?_
  refine ab_eq (st2 := [.int a1, .ref 0]) ?_ rfl rfl (by rw [e1]) rfl
  refine ab_aload_n O 3 dL_law_681 rfl rfl ?_
  refine ab_callh O hI (st := []) ch_L_184 dL_law_682 (c_L_value 11 (by decide) _ O.2.2.2.2.2.2.1 _ _ _ a1 h) rfl rfl (by rw [hR]; exact ⟨by decide, by decide⟩) (show 0 ≤ 8 by decide) (by rw [hR]; exact ⟨show cells + 1 ≤ 601024 by omega, show slots + 6 ≤ 7293034 by omega⟩) (fun k1 u hu => ?_)
  obtain ⟨V2, o3, D4, rfl, h⟩ := hu
  refine ab_istore O dL_law_685 (show 6 < 8 by decide) ?_
  refine ab_aload_n O 2 dL_law_687 rfl rfl ?_
  refine ab_aload_nR O 0 dL_law_688 rfl rfl ?_
  refine ab_iload O dL_law_689 rfl ?_
  refine ab_iconst O 1 dL_law_691 rfl ?_
  refine ab_iadd O dL_law_692 ?_
  refine ab_sld O hX hbl hbA dL_law_693 hin1 ?_
  refine ab_eq (st2 := [.int a1, .ref 57]) ?_ rfl rfl (by rw [e1]) rfl
  refine ab_callvI O hI (fr := False) (st := []) lk_L_186 rfl (at_57 _ _ _) dL_law_694 (c_X9_value 11 (by decide) _ O.2.2.2.2.2.2.1 _ _ _ a1 h) rfl rfl (by rw [hR]; exact ⟨by decide, by decide⟩) (show 0 ≤ 8 by decide) (by rw [hR]; exact ⟨show cells + 1 ≤ 601024 by omega, show slots + 6 ≤ 7293034 by omega⟩) (fun q => q.elim) (fun E u q => q.elim) (fun r5 u hu => ?_)
  obtain ⟨V6, rfl, h⟩ := hu
  refine ab_istore O dL_law_697 (show 7 < 8 by decide) ?_
  refine ab_aload_n O 2 dL_law_699 rfl rfl ?_
  refine ab_callvI O hI (fr := False) (st := []) lk_L_155 rfl (at_57 _ _ _) dL_law_700 (c_X9_thrown 11 (by decide) _ O.2.2.2.2.2.2.1 _ _ _ h) rfl rfl (by rw [hR]; exact ⟨by decide, by decide⟩) (show 0 ≤ 8 by decide) (by rw [hR]; exact ⟨show cells + 1 ≤ 601024 by omega, show slots + 6 ≤ 7293034 by omega⟩) (fun q => q.elim) (fun E u q => q.elim) (fun r7 u hu => ?_)
  obtain ⟨V8, rfl, h⟩ := hu
  refine ab_iload O dL_law_703 rfl ?_
  refine ab_icmp_eq O 710 dL_law_705 rfl (fun q9 => ?_) (fun q9 => ?_)
  · have h := h.1 q9
    refine ab_iload O dL_law_710 rfl ?_
    refine ab_if_ne O 727 dL_law_712 rfl (fun q10 => ?_) (fun q10 => ?_)
    · have h := h.2 q10
      refine ab_goto O 3013 dL_law_727 rfl ?_
      exact ab_widen (by omega) (by omega) (ab_less (hk V8 o3 D4 h) (ab_le_s (ab_le_s (ab_le_s (ab_le_s (ab_le_s (ab_le_s (ab_le_n (ab_le_n ab_le_0)))))))))
    · have h := h.1 q10
      refine ab_aload_n O 3 dL_law_715 rfl rfl ?_
      refine ab_iconst O 0 dL_law_716 rfl ?_
      refine ab_lald O dL_law_717 (at_72 _ _ _) (by unfold vp_in; decide) ?_
      refine ab_eq (st2 := [.long (o3 0)]) ?_ rfl rfl rfl rfl
      refine ab_iload O dL_law_718 rfl ?_
      refine ab_i2l O dL_law_720 ?_
      refine ab_lcmp O dL_law_721 ?_
      refine ab_if_eq O 727 dL_law_722 rfl (fun q11 => ?_) (fun q11 => ?_)
      · have h := h.1 q11
        refine ab_goto O 3013 dL_law_727 rfl ?_
        exact ab_widen (by omega) (by omega) (ab_less (hk V8 o3 D4 h) (ab_le_s (ab_le_s (ab_le_s (ab_le_s (ab_le_s (ab_le_s (ab_le_n (ab_le_n ab_le_0)))))))))
      · have h := h.2 q11
        exact h.elim
  · have h := h.2 q9
    exact h.elim

def wpc_9 (V : Mm) (o : Nat → Int64) (D : Nat → UInt64) (a1 a2 a3 : Int32) (J : Mm → Prop) : Prop := (wp_L_weight V a1 o D (fun (k1 : Int32) (V2 : Mm) (o3 : Nat → Int64) (D4 : Nat → UInt64) => (wp_X9_weight V2 a1 (fun (r5 : Int32) (V6 : Mm) => (wp_X9_thrown V6 (fun (r7 : Int32) (V8 : Mm) => ((r7 = k1 → ((k1 = 0 → (((lg_cmp ((o3 0)) ((r5).toInt64)) = 0 → J V8) ∧ (¬ (lg_cmp ((o3 0)) ((r5).toInt64)) = 0 → False))) ∧ (¬ k1 = 0 → J V8))) ∧ (¬ r7 = k1 → False))))))))
set_option maxHeartbeats 4000000 in
theorem cc_9 {X : ab_M} {g : ab_G} {cells slots b N : Nat} {xs9 : Nat → Int32} {Q : State → Prop} (O : ab_Ok X g cL_law RL) (hI : tk_S tk_strs (xs X)) (hR : xR X = room_1) (hX : va_X b N xs9 (xs X) (xs X).heap) (hbl : b < (xs X).heap.size) (hbA : ¬ g.1 ≤ b) (hc : cells + 6 ≤ 601024) (hs : slots + 36 ≤ 7293034) {x a1 a2 a3 : Int32} (hin1 : vp_in (x + 1) N) (hin2 : vp_in (x + 2) N) (hin3 : vp_in (x + 3) N) (e1 : xs9 (Int32.toNatClampNeg (x + 1)) = a1) (e2 : xs9 (Int32.toNatClampNeg (x + 2)) = a2) (e3 : xs9 (Int32.toNatClampNeg (x + 3)) = a3) {J : Mm → Prop} {V : Mm} {o : Nat → Int64} {D : Nat → UInt64} (h : wpc_9 V o D a1 a2 a3 J) (hk : ∀ (V : Mm) (o : Nat → Int64) (D : Nat → UInt64), J V → Ab X g (cells + 6) (slots + 36) Q 3013 [some (.retAddr b), some (.ref 0), some (.ref 57), some (.ref 72), some (.ref 73), some (.int x), none, none] [] (SW V o D)) : Ab X g cells slots Q 730 [some (.retAddr b), some (.ref 0), some (.ref 57), some (.ref 72), some (.ref 73), some (.int x), none, none] [] (SW V o D) := by
  refine ab_aload_n O 1 dL_law_730 rfl rfl ?_
  refine ab_aload_nR O 0 dL_law_731 rfl rfl ?_
  refine ab_iload O dL_law_732 rfl ?_
  refine ab_iconst O 1 dL_law_734 rfl ?_
  refine ab_iadd O dL_law_735 ?_
  refine ab_sld O hX hbl hbA dL_law_736 hin1 ?_
  refine ab_eq (st2 := [.int a1, .ref 0]) ?_ rfl rfl (by rw [e1]) rfl
  refine ab_aload_n O 3 dL_law_737 rfl rfl ?_
  refine ab_callh O hI (st := []) ch_L_187 dL_law_738 (c_L_weight 11 (by decide) _ O.2.2.2.2.2.2.1 _ _ _ a1 h) rfl rfl (by rw [hR]; exact ⟨by decide, by decide⟩) (show 0 ≤ 8 by decide) (by rw [hR]; exact ⟨show cells + 1 ≤ 601024 by omega, show slots + 6 ≤ 7293034 by omega⟩) (fun k1 u hu => ?_)
  obtain ⟨V2, o3, D4, rfl, h⟩ := hu
  refine ab_istore O dL_law_741 (show 6 < 8 by decide) ?_
  refine ab_aload_n O 2 dL_law_743 rfl rfl ?_
  refine ab_aload_nR O 0 dL_law_744 rfl rfl ?_
  refine ab_iload O dL_law_745 rfl ?_
  refine ab_iconst O 1 dL_law_747 rfl ?_
  refine ab_iadd O dL_law_748 ?_
  refine ab_sld O hX hbl hbA dL_law_749 hin1 ?_
  refine ab_eq (st2 := [.int a1, .ref 57]) ?_ rfl rfl (by rw [e1]) rfl
  refine ab_callvI O hI (fr := False) (st := []) lk_L_189 rfl (at_57 _ _ _) dL_law_750 (c_X9_weight 11 (by decide) _ O.2.2.2.2.2.2.1 _ _ _ a1 h) rfl rfl (by rw [hR]; exact ⟨by decide, by decide⟩) (show 0 ≤ 8 by decide) (by rw [hR]; exact ⟨show cells + 1 ≤ 601024 by omega, show slots + 6 ≤ 7293034 by omega⟩) (fun q => q.elim) (fun E u q => q.elim) (fun r5 u hu => ?_)
  obtain ⟨V6, rfl, h⟩ := hu
  refine ab_istore O dL_law_753 (show 7 < 8 by decide) ?_
  refine ab_aload_n O 2 dL_law_755 rfl rfl ?_
  refine ab_callvI O hI (fr := False) (st := []) lk_L_155 rfl (at_57 _ _ _) dL_law_756 (c_X9_thrown 11 (by decide) _ O.2.2.2.2.2.2.1 _ _ _ h) rfl rfl (by rw [hR]; exact ⟨by decide, by decide⟩) (show 0 ≤ 8 by decide) (by rw [hR]; exact ⟨show cells + 1 ≤ 601024 by omega, show slots + 6 ≤ 7293034 by omega⟩) (fun q => q.elim) (fun E u q => q.elim) (fun r7 u hu => ?_)
  obtain ⟨V8, rfl, h⟩ := hu
  refine ab_iload O dL_law_759 rfl ?_
  refine ab_icmp_eq O 766 dL_law_761 rfl (fun q9 => ?_) (fun q9 => ?_)
  · have h := h.1 q9
    refine ab_iload O dL_law_766 rfl ?_
    refine ab_if_ne O 783 dL_law_768 rfl (fun q10 => ?_) (fun q10 => ?_)
    · have h := h.2 q10
      refine ab_goto O 3013 dL_law_783 rfl ?_
      exact ab_widen (by omega) (by omega) (ab_less (hk V8 o3 D4 h) (ab_le_s (ab_le_s (ab_le_s (ab_le_s (ab_le_s (ab_le_s (ab_le_n (ab_le_n ab_le_0)))))))))
    · have h := h.1 q10
      refine ab_aload_n O 3 dL_law_771 rfl rfl ?_
      refine ab_iconst O 0 dL_law_772 rfl ?_
      refine ab_lald O dL_law_773 (at_72 _ _ _) (by unfold vp_in; decide) ?_
      refine ab_eq (st2 := [.long (o3 0)]) ?_ rfl rfl rfl rfl
      refine ab_iload O dL_law_774 rfl ?_
      refine ab_i2l O dL_law_776 ?_
      refine ab_lcmp O dL_law_777 ?_
      refine ab_if_eq O 783 dL_law_778 rfl (fun q11 => ?_) (fun q11 => ?_)
      · have h := h.1 q11
        refine ab_goto O 3013 dL_law_783 rfl ?_
        exact ab_widen (by omega) (by omega) (ab_less (hk V8 o3 D4 h) (ab_le_s (ab_le_s (ab_le_s (ab_le_s (ab_le_s (ab_le_s (ab_le_n (ab_le_n ab_le_0)))))))))
      · have h := h.2 q11
        exact h.elim
  · have h := h.2 q9
    exact h.elim

def wpc_10 (V : Mm) (o : Nat → Int64) (D : Nat → UInt64) (a1 a2 a3 : Int32) (J : Mm → Prop) : Prop := (wp_L_state V a1 o D (fun (k1 : Int32) (V2 : Mm) (o3 : Nat → Int64) (D4 : Nat → UInt64) => (wp_X9_state V2 a1 (fun (r5 : Int32) (V6 : Mm) => (wp_X9_thrown V6 (fun (r7 : Int32) (V8 : Mm) => ((r7 = k1 → ((k1 = 0 → (((lg_cmp ((o3 0)) ((r5).toInt64)) = 0 → J V8) ∧ (¬ (lg_cmp ((o3 0)) ((r5).toInt64)) = 0 → False))) ∧ (¬ k1 = 0 → J V8))) ∧ (¬ r7 = k1 → False))))))))
set_option maxHeartbeats 4000000 in
theorem cc_10 {X : ab_M} {g : ab_G} {cells slots b N : Nat} {xs9 : Nat → Int32} {Q : State → Prop} (O : ab_Ok X g cL_law RL) (hI : tk_S tk_strs (xs X)) (hR : xR X = room_1) (hX : va_X b N xs9 (xs X) (xs X).heap) (hbl : b < (xs X).heap.size) (hbA : ¬ g.1 ≤ b) (hc : cells + 6 ≤ 601024) (hs : slots + 36 ≤ 7293034) {x a1 a2 a3 : Int32} (hin1 : vp_in (x + 1) N) (hin2 : vp_in (x + 2) N) (hin3 : vp_in (x + 3) N) (e1 : xs9 (Int32.toNatClampNeg (x + 1)) = a1) (e2 : xs9 (Int32.toNatClampNeg (x + 2)) = a2) (e3 : xs9 (Int32.toNatClampNeg (x + 3)) = a3) {J : Mm → Prop} {V : Mm} {o : Nat → Int64} {D : Nat → UInt64} (h : wpc_10 V o D a1 a2 a3 J) (hk : ∀ (V : Mm) (o : Nat → Int64) (D : Nat → UInt64), J V → Ab X g (cells + 6) (slots + 36) Q 3013 [some (.retAddr b), some (.ref 0), some (.ref 57), some (.ref 72), some (.ref 73), some (.int x), none, none] [] (SW V o D)) : Ab X g cells slots Q 786 [some (.retAddr b), some (.ref 0), some (.ref 57), some (.ref 72), some (.ref 73), some (.int x), none, none] [] (SW V o D) := by
  refine ab_aload_n O 1 dL_law_786 rfl rfl ?_
  refine ab_aload_nR O 0 dL_law_787 rfl rfl ?_
  refine ab_iload O dL_law_788 rfl ?_
  refine ab_iconst O 1 dL_law_790 rfl ?_
  refine ab_iadd O dL_law_791 ?_
  refine ab_sld O hX hbl hbA dL_law_792 hin1 ?_
  refine ab_eq (st2 := [.int a1, .ref 0]) ?_ rfl rfl (by rw [e1]) rfl
  refine ab_aload_n O 3 dL_law_793 rfl rfl ?_
  refine ab_callh O hI (st := []) ch_L_190 dL_law_794 (c_L_state 11 (by decide) _ O.2.2.2.2.2.2.1 _ _ _ a1 h) rfl rfl (by rw [hR]; exact ⟨by decide, by decide⟩) (show 0 ≤ 8 by decide) (by rw [hR]; exact ⟨show cells + 1 ≤ 601024 by omega, show slots + 6 ≤ 7293034 by omega⟩) (fun k1 u hu => ?_)
  obtain ⟨V2, o3, D4, rfl, h⟩ := hu
  refine ab_istore O dL_law_797 (show 6 < 8 by decide) ?_
  refine ab_aload_n O 2 dL_law_799 rfl rfl ?_
  refine ab_aload_nR O 0 dL_law_800 rfl rfl ?_
  refine ab_iload O dL_law_801 rfl ?_
  refine ab_iconst O 1 dL_law_803 rfl ?_
  refine ab_iadd O dL_law_804 ?_
  refine ab_sld O hX hbl hbA dL_law_805 hin1 ?_
  refine ab_eq (st2 := [.int a1, .ref 57]) ?_ rfl rfl (by rw [e1]) rfl
  refine ab_callvI O hI (fr := False) (st := []) lk_L_192 rfl (at_57 _ _ _) dL_law_806 (c_X9_state 11 (by decide) _ O.2.2.2.2.2.2.1 _ _ _ a1 h) rfl rfl (by rw [hR]; exact ⟨by decide, by decide⟩) (show 0 ≤ 8 by decide) (by rw [hR]; exact ⟨show cells + 1 ≤ 601024 by omega, show slots + 6 ≤ 7293034 by omega⟩) (fun q => q.elim) (fun E u q => q.elim) (fun r5 u hu => ?_)
  obtain ⟨V6, rfl, h⟩ := hu
  refine ab_istore O dL_law_809 (show 7 < 8 by decide) ?_
  refine ab_aload_n O 2 dL_law_811 rfl rfl ?_
  refine ab_callvI O hI (fr := False) (st := []) lk_L_155 rfl (at_57 _ _ _) dL_law_812 (c_X9_thrown 11 (by decide) _ O.2.2.2.2.2.2.1 _ _ _ h) rfl rfl (by rw [hR]; exact ⟨by decide, by decide⟩) (show 0 ≤ 8 by decide) (by rw [hR]; exact ⟨show cells + 1 ≤ 601024 by omega, show slots + 6 ≤ 7293034 by omega⟩) (fun q => q.elim) (fun E u q => q.elim) (fun r7 u hu => ?_)
  obtain ⟨V8, rfl, h⟩ := hu
  refine ab_iload O dL_law_815 rfl ?_
  refine ab_icmp_eq O 822 dL_law_817 rfl (fun q9 => ?_) (fun q9 => ?_)
  · have h := h.1 q9
    refine ab_iload O dL_law_822 rfl ?_
    refine ab_if_ne O 839 dL_law_824 rfl (fun q10 => ?_) (fun q10 => ?_)
    · have h := h.2 q10
      refine ab_goto O 3013 dL_law_839 rfl ?_
      exact ab_widen (by omega) (by omega) (ab_less (hk V8 o3 D4 h) (ab_le_s (ab_le_s (ab_le_s (ab_le_s (ab_le_s (ab_le_s (ab_le_n (ab_le_n ab_le_0)))))))))
    · have h := h.1 q10
      refine ab_aload_n O 3 dL_law_827 rfl rfl ?_
      refine ab_iconst O 0 dL_law_828 rfl ?_
      refine ab_lald O dL_law_829 (at_72 _ _ _) (by unfold vp_in; decide) ?_
      refine ab_eq (st2 := [.long (o3 0)]) ?_ rfl rfl rfl rfl
      refine ab_iload O dL_law_830 rfl ?_
      refine ab_i2l O dL_law_832 ?_
      refine ab_lcmp O dL_law_833 ?_
      refine ab_if_eq O 839 dL_law_834 rfl (fun q11 => ?_) (fun q11 => ?_)
      · have h := h.1 q11
        refine ab_goto O 3013 dL_law_839 rfl ?_
        exact ab_widen (by omega) (by omega) (ab_less (hk V8 o3 D4 h) (ab_le_s (ab_le_s (ab_le_s (ab_le_s (ab_le_s (ab_le_s (ab_le_n (ab_le_n ab_le_0)))))))))
      · have h := h.2 q11
        exact h.elim
  · have h := h.2 q9
    exact h.elim

def wpc_11 (V : Mm) (o : Nat → Int64) (D : Nat → UInt64) (a1 a2 a3 : Int32) (J : Mm → Prop) : Prop := (wp_L_otherEnd V a1 a2 o D (fun (k1 : Int32) (V2 : Mm) (o3 : Nat → Int64) (D4 : Nat → UInt64) => (wp_X9_otherEnd V2 a1 a2 (fun (r5 : Int32) (V6 : Mm) => (wp_X9_thrown V6 (fun (r7 : Int32) (V8 : Mm) => ((r7 = k1 → ((k1 = 0 → (((lg_cmp ((o3 0)) ((r5).toInt64)) = 0 → J V8) ∧ (¬ (lg_cmp ((o3 0)) ((r5).toInt64)) = 0 → False))) ∧ (¬ k1 = 0 → J V8))) ∧ (¬ r7 = k1 → False))))))))
set_option maxHeartbeats 4000000 in
theorem cc_11 {X : ab_M} {g : ab_G} {cells slots b N : Nat} {xs9 : Nat → Int32} {Q : State → Prop} (O : ab_Ok X g cL_law RL) (hI : tk_S tk_strs (xs X)) (hR : xR X = room_1) (hX : va_X b N xs9 (xs X) (xs X).heap) (hbl : b < (xs X).heap.size) (hbA : ¬ g.1 ≤ b) (hc : cells + 6 ≤ 601024) (hs : slots + 36 ≤ 7293034) {x a1 a2 a3 : Int32} (hin1 : vp_in (x + 1) N) (hin2 : vp_in (x + 2) N) (hin3 : vp_in (x + 3) N) (e1 : xs9 (Int32.toNatClampNeg (x + 1)) = a1) (e2 : xs9 (Int32.toNatClampNeg (x + 2)) = a2) (e3 : xs9 (Int32.toNatClampNeg (x + 3)) = a3) {J : Mm → Prop} {V : Mm} {o : Nat → Int64} {D : Nat → UInt64} (h : wpc_11 V o D a1 a2 a3 J) (hk : ∀ (V : Mm) (o : Nat → Int64) (D : Nat → UInt64), J V → Ab X g (cells + 6) (slots + 36) Q 3013 [some (.retAddr b), some (.ref 0), some (.ref 57), some (.ref 72), some (.ref 73), some (.int x), none, none] [] (SW V o D)) : Ab X g cells slots Q 842 [some (.retAddr b), some (.ref 0), some (.ref 57), some (.ref 72), some (.ref 73), some (.int x), none, none] [] (SW V o D) := by
  refine ab_aload_n O 1 dL_law_842 rfl rfl ?_
  refine ab_aload_nR O 0 dL_law_843 rfl rfl ?_
  refine ab_iload O dL_law_844 rfl ?_
  refine ab_iconst O 1 dL_law_846 rfl ?_
  refine ab_iadd O dL_law_847 ?_
  refine ab_sld O hX hbl hbA dL_law_848 hin1 ?_
  refine ab_eq (st2 := [.int a1, .ref 0]) ?_ rfl rfl (by rw [e1]) rfl
  refine ab_aload_nR O 0 dL_law_849 rfl rfl ?_
  refine ab_iload O dL_law_850 rfl ?_
  refine ab_iconst O 2 dL_law_852 rfl ?_
  refine ab_iadd O dL_law_853 ?_
  refine ab_sld O hX hbl hbA dL_law_854 hin2 ?_
  refine ab_eq (st2 := [.int a2, .int a1, .ref 0]) ?_ rfl rfl (by rw [e2]) rfl
  refine ab_aload_n O 3 dL_law_855 rfl rfl ?_
  refine ab_callh O hI (st := []) ch_L_193 dL_law_856 (c_L_otherEnd 11 (by decide) _ O.2.2.2.2.2.2.1 _ _ _ a1 a2 h) rfl rfl (by rw [hR]; exact ⟨by decide, by decide⟩) (show 0 ≤ 8 by decide) (by rw [hR]; exact ⟨show cells + 3 ≤ 601024 by omega, show slots + 18 ≤ 7293034 by omega⟩) (fun k1 u hu => ?_)
  obtain ⟨V2, o3, D4, rfl, h⟩ := hu
  refine ab_istore O dL_law_859 (show 6 < 8 by decide) ?_
  refine ab_aload_n O 2 dL_law_861 rfl rfl ?_
  refine ab_aload_nR O 0 dL_law_862 rfl rfl ?_
  refine ab_iload O dL_law_863 rfl ?_
  refine ab_iconst O 1 dL_law_865 rfl ?_
  refine ab_iadd O dL_law_866 ?_
  refine ab_sld O hX hbl hbA dL_law_867 hin1 ?_
  refine ab_eq (st2 := [.int a1, .ref 57]) ?_ rfl rfl (by rw [e1]) rfl
  refine ab_aload_nR O 0 dL_law_868 rfl rfl ?_
  refine ab_iload O dL_law_869 rfl ?_
  refine ab_iconst O 2 dL_law_871 rfl ?_
  refine ab_iadd O dL_law_872 ?_
  refine ab_sld O hX hbl hbA dL_law_873 hin2 ?_
  refine ab_eq (st2 := [.int a2, .int a1, .ref 57]) ?_ rfl rfl (by rw [e2]) rfl
  refine ab_callvI O hI (fr := False) (st := []) lk_L_195 rfl (at_57 _ _ _) dL_law_874 (c_X9_otherEnd 11 (by decide) _ O.2.2.2.2.2.2.1 _ _ _ a1 a2 h) rfl rfl (by rw [hR]; exact ⟨by decide, by decide⟩) (show 0 ≤ 8 by decide) (by rw [hR]; exact ⟨show cells + 3 ≤ 601024 by omega, show slots + 18 ≤ 7293034 by omega⟩) (fun q => q.elim) (fun E u q => q.elim) (fun r5 u hu => ?_)
  obtain ⟨V6, rfl, h⟩ := hu
  refine ab_istore O dL_law_877 (show 7 < 8 by decide) ?_
  refine ab_aload_n O 2 dL_law_879 rfl rfl ?_
  refine ab_callvI O hI (fr := False) (st := []) lk_L_155 rfl (at_57 _ _ _) dL_law_880 (c_X9_thrown 11 (by decide) _ O.2.2.2.2.2.2.1 _ _ _ h) rfl rfl (by rw [hR]; exact ⟨by decide, by decide⟩) (show 0 ≤ 8 by decide) (by rw [hR]; exact ⟨show cells + 3 ≤ 601024 by omega, show slots + 18 ≤ 7293034 by omega⟩) (fun q => q.elim) (fun E u q => q.elim) (fun r7 u hu => ?_)
  obtain ⟨V8, rfl, h⟩ := hu
  refine ab_iload O dL_law_883 rfl ?_
  refine ab_icmp_eq O 890 dL_law_885 rfl (fun q9 => ?_) (fun q9 => ?_)
  · have h := h.1 q9
    refine ab_iload O dL_law_890 rfl ?_
    refine ab_if_ne O 907 dL_law_892 rfl (fun q10 => ?_) (fun q10 => ?_)
    · have h := h.2 q10
      refine ab_goto O 3013 dL_law_907 rfl ?_
      exact ab_widen (by omega) (by omega) (ab_less (hk V8 o3 D4 h) (ab_le_s (ab_le_s (ab_le_s (ab_le_s (ab_le_s (ab_le_s (ab_le_n (ab_le_n ab_le_0)))))))))
    · have h := h.1 q10
      refine ab_aload_n O 3 dL_law_895 rfl rfl ?_
      refine ab_iconst O 0 dL_law_896 rfl ?_
      refine ab_lald O dL_law_897 (at_72 _ _ _) (by unfold vp_in; decide) ?_
      refine ab_eq (st2 := [.long (o3 0)]) ?_ rfl rfl rfl rfl
      refine ab_iload O dL_law_898 rfl ?_
      refine ab_i2l O dL_law_900 ?_
      refine ab_lcmp O dL_law_901 ?_
      refine ab_if_eq O 907 dL_law_902 rfl (fun q11 => ?_) (fun q11 => ?_)
      · have h := h.1 q11
        refine ab_goto O 3013 dL_law_907 rfl ?_
        exact ab_widen (by omega) (by omega) (ab_less (hk V8 o3 D4 h) (ab_le_s (ab_le_s (ab_le_s (ab_le_s (ab_le_s (ab_le_s (ab_le_n (ab_le_n ab_le_0)))))))))
      · have h := h.2 q11
        exact h.elim
  · have h := h.2 q9
    exact h.elim

def wpc_12 (V : Mm) (o : Nat → Int64) (D : Nat → UInt64) (a1 a2 a3 : Int32) (J : Mm → Prop) : Prop := (wp_L_parallel V a1 a2 o D (fun (k1 : Int32) (V2 : Mm) (o3 : Nat → Int64) (D4 : Nat → UInt64) => (wp_X9_parallel V2 a1 a2 (fun (r5 : Int32) (V6 : Mm) => (wp_X9_thrown V6 (fun (r7 : Int32) (V8 : Mm) => ((r7 = k1 → ((k1 = 0 → (((lg_cmp ((o3 0)) ((r5).toInt64)) = 0 → J V8) ∧ (¬ (lg_cmp ((o3 0)) ((r5).toInt64)) = 0 → False))) ∧ (¬ k1 = 0 → J V8))) ∧ (¬ r7 = k1 → False))))))))
set_option maxHeartbeats 4000000 in
theorem cc_12 {X : ab_M} {g : ab_G} {cells slots b N : Nat} {xs9 : Nat → Int32} {Q : State → Prop} (O : ab_Ok X g cL_law RL) (hI : tk_S tk_strs (xs X)) (hR : xR X = room_1) (hX : va_X b N xs9 (xs X) (xs X).heap) (hbl : b < (xs X).heap.size) (hbA : ¬ g.1 ≤ b) (hc : cells + 6 ≤ 601024) (hs : slots + 36 ≤ 7293034) {x a1 a2 a3 : Int32} (hin1 : vp_in (x + 1) N) (hin2 : vp_in (x + 2) N) (hin3 : vp_in (x + 3) N) (e1 : xs9 (Int32.toNatClampNeg (x + 1)) = a1) (e2 : xs9 (Int32.toNatClampNeg (x + 2)) = a2) (e3 : xs9 (Int32.toNatClampNeg (x + 3)) = a3) {J : Mm → Prop} {V : Mm} {o : Nat → Int64} {D : Nat → UInt64} (h : wpc_12 V o D a1 a2 a3 J) (hk : ∀ (V : Mm) (o : Nat → Int64) (D : Nat → UInt64), J V → Ab X g (cells + 6) (slots + 36) Q 3013 [some (.retAddr b), some (.ref 0), some (.ref 57), some (.ref 72), some (.ref 73), some (.int x), none, none] [] (SW V o D)) : Ab X g cells slots Q 910 [some (.retAddr b), some (.ref 0), some (.ref 57), some (.ref 72), some (.ref 73), some (.int x), none, none] [] (SW V o D) := by
  refine ab_aload_n O 1 dL_law_910 rfl rfl ?_
  refine ab_aload_nR O 0 dL_law_911 rfl rfl ?_
  refine ab_iload O dL_law_912 rfl ?_
  refine ab_iconst O 1 dL_law_914 rfl ?_
  refine ab_iadd O dL_law_915 ?_
  refine ab_sld O hX hbl hbA dL_law_916 hin1 ?_
  refine ab_eq (st2 := [.int a1, .ref 0]) ?_ rfl rfl (by rw [e1]) rfl
  refine ab_aload_nR O 0 dL_law_917 rfl rfl ?_
  refine ab_iload O dL_law_918 rfl ?_
  refine ab_iconst O 2 dL_law_920 rfl ?_
  refine ab_iadd O dL_law_921 ?_
  refine ab_sld O hX hbl hbA dL_law_922 hin2 ?_
  refine ab_eq (st2 := [.int a2, .int a1, .ref 0]) ?_ rfl rfl (by rw [e2]) rfl
  refine ab_aload_n O 3 dL_law_923 rfl rfl ?_
  refine ab_callh O hI (st := []) ch_L_196 dL_law_924 (c_L_parallel 11 (by decide) _ O.2.2.2.2.2.2.1 _ _ _ a1 a2 h) rfl rfl (by rw [hR]; exact ⟨by decide, by decide⟩) (show 0 ≤ 8 by decide) (by rw [hR]; exact ⟨show cells + 2 ≤ 601024 by omega, show slots + 12 ≤ 7293034 by omega⟩) (fun k1 u hu => ?_)
  obtain ⟨V2, o3, D4, rfl, h⟩ := hu
  refine ab_istore O dL_law_927 (show 6 < 8 by decide) ?_
  refine ab_aload_n O 2 dL_law_929 rfl rfl ?_
  refine ab_aload_nR O 0 dL_law_930 rfl rfl ?_
  refine ab_iload O dL_law_931 rfl ?_
  refine ab_iconst O 1 dL_law_933 rfl ?_
  refine ab_iadd O dL_law_934 ?_
  refine ab_sld O hX hbl hbA dL_law_935 hin1 ?_
  refine ab_eq (st2 := [.int a1, .ref 57]) ?_ rfl rfl (by rw [e1]) rfl
  refine ab_aload_nR O 0 dL_law_936 rfl rfl ?_
  refine ab_iload O dL_law_937 rfl ?_
  refine ab_iconst O 2 dL_law_939 rfl ?_
  refine ab_iadd O dL_law_940 ?_
  refine ab_sld O hX hbl hbA dL_law_941 hin2 ?_
  refine ab_eq (st2 := [.int a2, .int a1, .ref 57]) ?_ rfl rfl (by rw [e2]) rfl
  refine ab_callvI O hI (fr := False) (st := []) lk_L_198 rfl (at_57 _ _ _) dL_law_942 (c_X9_parallel 11 (by decide) _ O.2.2.2.2.2.2.1 _ _ _ a1 a2 h) rfl rfl (by rw [hR]; exact ⟨by decide, by decide⟩) (show 0 ≤ 8 by decide) (by rw [hR]; exact ⟨show cells + 2 ≤ 601024 by omega, show slots + 12 ≤ 7293034 by omega⟩) (fun q => q.elim) (fun E u q => q.elim) (fun r5 u hu => ?_)
  obtain ⟨V6, rfl, h⟩ := hu
  refine ab_istore O dL_law_945 (show 7 < 8 by decide) ?_
  refine ab_aload_n O 2 dL_law_947 rfl rfl ?_
  refine ab_callvI O hI (fr := False) (st := []) lk_L_155 rfl (at_57 _ _ _) dL_law_948 (c_X9_thrown 11 (by decide) _ O.2.2.2.2.2.2.1 _ _ _ h) rfl rfl (by rw [hR]; exact ⟨by decide, by decide⟩) (show 0 ≤ 8 by decide) (by rw [hR]; exact ⟨show cells + 2 ≤ 601024 by omega, show slots + 12 ≤ 7293034 by omega⟩) (fun q => q.elim) (fun E u q => q.elim) (fun r7 u hu => ?_)
  obtain ⟨V8, rfl, h⟩ := hu
  refine ab_iload O dL_law_951 rfl ?_
  refine ab_icmp_eq O 958 dL_law_953 rfl (fun q9 => ?_) (fun q9 => ?_)
  · have h := h.1 q9
    refine ab_iload O dL_law_958 rfl ?_
    refine ab_if_ne O 975 dL_law_960 rfl (fun q10 => ?_) (fun q10 => ?_)
    · have h := h.2 q10
      refine ab_goto O 3013 dL_law_975 rfl ?_
      exact ab_widen (by omega) (by omega) (ab_less (hk V8 o3 D4 h) (ab_le_s (ab_le_s (ab_le_s (ab_le_s (ab_le_s (ab_le_s (ab_le_n (ab_le_n ab_le_0)))))))))
    · have h := h.1 q10
      refine ab_aload_n O 3 dL_law_963 rfl rfl ?_
      refine ab_iconst O 0 dL_law_964 rfl ?_
      refine ab_lald O dL_law_965 (at_72 _ _ _) (by unfold vp_in; decide) ?_
      refine ab_eq (st2 := [.long (o3 0)]) ?_ rfl rfl rfl rfl
      refine ab_iload O dL_law_966 rfl ?_
      refine ab_i2l O dL_law_968 ?_
      refine ab_lcmp O dL_law_969 ?_
      refine ab_if_eq O 975 dL_law_970 rfl (fun q11 => ?_) (fun q11 => ?_)
      · have h := h.1 q11
        refine ab_goto O 3013 dL_law_975 rfl ?_
        exact ab_widen (by omega) (by omega) (ab_less (hk V8 o3 D4 h) (ab_le_s (ab_le_s (ab_le_s (ab_le_s (ab_le_s (ab_le_s (ab_le_n (ab_le_n ab_le_0)))))))))
      · have h := h.2 q11
        exact h.elim
  · have h := h.2 q9
    exact h.elim

def wpc_13 (V : Mm) (o : Nat → Int64) (D : Nat → UInt64) (a1 a2 a3 : Int32) (J : Mm → Prop) : Prop := (wp_L_lightest V a1 a2 o D (fun (k1 : Int32) (V2 : Mm) (o3 : Nat → Int64) (D4 : Nat → UInt64) => (wp_X9_lightest V2 a1 a2 (fun (r5 : Int32) (V6 : Mm) => (wp_X9_thrown V6 (fun (r7 : Int32) (V8 : Mm) => ((r7 = k1 → ((k1 = 0 → (((lg_cmp ((o3 0)) ((r5).toInt64)) = 0 → J V8) ∧ (¬ (lg_cmp ((o3 0)) ((r5).toInt64)) = 0 → False))) ∧ (¬ k1 = 0 → J V8))) ∧ (¬ r7 = k1 → False))))))))
set_option maxHeartbeats 4000000 in
theorem cc_13 {X : ab_M} {g : ab_G} {cells slots b N : Nat} {xs9 : Nat → Int32} {Q : State → Prop} (O : ab_Ok X g cL_law RL) (hI : tk_S tk_strs (xs X)) (hR : xR X = room_1) (hX : va_X b N xs9 (xs X) (xs X).heap) (hbl : b < (xs X).heap.size) (hbA : ¬ g.1 ≤ b) (hc : cells + 6 ≤ 601024) (hs : slots + 36 ≤ 7293034) {x a1 a2 a3 : Int32} (hin1 : vp_in (x + 1) N) (hin2 : vp_in (x + 2) N) (hin3 : vp_in (x + 3) N) (e1 : xs9 (Int32.toNatClampNeg (x + 1)) = a1) (e2 : xs9 (Int32.toNatClampNeg (x + 2)) = a2) (e3 : xs9 (Int32.toNatClampNeg (x + 3)) = a3) {J : Mm → Prop} {V : Mm} {o : Nat → Int64} {D : Nat → UInt64} (h : wpc_13 V o D a1 a2 a3 J) (hk : ∀ (V : Mm) (o : Nat → Int64) (D : Nat → UInt64), J V → Ab X g (cells + 6) (slots + 36) Q 3013 [some (.retAddr b), some (.ref 0), some (.ref 57), some (.ref 72), some (.ref 73), some (.int x), none, none] [] (SW V o D)) : Ab X g cells slots Q 978 [some (.retAddr b), some (.ref 0), some (.ref 57), some (.ref 72), some (.ref 73), some (.int x), none, none] [] (SW V o D) := by
  refine ab_aload_n O 1 dL_law_978 rfl rfl ?_
  refine ab_aload_nR O 0 dL_law_979 rfl rfl ?_
  refine ab_iload O dL_law_980 rfl ?_
  refine ab_iconst O 1 dL_law_982 rfl ?_
  refine ab_iadd O dL_law_983 ?_
  refine ab_sld O hX hbl hbA dL_law_984 hin1 ?_
  refine ab_eq (st2 := [.int a1, .ref 0]) ?_ rfl rfl (by rw [e1]) rfl
  refine ab_aload_nR O 0 dL_law_985 rfl rfl ?_
  refine ab_iload O dL_law_986 rfl ?_
  refine ab_iconst O 2 dL_law_988 rfl ?_
  refine ab_iadd O dL_law_989 ?_
  refine ab_sld O hX hbl hbA dL_law_990 hin2 ?_
  refine ab_eq (st2 := [.int a2, .int a1, .ref 0]) ?_ rfl rfl (by rw [e2]) rfl
  refine ab_aload_n O 3 dL_law_991 rfl rfl ?_
  refine ab_callh O hI (st := []) ch_L_199 dL_law_992 (c_L_lightest 11 (by decide) _ O.2.2.2.2.2.2.1 _ _ _ a1 a2 h) rfl rfl (by rw [hR]; exact ⟨by decide, by decide⟩) (show 0 ≤ 8 by decide) (by rw [hR]; exact ⟨show cells + 3 ≤ 601024 by omega, show slots + 18 ≤ 7293034 by omega⟩) (fun k1 u hu => ?_)
  obtain ⟨V2, o3, D4, rfl, h⟩ := hu
  refine ab_istore O dL_law_995 (show 6 < 8 by decide) ?_
  refine ab_aload_n O 2 dL_law_997 rfl rfl ?_
  refine ab_aload_nR O 0 dL_law_998 rfl rfl ?_
  refine ab_iload O dL_law_999 rfl ?_
  refine ab_iconst O 1 dL_law_1001 rfl ?_
  refine ab_iadd O dL_law_1002 ?_
  refine ab_sld O hX hbl hbA dL_law_1003 hin1 ?_
  refine ab_eq (st2 := [.int a1, .ref 57]) ?_ rfl rfl (by rw [e1]) rfl
  refine ab_aload_nR O 0 dL_law_1004 rfl rfl ?_
  refine ab_iload O dL_law_1005 rfl ?_
  refine ab_iconst O 2 dL_law_1007 rfl ?_
  refine ab_iadd O dL_law_1008 ?_
  refine ab_sld O hX hbl hbA dL_law_1009 hin2 ?_
  refine ab_eq (st2 := [.int a2, .int a1, .ref 57]) ?_ rfl rfl (by rw [e2]) rfl
  refine ab_callvI O hI (fr := False) (st := []) lk_L_201 rfl (at_57 _ _ _) dL_law_1010 (c_X9_lightest 11 (by decide) _ O.2.2.2.2.2.2.1 _ _ _ a1 a2 h) rfl rfl (by rw [hR]; exact ⟨by decide, by decide⟩) (show 0 ≤ 8 by decide) (by rw [hR]; exact ⟨show cells + 3 ≤ 601024 by omega, show slots + 18 ≤ 7293034 by omega⟩) (fun q => q.elim) (fun E u q => q.elim) (fun r5 u hu => ?_)
  obtain ⟨V6, rfl, h⟩ := hu
  refine ab_istore O dL_law_1013 (show 7 < 8 by decide) ?_
  refine ab_aload_n O 2 dL_law_1015 rfl rfl ?_
  refine ab_callvI O hI (fr := False) (st := []) lk_L_155 rfl (at_57 _ _ _) dL_law_1016 (c_X9_thrown 11 (by decide) _ O.2.2.2.2.2.2.1 _ _ _ h) rfl rfl (by rw [hR]; exact ⟨by decide, by decide⟩) (show 0 ≤ 8 by decide) (by rw [hR]; exact ⟨show cells + 3 ≤ 601024 by omega, show slots + 18 ≤ 7293034 by omega⟩) (fun q => q.elim) (fun E u q => q.elim) (fun r7 u hu => ?_)
  obtain ⟨V8, rfl, h⟩ := hu
  refine ab_iload O dL_law_1019 rfl ?_
  refine ab_icmp_eq O 1026 dL_law_1021 rfl (fun q9 => ?_) (fun q9 => ?_)
  · have h := h.1 q9
    refine ab_iload O dL_law_1026 rfl ?_
    refine ab_if_ne O 1043 dL_law_1028 rfl (fun q10 => ?_) (fun q10 => ?_)
    · have h := h.2 q10
      refine ab_goto O 3013 dL_law_1043 rfl ?_
      exact ab_widen (by omega) (by omega) (ab_less (hk V8 o3 D4 h) (ab_le_s (ab_le_s (ab_le_s (ab_le_s (ab_le_s (ab_le_s (ab_le_n (ab_le_n ab_le_0)))))))))
    · have h := h.1 q10
      refine ab_aload_n O 3 dL_law_1031 rfl rfl ?_
      refine ab_iconst O 0 dL_law_1032 rfl ?_
      refine ab_lald O dL_law_1033 (at_72 _ _ _) (by unfold vp_in; decide) ?_
      refine ab_eq (st2 := [.long (o3 0)]) ?_ rfl rfl rfl rfl
      refine ab_iload O dL_law_1034 rfl ?_
      refine ab_i2l O dL_law_1036 ?_
      refine ab_lcmp O dL_law_1037 ?_
      refine ab_if_eq O 1043 dL_law_1038 rfl (fun q11 => ?_) (fun q11 => ?_)
      · have h := h.1 q11
        refine ab_goto O 3013 dL_law_1043 rfl ?_
        exact ab_widen (by omega) (by omega) (ab_less (hk V8 o3 D4 h) (ab_le_s (ab_le_s (ab_le_s (ab_le_s (ab_le_s (ab_le_s (ab_le_n (ab_le_n ab_le_0)))))))))
      · have h := h.2 q11
        exact h.elim
  · have h := h.2 q9
    exact h.elim

def wpc_14 (V : Mm) (o : Nat → Int64) (D : Nat → UInt64) (a1 a2 a3 : Int32) (J : Mm → Prop) : Prop := (wp_X8_forestWeight V (fun (r1 : Int32) (V2 : Mm) => (wp_X9_forestWeight V2 (fun (r3 : Int32) (V4 : Mm) => ((r1 = r3 → J V4) ∧ (¬ r1 = r3 → False))))))
set_option maxHeartbeats 4000000 in
theorem cc_14 {X : ab_M} {g : ab_G} {cells slots b N : Nat} {xs9 : Nat → Int32} {Q : State → Prop} (O : ab_Ok X g cL_law RL) (hI : tk_S tk_strs (xs X)) (hR : xR X = room_1) (hX : va_X b N xs9 (xs X) (xs X).heap) (hbl : b < (xs X).heap.size) (hbA : ¬ g.1 ≤ b) (hc : cells + 6 ≤ 601024) (hs : slots + 36 ≤ 7293034) {x a1 a2 a3 : Int32} (hin1 : vp_in (x + 1) N) (hin2 : vp_in (x + 2) N) (hin3 : vp_in (x + 3) N) (e1 : xs9 (Int32.toNatClampNeg (x + 1)) = a1) (e2 : xs9 (Int32.toNatClampNeg (x + 2)) = a2) (e3 : xs9 (Int32.toNatClampNeg (x + 3)) = a3) {J : Mm → Prop} {V : Mm} {o : Nat → Int64} {D : Nat → UInt64} (h : wpc_14 V o D a1 a2 a3 J) (hk : ∀ (V : Mm) (o : Nat → Int64) (D : Nat → UInt64), J V → Ab X g (cells + 6) (slots + 36) Q 3013 [some (.retAddr b), some (.ref 0), some (.ref 57), some (.ref 72), some (.ref 73), some (.int x), none, none] [] (SW V o D)) : Ab X g cells slots Q 1046 [some (.retAddr b), some (.ref 0), some (.ref 57), some (.ref 72), some (.ref 73), some (.int x), none, none] [] (SW V o D) := by
  refine ab_aload_n O 1 dL_law_1046 rfl rfl ?_
  refine ab_callvI O hI (fr := False) (st := []) lk_L_202 rfl (at_0 _ _ _) dL_law_1047 (c_X8_forestWeight 11 (by decide) _ O.2.2.2.2.2.2.1 _ _ _ h) rfl rfl (by rw [hR]; exact ⟨by decide, by decide⟩) (show 0 ≤ 8 by decide) (by rw [hR]; exact ⟨show cells + 0 ≤ 601024 by omega, show slots + 0 ≤ 7293034 by omega⟩) (fun q => q.elim) (fun E u q => q.elim) (fun r1 u hu => ?_)
  obtain ⟨V2, rfl, h⟩ := hu
  refine ab_aload_n O 2 dL_law_1050 rfl rfl ?_
  refine ab_callvI O hI (fr := False) (st := [.int r1]) lk_L_205 rfl (at_57 _ _ _) dL_law_1051 (c_X9_forestWeight 11 (by decide) _ O.2.2.2.2.2.2.1 _ _ _ h) rfl rfl (by rw [hR]; exact ⟨by decide, by decide⟩) (show 1 ≤ 8 by decide) (by rw [hR]; exact ⟨show cells + 0 ≤ 601024 by omega, show slots + 0 ≤ 7293034 by omega⟩) (fun q => q.elim) (fun E u q => q.elim) (fun r3 u hu => ?_)
  obtain ⟨V4, rfl, h⟩ := hu
  refine ab_icmp_eq O 3013 dL_law_1054 rfl (fun q5 => ?_) (fun q5 => ?_)
  · have h := h.1 q5
    exact ab_widen (by omega) (by omega) (ab_less (hk V4 o D h) (ab_le_s (ab_le_s (ab_le_s (ab_le_s (ab_le_s (ab_le_s (ab_le_n (ab_le_n ab_le_0)))))))))
  · have h := h.2 q5
    exact h.elim

def wpc_15 (V : Mm) (o : Nat → Int64) (D : Nat → UInt64) (a1 a2 a3 : Int32) (J : Mm → Prop) : Prop := (wp_X8_forestWeightAnew V (fun (r1 : Int32) (V2 : Mm) => (wp_X9_forestWeightAnew V2 (fun (r3 : Int32) (V4 : Mm) => ((r1 = r3 → J V4) ∧ (¬ r1 = r3 → False))))))
set_option maxHeartbeats 4000000 in
theorem cc_15 {X : ab_M} {g : ab_G} {cells slots b N : Nat} {xs9 : Nat → Int32} {Q : State → Prop} (O : ab_Ok X g cL_law RL) (hI : tk_S tk_strs (xs X)) (hR : xR X = room_1) (hX : va_X b N xs9 (xs X) (xs X).heap) (hbl : b < (xs X).heap.size) (hbA : ¬ g.1 ≤ b) (hc : cells + 6 ≤ 601024) (hs : slots + 36 ≤ 7293034) {x a1 a2 a3 : Int32} (hin1 : vp_in (x + 1) N) (hin2 : vp_in (x + 2) N) (hin3 : vp_in (x + 3) N) (e1 : xs9 (Int32.toNatClampNeg (x + 1)) = a1) (e2 : xs9 (Int32.toNatClampNeg (x + 2)) = a2) (e3 : xs9 (Int32.toNatClampNeg (x + 3)) = a3) {J : Mm → Prop} {V : Mm} {o : Nat → Int64} {D : Nat → UInt64} (h : wpc_15 V o D a1 a2 a3 J) (hk : ∀ (V : Mm) (o : Nat → Int64) (D : Nat → UInt64), J V → Ab X g (cells + 6) (slots + 36) Q 3013 [some (.retAddr b), some (.ref 0), some (.ref 57), some (.ref 72), some (.ref 73), some (.int x), none, none] [] (SW V o D)) : Ab X g cells slots Q 1059 [some (.retAddr b), some (.ref 0), some (.ref 57), some (.ref 72), some (.ref 73), some (.int x), none, none] [] (SW V o D) := by
  refine ab_aload_n O 1 dL_law_1059 rfl rfl ?_
  refine ab_callvI O hI (fr := False) (st := []) lk_L_206 rfl (at_0 _ _ _) dL_law_1060 (c_X8_forestWeightAnew 11 (by decide) _ O.2.2.2.2.2.2.1 _ _ _ h) rfl rfl (by rw [hR]; exact ⟨by decide, by decide⟩) (show 0 ≤ 8 by decide) (by rw [hR]; exact ⟨show cells + 0 ≤ 601024 by omega, show slots + 0 ≤ 7293034 by omega⟩) (fun q => q.elim) (fun E u q => q.elim) (fun r1 u hu => ?_)
  obtain ⟨V2, rfl, h⟩ := hu
  refine ab_aload_n O 2 dL_law_1063 rfl rfl ?_
  refine ab_callvI O hI (fr := False) (st := [.int r1]) lk_L_209 rfl (at_57 _ _ _) dL_law_1064 (c_X9_forestWeightAnew 11 (by decide) _ O.2.2.2.2.2.2.1 _ _ _ h) rfl rfl (by rw [hR]; exact ⟨by decide, by decide⟩) (show 1 ≤ 8 by decide) (by rw [hR]; exact ⟨show cells + 0 ≤ 601024 by omega, show slots + 0 ≤ 7293034 by omega⟩) (fun q => q.elim) (fun E u q => q.elim) (fun r3 u hu => ?_)
  obtain ⟨V4, rfl, h⟩ := hu
  refine ab_icmp_eq O 3013 dL_law_1067 rfl (fun q5 => ?_) (fun q5 => ?_)
  · have h := h.1 q5
    exact ab_widen (by omega) (by omega) (ab_less (hk V4 o D h) (ab_le_s (ab_le_s (ab_le_s (ab_le_s (ab_le_s (ab_le_s (ab_le_n (ab_le_n ab_le_0)))))))))
  · have h := h.2 q5
    exact h.elim

def wpc_16 (V : Mm) (o : Nat → Int64) (D : Nat → UInt64) (a1 a2 a3 : Int32) (J : Mm → Prop) : Prop := (wp_X8_trees V (fun (r1 : Int32) (V2 : Mm) => (wp_X9_trees V2 (fun (r3 : Int32) (V4 : Mm) => ((r1 = r3 → J V4) ∧ (¬ r1 = r3 → False))))))
set_option maxHeartbeats 4000000 in
theorem cc_16 {X : ab_M} {g : ab_G} {cells slots b N : Nat} {xs9 : Nat → Int32} {Q : State → Prop} (O : ab_Ok X g cL_law RL) (hI : tk_S tk_strs (xs X)) (hR : xR X = room_1) (hX : va_X b N xs9 (xs X) (xs X).heap) (hbl : b < (xs X).heap.size) (hbA : ¬ g.1 ≤ b) (hc : cells + 6 ≤ 601024) (hs : slots + 36 ≤ 7293034) {x a1 a2 a3 : Int32} (hin1 : vp_in (x + 1) N) (hin2 : vp_in (x + 2) N) (hin3 : vp_in (x + 3) N) (e1 : xs9 (Int32.toNatClampNeg (x + 1)) = a1) (e2 : xs9 (Int32.toNatClampNeg (x + 2)) = a2) (e3 : xs9 (Int32.toNatClampNeg (x + 3)) = a3) {J : Mm → Prop} {V : Mm} {o : Nat → Int64} {D : Nat → UInt64} (h : wpc_16 V o D a1 a2 a3 J) (hk : ∀ (V : Mm) (o : Nat → Int64) (D : Nat → UInt64), J V → Ab X g (cells + 6) (slots + 36) Q 3013 [some (.retAddr b), some (.ref 0), some (.ref 57), some (.ref 72), some (.ref 73), some (.int x), none, none] [] (SW V o D)) : Ab X g cells slots Q 1072 [some (.retAddr b), some (.ref 0), some (.ref 57), some (.ref 72), some (.ref 73), some (.int x), none, none] [] (SW V o D) := by
  refine ab_aload_n O 1 dL_law_1072 rfl rfl ?_
  refine ab_callvI O hI (fr := False) (st := []) lk_L_210 rfl (at_0 _ _ _) dL_law_1073 (c_X8_trees 11 (by decide) _ O.2.2.2.2.2.2.1 _ _ _ h) rfl rfl (by rw [hR]; exact ⟨by decide, by decide⟩) (show 0 ≤ 8 by decide) (by rw [hR]; exact ⟨show cells + 0 ≤ 601024 by omega, show slots + 0 ≤ 7293034 by omega⟩) (fun q => q.elim) (fun E u q => q.elim) (fun r1 u hu => ?_)
  obtain ⟨V2, rfl, h⟩ := hu
  refine ab_aload_n O 2 dL_law_1076 rfl rfl ?_
  refine ab_callvI O hI (fr := False) (st := [.int r1]) lk_L_213 rfl (at_57 _ _ _) dL_law_1077 (c_X9_trees 11 (by decide) _ O.2.2.2.2.2.2.1 _ _ _ h) rfl rfl (by rw [hR]; exact ⟨by decide, by decide⟩) (show 1 ≤ 8 by decide) (by rw [hR]; exact ⟨show cells + 0 ≤ 601024 by omega, show slots + 0 ≤ 7293034 by omega⟩) (fun q => q.elim) (fun E u q => q.elim) (fun r3 u hu => ?_)
  obtain ⟨V4, rfl, h⟩ := hu
  refine ab_icmp_eq O 3013 dL_law_1080 rfl (fun q5 => ?_) (fun q5 => ?_)
  · have h := h.1 q5
    exact ab_widen (by omega) (by omega) (ab_less (hk V4 o D h) (ab_le_s (ab_le_s (ab_le_s (ab_le_s (ab_le_s (ab_le_s (ab_le_n (ab_le_n ab_le_0)))))))))
  · have h := h.2 q5
    exact h.elim

def wpc_17 (V : Mm) (o : Nat → Int64) (D : Nat → UInt64) (a1 a2 a3 : Int32) (J : Mm → Prop) : Prop := (wp_L_degree V a1 o D (fun (k1 : Int32) (V2 : Mm) (o3 : Nat → Int64) (D4 : Nat → UInt64) => (wp_X9_degree V2 a1 (fun (r5 : Int32) (V6 : Mm) => (wp_X9_thrown V6 (fun (r7 : Int32) (V8 : Mm) => ((r7 = k1 → ((k1 = 0 → (((lg_cmp ((o3 0)) ((r5).toInt64)) = 0 → J V8) ∧ (¬ (lg_cmp ((o3 0)) ((r5).toInt64)) = 0 → False))) ∧ (¬ k1 = 0 → J V8))) ∧ (¬ r7 = k1 → False))))))))
set_option maxHeartbeats 4000000 in
theorem cc_17 {X : ab_M} {g : ab_G} {cells slots b N : Nat} {xs9 : Nat → Int32} {Q : State → Prop} (O : ab_Ok X g cL_law RL) (hI : tk_S tk_strs (xs X)) (hR : xR X = room_1) (hX : va_X b N xs9 (xs X) (xs X).heap) (hbl : b < (xs X).heap.size) (hbA : ¬ g.1 ≤ b) (hc : cells + 6 ≤ 601024) (hs : slots + 36 ≤ 7293034) {x a1 a2 a3 : Int32} (hin1 : vp_in (x + 1) N) (hin2 : vp_in (x + 2) N) (hin3 : vp_in (x + 3) N) (e1 : xs9 (Int32.toNatClampNeg (x + 1)) = a1) (e2 : xs9 (Int32.toNatClampNeg (x + 2)) = a2) (e3 : xs9 (Int32.toNatClampNeg (x + 3)) = a3) {J : Mm → Prop} {V : Mm} {o : Nat → Int64} {D : Nat → UInt64} (h : wpc_17 V o D a1 a2 a3 J) (hk : ∀ (V : Mm) (o : Nat → Int64) (D : Nat → UInt64), J V → Ab X g (cells + 6) (slots + 36) Q 3013 [some (.retAddr b), some (.ref 0), some (.ref 57), some (.ref 72), some (.ref 73), some (.int x), none, none] [] (SW V o D)) : Ab X g cells slots Q 1085 [some (.retAddr b), some (.ref 0), some (.ref 57), some (.ref 72), some (.ref 73), some (.int x), none, none] [] (SW V o D) := by
  refine ab_aload_n O 1 dL_law_1085 rfl rfl ?_
  refine ab_aload_nR O 0 dL_law_1086 rfl rfl ?_
  refine ab_iload O dL_law_1087 rfl ?_
  refine ab_iconst O 1 dL_law_1089 rfl ?_
  refine ab_iadd O dL_law_1090 ?_
  refine ab_sld O hX hbl hbA dL_law_1091 hin1 ?_
  refine ab_eq (st2 := [.int a1, .ref 0]) ?_ rfl rfl (by rw [e1]) rfl
  refine ab_aload_n O 3 dL_law_1092 rfl rfl ?_
  refine ab_callh O hI (st := []) ch_L_214 dL_law_1093 (c_L_degree 11 (by decide) _ O.2.2.2.2.2.2.1 _ _ _ a1 h) rfl rfl (by rw [hR]; exact ⟨by decide, by decide⟩) (show 0 ≤ 8 by decide) (by rw [hR]; exact ⟨show cells + 1 ≤ 601024 by omega, show slots + 6 ≤ 7293034 by omega⟩) (fun k1 u hu => ?_)
  obtain ⟨V2, o3, D4, rfl, h⟩ := hu
  refine ab_istore O dL_law_1096 (show 6 < 8 by decide) ?_
  refine ab_aload_n O 2 dL_law_1098 rfl rfl ?_
  refine ab_aload_nR O 0 dL_law_1099 rfl rfl ?_
  refine ab_iload O dL_law_1100 rfl ?_
  refine ab_iconst O 1 dL_law_1102 rfl ?_
  refine ab_iadd O dL_law_1103 ?_
  refine ab_sld O hX hbl hbA dL_law_1104 hin1 ?_
  refine ab_eq (st2 := [.int a1, .ref 57]) ?_ rfl rfl (by rw [e1]) rfl
  refine ab_callvI O hI (fr := False) (st := []) lk_L_216 rfl (at_57 _ _ _) dL_law_1105 (c_X9_degree 11 (by decide) _ O.2.2.2.2.2.2.1 _ _ _ a1 h) rfl rfl (by rw [hR]; exact ⟨by decide, by decide⟩) (show 0 ≤ 8 by decide) (by rw [hR]; exact ⟨show cells + 1 ≤ 601024 by omega, show slots + 6 ≤ 7293034 by omega⟩) (fun q => q.elim) (fun E u q => q.elim) (fun r5 u hu => ?_)
  obtain ⟨V6, rfl, h⟩ := hu
  refine ab_istore O dL_law_1108 (show 7 < 8 by decide) ?_
  refine ab_aload_n O 2 dL_law_1110 rfl rfl ?_
  refine ab_callvI O hI (fr := False) (st := []) lk_L_155 rfl (at_57 _ _ _) dL_law_1111 (c_X9_thrown 11 (by decide) _ O.2.2.2.2.2.2.1 _ _ _ h) rfl rfl (by rw [hR]; exact ⟨by decide, by decide⟩) (show 0 ≤ 8 by decide) (by rw [hR]; exact ⟨show cells + 1 ≤ 601024 by omega, show slots + 6 ≤ 7293034 by omega⟩) (fun q => q.elim) (fun E u q => q.elim) (fun r7 u hu => ?_)
  obtain ⟨V8, rfl, h⟩ := hu
  refine ab_iload O dL_law_1114 rfl ?_
  refine ab_icmp_eq O 1121 dL_law_1116 rfl (fun q9 => ?_) (fun q9 => ?_)
  · have h := h.1 q9
    refine ab_iload O dL_law_1121 rfl ?_
    refine ab_if_ne O 1138 dL_law_1123 rfl (fun q10 => ?_) (fun q10 => ?_)
    · have h := h.2 q10
      refine ab_goto O 3013 dL_law_1138 rfl ?_
      exact ab_widen (by omega) (by omega) (ab_less (hk V8 o3 D4 h) (ab_le_s (ab_le_s (ab_le_s (ab_le_s (ab_le_s (ab_le_s (ab_le_n (ab_le_n ab_le_0)))))))))
    · have h := h.1 q10
      refine ab_aload_n O 3 dL_law_1126 rfl rfl ?_
      refine ab_iconst O 0 dL_law_1127 rfl ?_
      refine ab_lald O dL_law_1128 (at_72 _ _ _) (by unfold vp_in; decide) ?_
      refine ab_eq (st2 := [.long (o3 0)]) ?_ rfl rfl rfl rfl
      refine ab_iload O dL_law_1129 rfl ?_
      refine ab_i2l O dL_law_1131 ?_
      refine ab_lcmp O dL_law_1132 ?_
      refine ab_if_eq O 1138 dL_law_1133 rfl (fun q11 => ?_) (fun q11 => ?_)
      · have h := h.1 q11
        refine ab_goto O 3013 dL_law_1138 rfl ?_
        exact ab_widen (by omega) (by omega) (ab_less (hk V8 o3 D4 h) (ab_le_s (ab_le_s (ab_le_s (ab_le_s (ab_le_s (ab_le_s (ab_le_n (ab_le_n ab_le_0)))))))))
      · have h := h.2 q11
        exact h.elim
  · have h := h.2 q9
    exact h.elim

def wpc_18 (V : Mm) (o : Nat → Int64) (D : Nat → UInt64) (a1 a2 a3 : Int32) (J : Mm → Prop) : Prop := (wp_L_neighbour V a1 a2 o D (fun (k1 : Int32) (V2 : Mm) (o3 : Nat → Int64) (D4 : Nat → UInt64) => (wp_X9_neighbour V2 a1 a2 (fun (r5 : Int32) (V6 : Mm) => (wp_X9_thrown V6 (fun (r7 : Int32) (V8 : Mm) => ((r7 = k1 → ((k1 = 0 → (((lg_cmp ((o3 0)) ((r5).toInt64)) = 0 → J V8) ∧ (¬ (lg_cmp ((o3 0)) ((r5).toInt64)) = 0 → False))) ∧ (¬ k1 = 0 → J V8))) ∧ (¬ r7 = k1 → False))))))))
set_option maxHeartbeats 4000000 in
theorem cc_18 {X : ab_M} {g : ab_G} {cells slots b N : Nat} {xs9 : Nat → Int32} {Q : State → Prop} (O : ab_Ok X g cL_law RL) (hI : tk_S tk_strs (xs X)) (hR : xR X = room_1) (hX : va_X b N xs9 (xs X) (xs X).heap) (hbl : b < (xs X).heap.size) (hbA : ¬ g.1 ≤ b) (hc : cells + 6 ≤ 601024) (hs : slots + 36 ≤ 7293034) {x a1 a2 a3 : Int32} (hin1 : vp_in (x + 1) N) (hin2 : vp_in (x + 2) N) (hin3 : vp_in (x + 3) N) (e1 : xs9 (Int32.toNatClampNeg (x + 1)) = a1) (e2 : xs9 (Int32.toNatClampNeg (x + 2)) = a2) (e3 : xs9 (Int32.toNatClampNeg (x + 3)) = a3) {J : Mm → Prop} {V : Mm} {o : Nat → Int64} {D : Nat → UInt64} (h : wpc_18 V o D a1 a2 a3 J) (hk : ∀ (V : Mm) (o : Nat → Int64) (D : Nat → UInt64), J V → Ab X g (cells + 6) (slots + 36) Q 3013 [some (.retAddr b), some (.ref 0), some (.ref 57), some (.ref 72), some (.ref 73), some (.int x), none, none] [] (SW V o D)) : Ab X g cells slots Q 1141 [some (.retAddr b), some (.ref 0), some (.ref 57), some (.ref 72), some (.ref 73), some (.int x), none, none] [] (SW V o D) := by
  refine ab_aload_n O 1 dL_law_1141 rfl rfl ?_
  refine ab_aload_nR O 0 dL_law_1142 rfl rfl ?_
  refine ab_iload O dL_law_1143 rfl ?_
  refine ab_iconst O 1 dL_law_1145 rfl ?_
  refine ab_iadd O dL_law_1146 ?_
  refine ab_sld O hX hbl hbA dL_law_1147 hin1 ?_
  refine ab_eq (st2 := [.int a1, .ref 0]) ?_ rfl rfl (by rw [e1]) rfl
  refine ab_aload_nR O 0 dL_law_1148 rfl rfl ?_
  refine ab_iload O dL_law_1149 rfl ?_
  refine ab_iconst O 2 dL_law_1151 rfl ?_
  refine ab_iadd O dL_law_1152 ?_
  refine ab_sld O hX hbl hbA dL_law_1153 hin2 ?_
  refine ab_eq (st2 := [.int a2, .int a1, .ref 0]) ?_ rfl rfl (by rw [e2]) rfl
  refine ab_aload_n O 3 dL_law_1154 rfl rfl ?_
  refine ab_callh O hI (st := []) ch_L_217 dL_law_1155 (c_L_neighbour 11 (by decide) _ O.2.2.2.2.2.2.1 _ _ _ a1 a2 h) rfl rfl (by rw [hR]; exact ⟨by decide, by decide⟩) (show 0 ≤ 8 by decide) (by rw [hR]; exact ⟨show cells + 2 ≤ 601024 by omega, show slots + 12 ≤ 7293034 by omega⟩) (fun k1 u hu => ?_)
  obtain ⟨V2, o3, D4, rfl, h⟩ := hu
  refine ab_istore O dL_law_1158 (show 6 < 8 by decide) ?_
  refine ab_aload_n O 2 dL_law_1160 rfl rfl ?_
  refine ab_aload_nR O 0 dL_law_1161 rfl rfl ?_
  refine ab_iload O dL_law_1162 rfl ?_
  refine ab_iconst O 1 dL_law_1164 rfl ?_
  refine ab_iadd O dL_law_1165 ?_
  refine ab_sld O hX hbl hbA dL_law_1166 hin1 ?_
  refine ab_eq (st2 := [.int a1, .ref 57]) ?_ rfl rfl (by rw [e1]) rfl
  refine ab_aload_nR O 0 dL_law_1167 rfl rfl ?_
  refine ab_iload O dL_law_1168 rfl ?_
  refine ab_iconst O 2 dL_law_1170 rfl ?_
  refine ab_iadd O dL_law_1171 ?_
  refine ab_sld O hX hbl hbA dL_law_1172 hin2 ?_
  refine ab_eq (st2 := [.int a2, .int a1, .ref 57]) ?_ rfl rfl (by rw [e2]) rfl
  refine ab_callvI O hI (fr := False) (st := []) lk_L_219 rfl (at_57 _ _ _) dL_law_1173 (c_X9_neighbour 11 (by decide) _ O.2.2.2.2.2.2.1 _ _ _ a1 a2 h) rfl rfl (by rw [hR]; exact ⟨by decide, by decide⟩) (show 0 ≤ 8 by decide) (by rw [hR]; exact ⟨show cells + 2 ≤ 601024 by omega, show slots + 12 ≤ 7293034 by omega⟩) (fun q => q.elim) (fun E u q => q.elim) (fun r5 u hu => ?_)
  obtain ⟨V6, rfl, h⟩ := hu
  refine ab_istore O dL_law_1176 (show 7 < 8 by decide) ?_
  refine ab_aload_n O 2 dL_law_1178 rfl rfl ?_
  refine ab_callvI O hI (fr := False) (st := []) lk_L_155 rfl (at_57 _ _ _) dL_law_1179 (c_X9_thrown 11 (by decide) _ O.2.2.2.2.2.2.1 _ _ _ h) rfl rfl (by rw [hR]; exact ⟨by decide, by decide⟩) (show 0 ≤ 8 by decide) (by rw [hR]; exact ⟨show cells + 2 ≤ 601024 by omega, show slots + 12 ≤ 7293034 by omega⟩) (fun q => q.elim) (fun E u q => q.elim) (fun r7 u hu => ?_)
  obtain ⟨V8, rfl, h⟩ := hu
  refine ab_iload O dL_law_1182 rfl ?_
  refine ab_icmp_eq O 1189 dL_law_1184 rfl (fun q9 => ?_) (fun q9 => ?_)
  · have h := h.1 q9
    refine ab_iload O dL_law_1189 rfl ?_
    refine ab_if_ne O 1206 dL_law_1191 rfl (fun q10 => ?_) (fun q10 => ?_)
    · have h := h.2 q10
      refine ab_goto O 3013 dL_law_1206 rfl ?_
      exact ab_widen (by omega) (by omega) (ab_less (hk V8 o3 D4 h) (ab_le_s (ab_le_s (ab_le_s (ab_le_s (ab_le_s (ab_le_s (ab_le_n (ab_le_n ab_le_0)))))))))
    · have h := h.1 q10
      refine ab_aload_n O 3 dL_law_1194 rfl rfl ?_
      refine ab_iconst O 0 dL_law_1195 rfl ?_
      refine ab_lald O dL_law_1196 (at_72 _ _ _) (by unfold vp_in; decide) ?_
      refine ab_eq (st2 := [.long (o3 0)]) ?_ rfl rfl rfl rfl
      refine ab_iload O dL_law_1197 rfl ?_
      refine ab_i2l O dL_law_1199 ?_
      refine ab_lcmp O dL_law_1200 ?_
      refine ab_if_eq O 1206 dL_law_1201 rfl (fun q11 => ?_) (fun q11 => ?_)
      · have h := h.1 q11
        refine ab_goto O 3013 dL_law_1206 rfl ?_
        exact ab_widen (by omega) (by omega) (ab_less (hk V8 o3 D4 h) (ab_le_s (ab_le_s (ab_le_s (ab_le_s (ab_le_s (ab_le_s (ab_le_n (ab_le_n ab_le_0)))))))))
      · have h := h.2 q11
        exact h.elim
  · have h := h.2 q9
    exact h.elim

def wpc_19 (V : Mm) (o : Nat → Int64) (D : Nat → UInt64) (a1 a2 a3 : Int32) (J : Mm → Prop) : Prop := (wp_L_isConnected V a1 a2 o D (fun (k1 : Int32) (V2 : Mm) (o3 : Nat → Int64) (D4 : Nat → UInt64) => (wp_X9_isConnected V2 a1 a2 (fun (r5 : Int32) (V6 : Mm) => (wp_X9_thrown V6 (fun (r7 : Int32) (V8 : Mm) => ((r7 = k1 → ((k1 = 0 → ((r5 = 0 → (((lg_cmp ((o3 0)) (0)) = 0 → J V8) ∧ (¬ (lg_cmp ((o3 0)) (0)) = 0 → False))) ∧ (¬ r5 = 0 → (((lg_cmp ((o3 0)) (1)) = 0 → J V8) ∧ (¬ (lg_cmp ((o3 0)) (1)) = 0 → False))))) ∧ (¬ k1 = 0 → J V8))) ∧ (¬ r7 = k1 → False))))))))
set_option maxHeartbeats 4000000 in
theorem cc_19 {X : ab_M} {g : ab_G} {cells slots b N : Nat} {xs9 : Nat → Int32} {Q : State → Prop} (O : ab_Ok X g cL_law RL) (hI : tk_S tk_strs (xs X)) (hR : xR X = room_1) (hX : va_X b N xs9 (xs X) (xs X).heap) (hbl : b < (xs X).heap.size) (hbA : ¬ g.1 ≤ b) (hc : cells + 6 ≤ 601024) (hs : slots + 36 ≤ 7293034) {x a1 a2 a3 : Int32} (hin1 : vp_in (x + 1) N) (hin2 : vp_in (x + 2) N) (hin3 : vp_in (x + 3) N) (e1 : xs9 (Int32.toNatClampNeg (x + 1)) = a1) (e2 : xs9 (Int32.toNatClampNeg (x + 2)) = a2) (e3 : xs9 (Int32.toNatClampNeg (x + 3)) = a3) {J : Mm → Prop} {V : Mm} {o : Nat → Int64} {D : Nat → UInt64} (h : wpc_19 V o D a1 a2 a3 J) (hk : ∀ (V : Mm) (o : Nat → Int64) (D : Nat → UInt64), J V → Ab X g (cells + 6) (slots + 36) Q 3013 [some (.retAddr b), some (.ref 0), some (.ref 57), some (.ref 72), some (.ref 73), some (.int x), none, none] [] (SW V o D)) : Ab X g cells slots Q 1209 [some (.retAddr b), some (.ref 0), some (.ref 57), some (.ref 72), some (.ref 73), some (.int x), none, none] [] (SW V o D) := by
  refine ab_aload_n O 1 dL_law_1209 rfl rfl ?_
  refine ab_aload_nR O 0 dL_law_1210 rfl rfl ?_
  refine ab_iload O dL_law_1211 rfl ?_
  refine ab_iconst O 1 dL_law_1213 rfl ?_
  refine ab_iadd O dL_law_1214 ?_
  refine ab_sld O hX hbl hbA dL_law_1215 hin1 ?_
  refine ab_eq (st2 := [.int a1, .ref 0]) ?_ rfl rfl (by rw [e1]) rfl
  refine ab_aload_nR O 0 dL_law_1216 rfl rfl ?_
  refine ab_iload O dL_law_1217 rfl ?_
  refine ab_iconst O 2 dL_law_1219 rfl ?_
  refine ab_iadd O dL_law_1220 ?_
  refine ab_sld O hX hbl hbA dL_law_1221 hin2 ?_
  refine ab_eq (st2 := [.int a2, .int a1, .ref 0]) ?_ rfl rfl (by rw [e2]) rfl
  refine ab_aload_n O 3 dL_law_1222 rfl rfl ?_
  refine ab_callh O hI (st := []) ch_L_220 dL_law_1223 (c_L_isConnected 11 (by decide) _ O.2.2.2.2.2.2.1 _ _ _ a1 a2 h) rfl rfl (by rw [hR]; exact ⟨by decide, by decide⟩) (show 0 ≤ 8 by decide) (by rw [hR]; exact ⟨show cells + 2 ≤ 601024 by omega, show slots + 12 ≤ 7293034 by omega⟩) (fun k1 u hu => ?_)
  obtain ⟨V2, o3, D4, rfl, h⟩ := hu
  refine ab_istore O dL_law_1226 (show 6 < 8 by decide) ?_
  refine ab_aload_n O 2 dL_law_1228 rfl rfl ?_
  refine ab_aload_nR O 0 dL_law_1229 rfl rfl ?_
  refine ab_iload O dL_law_1230 rfl ?_
  refine ab_iconst O 1 dL_law_1232 rfl ?_
  refine ab_iadd O dL_law_1233 ?_
  refine ab_sld O hX hbl hbA dL_law_1234 hin1 ?_
  refine ab_eq (st2 := [.int a1, .ref 57]) ?_ rfl rfl (by rw [e1]) rfl
  refine ab_aload_nR O 0 dL_law_1235 rfl rfl ?_
  refine ab_iload O dL_law_1236 rfl ?_
  refine ab_iconst O 2 dL_law_1238 rfl ?_
  refine ab_iadd O dL_law_1239 ?_
  refine ab_sld O hX hbl hbA dL_law_1240 hin2 ?_
  refine ab_eq (st2 := [.int a2, .int a1, .ref 57]) ?_ rfl rfl (by rw [e2]) rfl
  refine ab_callvI O hI (fr := False) (st := []) lk_L_222 rfl (at_57 _ _ _) dL_law_1241 (c_X9_isConnected 11 (by decide) _ O.2.2.2.2.2.2.1 _ _ _ a1 a2 h) rfl rfl (by rw [hR]; exact ⟨by decide, by decide⟩) (show 0 ≤ 8 by decide) (by rw [hR]; exact ⟨show cells + 2 ≤ 601024 by omega, show slots + 12 ≤ 7293034 by omega⟩) (fun q => q.elim) (fun E u q => q.elim) (fun r5 u hu => ?_)
  obtain ⟨V6, rfl, h⟩ := hu
  refine ab_istore O dL_law_1244 (show 7 < 8 by decide) ?_
  refine ab_aload_n O 2 dL_law_1246 rfl rfl ?_
  refine ab_callvI O hI (fr := False) (st := []) lk_L_155 rfl (at_57 _ _ _) dL_law_1247 (c_X9_thrown 11 (by decide) _ O.2.2.2.2.2.2.1 _ _ _ h) rfl rfl (by rw [hR]; exact ⟨by decide, by decide⟩) (show 0 ≤ 8 by decide) (by rw [hR]; exact ⟨show cells + 2 ≤ 601024 by omega, show slots + 12 ≤ 7293034 by omega⟩) (fun q => q.elim) (fun E u q => q.elim) (fun r7 u hu => ?_)
  obtain ⟨V8, rfl, h⟩ := hu
  refine ab_iload O dL_law_1250 rfl ?_
  refine ab_icmp_eq O 1257 dL_law_1252 rfl (fun q9 => ?_) (fun q9 => ?_)
  · have h := h.1 q9
    refine ab_iload O dL_law_1257 rfl ?_
    refine ab_if_ne O 1281 dL_law_1259 rfl (fun q10 => ?_) (fun q10 => ?_)
    · have h := h.2 q10
      refine ab_goto O 3013 dL_law_1281 rfl ?_
      exact ab_widen (by omega) (by omega) (ab_less (hk V8 o3 D4 h) (ab_le_s (ab_le_s (ab_le_s (ab_le_s (ab_le_s (ab_le_s (ab_le_n (ab_le_n ab_le_0)))))))))
    · have h := h.1 q10
      refine ab_aload_n O 3 dL_law_1262 rfl rfl ?_
      refine ab_iconst O 0 dL_law_1263 rfl ?_
      refine ab_lald O dL_law_1264 (at_72 _ _ _) (by unfold vp_in; decide) ?_
      refine ab_eq (st2 := [.long (o3 0)]) ?_ rfl rfl rfl rfl
      refine ab_iload O dL_law_1265 rfl ?_
      refine ab_if_eq O 1274 dL_law_1267 rfl (fun q11 => ?_) (fun q11 => ?_)
      · have h := h.1 q11
        refine ab_lconst O 0 dL_law_1274 rfl ?_
        refine ab_lcmp O dL_law_1275 ?_
        refine ab_if_eq O 1281 dL_law_1276 rfl (fun q12 => ?_) (fun q12 => ?_)
        · have h := h.1 q12
          refine ab_goto O 3013 dL_law_1281 rfl ?_
          exact ab_widen (by omega) (by omega) (ab_less (hk V8 o3 D4 h) (ab_le_s (ab_le_s (ab_le_s (ab_le_s (ab_le_s (ab_le_s (ab_le_n (ab_le_n ab_le_0)))))))))
        · have h := h.2 q12
          exact h.elim
      · have h := h.2 q11
        refine ab_lconst O 1 dL_law_1270 rfl ?_
        refine ab_goto O 1275 dL_law_1271 rfl ?_
        refine ab_lcmp O dL_law_1275 ?_
        refine ab_if_eq O 1281 dL_law_1276 rfl (fun q13 => ?_) (fun q13 => ?_)
        · have h := h.1 q13
          refine ab_goto O 3013 dL_law_1281 rfl ?_
          exact ab_widen (by omega) (by omega) (ab_less (hk V8 o3 D4 h) (ab_le_s (ab_le_s (ab_le_s (ab_le_s (ab_le_s (ab_le_s (ab_le_n (ab_le_n ab_le_0)))))))))
        · have h := h.2 q13
          exact h.elim
  · have h := h.2 q9
    exact h.elim

def wpc_20 (V : Mm) (o : Nat → Int64) (D : Nat → UInt64) (a1 a2 a3 : Int32) (J : Mm → Prop) : Prop := (wp_L_isConnectedByWalk V a1 a2 o D (fun (k1 : Int32) (V2 : Mm) (o3 : Nat → Int64) (D4 : Nat → UInt64) => (wp_X9_isConnectedByWalk V2 a1 a2 (fun (r5 : Int32) (V6 : Mm) => (wp_X9_thrown V6 (fun (r7 : Int32) (V8 : Mm) => ((r7 = k1 → ((k1 = 0 → ((r5 = 0 → (((lg_cmp ((o3 0)) (0)) = 0 → J V8) ∧ (¬ (lg_cmp ((o3 0)) (0)) = 0 → False))) ∧ (¬ r5 = 0 → (((lg_cmp ((o3 0)) (1)) = 0 → J V8) ∧ (¬ (lg_cmp ((o3 0)) (1)) = 0 → False))))) ∧ (¬ k1 = 0 → J V8))) ∧ (¬ r7 = k1 → False))))))))
set_option maxHeartbeats 4000000 in
theorem cc_20 {X : ab_M} {g : ab_G} {cells slots b N : Nat} {xs9 : Nat → Int32} {Q : State → Prop} (O : ab_Ok X g cL_law RL) (hI : tk_S tk_strs (xs X)) (hR : xR X = room_1) (hX : va_X b N xs9 (xs X) (xs X).heap) (hbl : b < (xs X).heap.size) (hbA : ¬ g.1 ≤ b) (hc : cells + 6 ≤ 601024) (hs : slots + 36 ≤ 7293034) {x a1 a2 a3 : Int32} (hin1 : vp_in (x + 1) N) (hin2 : vp_in (x + 2) N) (hin3 : vp_in (x + 3) N) (e1 : xs9 (Int32.toNatClampNeg (x + 1)) = a1) (e2 : xs9 (Int32.toNatClampNeg (x + 2)) = a2) (e3 : xs9 (Int32.toNatClampNeg (x + 3)) = a3) {J : Mm → Prop} {V : Mm} {o : Nat → Int64} {D : Nat → UInt64} (h : wpc_20 V o D a1 a2 a3 J) (hk : ∀ (V : Mm) (o : Nat → Int64) (D : Nat → UInt64), J V → Ab X g (cells + 6) (slots + 36) Q 3013 [some (.retAddr b), some (.ref 0), some (.ref 57), some (.ref 72), some (.ref 73), some (.int x), none, none] [] (SW V o D)) : Ab X g cells slots Q 1284 [some (.retAddr b), some (.ref 0), some (.ref 57), some (.ref 72), some (.ref 73), some (.int x), none, none] [] (SW V o D) := by
  refine ab_aload_n O 1 dL_law_1284 rfl rfl ?_
  refine ab_aload_nR O 0 dL_law_1285 rfl rfl ?_
  refine ab_iload O dL_law_1286 rfl ?_
  refine ab_iconst O 1 dL_law_1288 rfl ?_
  refine ab_iadd O dL_law_1289 ?_
  refine ab_sld O hX hbl hbA dL_law_1290 hin1 ?_
  refine ab_eq (st2 := [.int a1, .ref 0]) ?_ rfl rfl (by rw [e1]) rfl
  refine ab_aload_nR O 0 dL_law_1291 rfl rfl ?_
  refine ab_iload O dL_law_1292 rfl ?_
  refine ab_iconst O 2 dL_law_1294 rfl ?_
  refine ab_iadd O dL_law_1295 ?_
  refine ab_sld O hX hbl hbA dL_law_1296 hin2 ?_
  refine ab_eq (st2 := [.int a2, .int a1, .ref 0]) ?_ rfl rfl (by rw [e2]) rfl
  refine ab_aload_n O 3 dL_law_1297 rfl rfl ?_
  refine ab_callh O hI (st := []) ch_L_223 dL_law_1298 (c_L_isConnectedByWalk 11 (by decide) _ O.2.2.2.2.2.2.1 _ _ _ a1 a2 h) rfl rfl (by rw [hR]; exact ⟨by decide, by decide⟩) (show 0 ≤ 8 by decide) (by rw [hR]; exact ⟨show cells + 2 ≤ 601024 by omega, show slots + 12 ≤ 7293034 by omega⟩) (fun k1 u hu => ?_)
  obtain ⟨V2, o3, D4, rfl, h⟩ := hu
  refine ab_istore O dL_law_1301 (show 6 < 8 by decide) ?_
  refine ab_aload_n O 2 dL_law_1303 rfl rfl ?_
  refine ab_aload_nR O 0 dL_law_1304 rfl rfl ?_
  refine ab_iload O dL_law_1305 rfl ?_
  refine ab_iconst O 1 dL_law_1307 rfl ?_
  refine ab_iadd O dL_law_1308 ?_
  refine ab_sld O hX hbl hbA dL_law_1309 hin1 ?_
  refine ab_eq (st2 := [.int a1, .ref 57]) ?_ rfl rfl (by rw [e1]) rfl
  refine ab_aload_nR O 0 dL_law_1310 rfl rfl ?_
  refine ab_iload O dL_law_1311 rfl ?_
  refine ab_iconst O 2 dL_law_1313 rfl ?_
  refine ab_iadd O dL_law_1314 ?_
  refine ab_sld O hX hbl hbA dL_law_1315 hin2 ?_
  refine ab_eq (st2 := [.int a2, .int a1, .ref 57]) ?_ rfl rfl (by rw [e2]) rfl
  refine ab_callvI O hI (fr := False) (st := []) lk_L_225 rfl (at_57 _ _ _) dL_law_1316 (c_X9_isConnectedByWalk 11 (by decide) _ O.2.2.2.2.2.2.1 _ _ _ a1 a2 h) rfl rfl (by rw [hR]; exact ⟨by decide, by decide⟩) (show 0 ≤ 8 by decide) (by rw [hR]; exact ⟨show cells + 2 ≤ 601024 by omega, show slots + 12 ≤ 7293034 by omega⟩) (fun q => q.elim) (fun E u q => q.elim) (fun r5 u hu => ?_)
  obtain ⟨V6, rfl, h⟩ := hu
  refine ab_istore O dL_law_1319 (show 7 < 8 by decide) ?_
  refine ab_aload_n O 2 dL_law_1321 rfl rfl ?_
  refine ab_callvI O hI (fr := False) (st := []) lk_L_155 rfl (at_57 _ _ _) dL_law_1322 (c_X9_thrown 11 (by decide) _ O.2.2.2.2.2.2.1 _ _ _ h) rfl rfl (by rw [hR]; exact ⟨by decide, by decide⟩) (show 0 ≤ 8 by decide) (by rw [hR]; exact ⟨show cells + 2 ≤ 601024 by omega, show slots + 12 ≤ 7293034 by omega⟩) (fun q => q.elim) (fun E u q => q.elim) (fun r7 u hu => ?_)
  obtain ⟨V8, rfl, h⟩ := hu
  refine ab_iload O dL_law_1325 rfl ?_
  refine ab_icmp_eq O 1332 dL_law_1327 rfl (fun q9 => ?_) (fun q9 => ?_)
  · have h := h.1 q9
    refine ab_iload O dL_law_1332 rfl ?_
    refine ab_if_ne O 1356 dL_law_1334 rfl (fun q10 => ?_) (fun q10 => ?_)
    · have h := h.2 q10
      refine ab_goto O 3013 dL_law_1356 rfl ?_
      exact ab_widen (by omega) (by omega) (ab_less (hk V8 o3 D4 h) (ab_le_s (ab_le_s (ab_le_s (ab_le_s (ab_le_s (ab_le_s (ab_le_n (ab_le_n ab_le_0)))))))))
    · have h := h.1 q10
      refine ab_aload_n O 3 dL_law_1337 rfl rfl ?_
      refine ab_iconst O 0 dL_law_1338 rfl ?_
      refine ab_lald O dL_law_1339 (at_72 _ _ _) (by unfold vp_in; decide) ?_
      refine ab_eq (st2 := [.long (o3 0)]) ?_ rfl rfl rfl rfl
      refine ab_iload O dL_law_1340 rfl ?_
      refine ab_if_eq O 1349 dL_law_1342 rfl (fun q11 => ?_) (fun q11 => ?_)
      · have h := h.1 q11
        refine ab_lconst O 0 dL_law_1349 rfl ?_
        refine ab_lcmp O dL_law_1350 ?_
        refine ab_if_eq O 1356 dL_law_1351 rfl (fun q12 => ?_) (fun q12 => ?_)
        · have h := h.1 q12
          refine ab_goto O 3013 dL_law_1356 rfl ?_
          exact ab_widen (by omega) (by omega) (ab_less (hk V8 o3 D4 h) (ab_le_s (ab_le_s (ab_le_s (ab_le_s (ab_le_s (ab_le_s (ab_le_n (ab_le_n ab_le_0)))))))))
        · have h := h.2 q12
          exact h.elim
      · have h := h.2 q11
        refine ab_lconst O 1 dL_law_1345 rfl ?_
        refine ab_goto O 1350 dL_law_1346 rfl ?_
        refine ab_lcmp O dL_law_1350 ?_
        refine ab_if_eq O 1356 dL_law_1351 rfl (fun q13 => ?_) (fun q13 => ?_)
        · have h := h.1 q13
          refine ab_goto O 3013 dL_law_1356 rfl ?_
          exact ab_widen (by omega) (by omega) (ab_less (hk V8 o3 D4 h) (ab_le_s (ab_le_s (ab_le_s (ab_le_s (ab_le_s (ab_le_s (ab_le_n (ab_le_n ab_le_0)))))))))
        · have h := h.2 q13
          exact h.elim
  · have h := h.2 q9
    exact h.elim

def wpc_21 (V : Mm) (o : Nat → Int64) (D : Nat → UInt64) (a1 a2 a3 : Int32) (J : Mm → Prop) : Prop := (wp_L_replacement V a1 o D (fun (k1 : Int32) (V2 : Mm) (o3 : Nat → Int64) (D4 : Nat → UInt64) => (wp_X9_replacement V2 a1 (fun (r5 : Int32) (V6 : Mm) => (wp_X9_thrown V6 (fun (r7 : Int32) (V8 : Mm) => ((r7 = k1 → ((k1 = 0 → (((lg_cmp ((o3 0)) ((r5).toInt64)) = 0 → J V8) ∧ (¬ (lg_cmp ((o3 0)) ((r5).toInt64)) = 0 → False))) ∧ (¬ k1 = 0 → J V8))) ∧ (¬ r7 = k1 → False))))))))
set_option maxHeartbeats 4000000 in
theorem cc_21 {X : ab_M} {g : ab_G} {cells slots b N : Nat} {xs9 : Nat → Int32} {Q : State → Prop} (O : ab_Ok X g cL_law RL) (hI : tk_S tk_strs (xs X)) (hR : xR X = room_1) (hX : va_X b N xs9 (xs X) (xs X).heap) (hbl : b < (xs X).heap.size) (hbA : ¬ g.1 ≤ b) (hc : cells + 6 ≤ 601024) (hs : slots + 36 ≤ 7293034) {x a1 a2 a3 : Int32} (hin1 : vp_in (x + 1) N) (hin2 : vp_in (x + 2) N) (hin3 : vp_in (x + 3) N) (e1 : xs9 (Int32.toNatClampNeg (x + 1)) = a1) (e2 : xs9 (Int32.toNatClampNeg (x + 2)) = a2) (e3 : xs9 (Int32.toNatClampNeg (x + 3)) = a3) {J : Mm → Prop} {V : Mm} {o : Nat → Int64} {D : Nat → UInt64} (h : wpc_21 V o D a1 a2 a3 J) (hk : ∀ (V : Mm) (o : Nat → Int64) (D : Nat → UInt64), J V → Ab X g (cells + 6) (slots + 36) Q 3013 [some (.retAddr b), some (.ref 0), some (.ref 57), some (.ref 72), some (.ref 73), some (.int x), none, none] [] (SW V o D)) : Ab X g cells slots Q 1359 [some (.retAddr b), some (.ref 0), some (.ref 57), some (.ref 72), some (.ref 73), some (.int x), none, none] [] (SW V o D) := by
  refine ab_aload_n O 1 dL_law_1359 rfl rfl ?_
  refine ab_aload_nR O 0 dL_law_1360 rfl rfl ?_
  refine ab_iload O dL_law_1361 rfl ?_
  refine ab_iconst O 1 dL_law_1363 rfl ?_
  refine ab_iadd O dL_law_1364 ?_
  refine ab_sld O hX hbl hbA dL_law_1365 hin1 ?_
  refine ab_eq (st2 := [.int a1, .ref 0]) ?_ rfl rfl (by rw [e1]) rfl
  refine ab_aload_n O 3 dL_law_1366 rfl rfl ?_
  refine ab_callh O hI (st := []) ch_L_226 dL_law_1367 (c_L_replacement 11 (by decide) _ O.2.2.2.2.2.2.1 _ _ _ a1 h) rfl rfl (by rw [hR]; exact ⟨by decide, by decide⟩) (show 0 ≤ 8 by decide) (by rw [hR]; exact ⟨show cells + 3 ≤ 601024 by omega, show slots + 18 ≤ 7293034 by omega⟩) (fun k1 u hu => ?_)
  obtain ⟨V2, o3, D4, rfl, h⟩ := hu
  refine ab_istore O dL_law_1370 (show 6 < 8 by decide) ?_
  refine ab_aload_n O 2 dL_law_1372 rfl rfl ?_
  refine ab_aload_nR O 0 dL_law_1373 rfl rfl ?_
  refine ab_iload O dL_law_1374 rfl ?_
  refine ab_iconst O 1 dL_law_1376 rfl ?_
  refine ab_iadd O dL_law_1377 ?_
  refine ab_sld O hX hbl hbA dL_law_1378 hin1 ?_
  refine ab_eq (st2 := [.int a1, .ref 57]) ?_ rfl rfl (by rw [e1]) rfl
  refine ab_callvI O hI (fr := False) (st := []) lk_L_228 rfl (at_57 _ _ _) dL_law_1379 (c_X9_replacement 11 (by decide) _ O.2.2.2.2.2.2.1 _ _ _ a1 h) rfl rfl (by rw [hR]; exact ⟨by decide, by decide⟩) (show 0 ≤ 8 by decide) (by rw [hR]; exact ⟨show cells + 3 ≤ 601024 by omega, show slots + 18 ≤ 7293034 by omega⟩) (fun q => q.elim) (fun E u q => q.elim) (fun r5 u hu => ?_)
  obtain ⟨V6, rfl, h⟩ := hu
  refine ab_istore O dL_law_1382 (show 7 < 8 by decide) ?_
  refine ab_aload_n O 2 dL_law_1384 rfl rfl ?_
  refine ab_callvI O hI (fr := False) (st := []) lk_L_155 rfl (at_57 _ _ _) dL_law_1385 (c_X9_thrown 11 (by decide) _ O.2.2.2.2.2.2.1 _ _ _ h) rfl rfl (by rw [hR]; exact ⟨by decide, by decide⟩) (show 0 ≤ 8 by decide) (by rw [hR]; exact ⟨show cells + 3 ≤ 601024 by omega, show slots + 18 ≤ 7293034 by omega⟩) (fun q => q.elim) (fun E u q => q.elim) (fun r7 u hu => ?_)
  obtain ⟨V8, rfl, h⟩ := hu
  refine ab_iload O dL_law_1388 rfl ?_
  refine ab_icmp_eq O 1395 dL_law_1390 rfl (fun q9 => ?_) (fun q9 => ?_)
  · have h := h.1 q9
    refine ab_iload O dL_law_1395 rfl ?_
    refine ab_if_ne O 1412 dL_law_1397 rfl (fun q10 => ?_) (fun q10 => ?_)
    · have h := h.2 q10
      refine ab_goto O 3013 dL_law_1412 rfl ?_
      exact ab_widen (by omega) (by omega) (ab_less (hk V8 o3 D4 h) (ab_le_s (ab_le_s (ab_le_s (ab_le_s (ab_le_s (ab_le_s (ab_le_n (ab_le_n ab_le_0)))))))))
    · have h := h.1 q10
      refine ab_aload_n O 3 dL_law_1400 rfl rfl ?_
      refine ab_iconst O 0 dL_law_1401 rfl ?_
      refine ab_lald O dL_law_1402 (at_72 _ _ _) (by unfold vp_in; decide) ?_
      refine ab_eq (st2 := [.long (o3 0)]) ?_ rfl rfl rfl rfl
      refine ab_iload O dL_law_1403 rfl ?_
      refine ab_i2l O dL_law_1405 ?_
      refine ab_lcmp O dL_law_1406 ?_
      refine ab_if_eq O 1412 dL_law_1407 rfl (fun q11 => ?_) (fun q11 => ?_)
      · have h := h.1 q11
        refine ab_goto O 3013 dL_law_1412 rfl ?_
        exact ab_widen (by omega) (by omega) (ab_less (hk V8 o3 D4 h) (ab_le_s (ab_le_s (ab_le_s (ab_le_s (ab_le_s (ab_le_s (ab_le_n (ab_le_n ab_le_0)))))))))
      · have h := h.2 q11
        exact h.elim
  · have h := h.2 q9
    exact h.elim

def wpc_22 (V : Mm) (o : Nat → Int64) (D : Nat → UInt64) (a1 a2 a3 : Int32) (J : Mm → Prop) : Prop := (wp_L_replacementAnew V a1 o D (fun (k1 : Int32) (V2 : Mm) (o3 : Nat → Int64) (D4 : Nat → UInt64) => (wp_X9_replacementAnew V2 a1 (fun (r5 : Int32) (V6 : Mm) => (wp_X9_thrown V6 (fun (r7 : Int32) (V8 : Mm) => ((r7 = k1 → ((k1 = 0 → (((lg_cmp ((o3 0)) ((r5).toInt64)) = 0 → J V8) ∧ (¬ (lg_cmp ((o3 0)) ((r5).toInt64)) = 0 → False))) ∧ (¬ k1 = 0 → J V8))) ∧ (¬ r7 = k1 → False))))))))
set_option maxHeartbeats 4000000 in
theorem cc_22 {X : ab_M} {g : ab_G} {cells slots b N : Nat} {xs9 : Nat → Int32} {Q : State → Prop} (O : ab_Ok X g cL_law RL) (hI : tk_S tk_strs (xs X)) (hR : xR X = room_1) (hX : va_X b N xs9 (xs X) (xs X).heap) (hbl : b < (xs X).heap.size) (hbA : ¬ g.1 ≤ b) (hc : cells + 6 ≤ 601024) (hs : slots + 36 ≤ 7293034) {x a1 a2 a3 : Int32} (hin1 : vp_in (x + 1) N) (hin2 : vp_in (x + 2) N) (hin3 : vp_in (x + 3) N) (e1 : xs9 (Int32.toNatClampNeg (x + 1)) = a1) (e2 : xs9 (Int32.toNatClampNeg (x + 2)) = a2) (e3 : xs9 (Int32.toNatClampNeg (x + 3)) = a3) {J : Mm → Prop} {V : Mm} {o : Nat → Int64} {D : Nat → UInt64} (h : wpc_22 V o D a1 a2 a3 J) (hk : ∀ (V : Mm) (o : Nat → Int64) (D : Nat → UInt64), J V → Ab X g (cells + 6) (slots + 36) Q 3013 [some (.retAddr b), some (.ref 0), some (.ref 57), some (.ref 72), some (.ref 73), some (.int x), none, none] [] (SW V o D)) : Ab X g cells slots Q 1415 [some (.retAddr b), some (.ref 0), some (.ref 57), some (.ref 72), some (.ref 73), some (.int x), none, none] [] (SW V o D) := by
  refine ab_aload_n O 1 dL_law_1415 rfl rfl ?_
  refine ab_aload_nR O 0 dL_law_1416 rfl rfl ?_
  refine ab_iload O dL_law_1417 rfl ?_
  refine ab_iconst O 1 dL_law_1419 rfl ?_
  refine ab_iadd O dL_law_1420 ?_
  refine ab_sld O hX hbl hbA dL_law_1421 hin1 ?_
  refine ab_eq (st2 := [.int a1, .ref 0]) ?_ rfl rfl (by rw [e1]) rfl
  refine ab_aload_n O 3 dL_law_1422 rfl rfl ?_
  refine ab_callh O hI (st := []) ch_L_229 dL_law_1423 (c_L_replacementAnew 11 (by decide) _ O.2.2.2.2.2.2.1 _ _ _ a1 h) rfl rfl (by rw [hR]; exact ⟨by decide, by decide⟩) (show 0 ≤ 8 by decide) (by rw [hR]; exact ⟨show cells + 3 ≤ 601024 by omega, show slots + 18 ≤ 7293034 by omega⟩) (fun k1 u hu => ?_)
  obtain ⟨V2, o3, D4, rfl, h⟩ := hu
  refine ab_istore O dL_law_1426 (show 6 < 8 by decide) ?_
  refine ab_aload_n O 2 dL_law_1428 rfl rfl ?_
  refine ab_aload_nR O 0 dL_law_1429 rfl rfl ?_
  refine ab_iload O dL_law_1430 rfl ?_
  refine ab_iconst O 1 dL_law_1432 rfl ?_
  refine ab_iadd O dL_law_1433 ?_
  refine ab_sld O hX hbl hbA dL_law_1434 hin1 ?_
  refine ab_eq (st2 := [.int a1, .ref 57]) ?_ rfl rfl (by rw [e1]) rfl
  refine ab_callvI O hI (fr := False) (st := []) lk_L_231 rfl (at_57 _ _ _) dL_law_1435 (c_X9_replacementAnew 11 (by decide) _ O.2.2.2.2.2.2.1 _ _ _ a1 h) rfl rfl (by rw [hR]; exact ⟨by decide, by decide⟩) (show 0 ≤ 8 by decide) (by rw [hR]; exact ⟨show cells + 3 ≤ 601024 by omega, show slots + 18 ≤ 7293034 by omega⟩) (fun q => q.elim) (fun E u q => q.elim) (fun r5 u hu => ?_)
  obtain ⟨V6, rfl, h⟩ := hu
  refine ab_istore O dL_law_1438 (show 7 < 8 by decide) ?_
  refine ab_aload_n O 2 dL_law_1440 rfl rfl ?_
  refine ab_callvI O hI (fr := False) (st := []) lk_L_155 rfl (at_57 _ _ _) dL_law_1441 (c_X9_thrown 11 (by decide) _ O.2.2.2.2.2.2.1 _ _ _ h) rfl rfl (by rw [hR]; exact ⟨by decide, by decide⟩) (show 0 ≤ 8 by decide) (by rw [hR]; exact ⟨show cells + 3 ≤ 601024 by omega, show slots + 18 ≤ 7293034 by omega⟩) (fun q => q.elim) (fun E u q => q.elim) (fun r7 u hu => ?_)
  obtain ⟨V8, rfl, h⟩ := hu
  refine ab_iload O dL_law_1444 rfl ?_
  refine ab_icmp_eq O 1451 dL_law_1446 rfl (fun q9 => ?_) (fun q9 => ?_)
  · have h := h.1 q9
    refine ab_iload O dL_law_1451 rfl ?_
    refine ab_if_ne O 1468 dL_law_1453 rfl (fun q10 => ?_) (fun q10 => ?_)
    · have h := h.2 q10
      refine ab_goto O 3013 dL_law_1468 rfl ?_
      exact ab_widen (by omega) (by omega) (ab_less (hk V8 o3 D4 h) (ab_le_s (ab_le_s (ab_le_s (ab_le_s (ab_le_s (ab_le_s (ab_le_n (ab_le_n ab_le_0)))))))))
    · have h := h.1 q10
      refine ab_aload_n O 3 dL_law_1456 rfl rfl ?_
      refine ab_iconst O 0 dL_law_1457 rfl ?_
      refine ab_lald O dL_law_1458 (at_72 _ _ _) (by unfold vp_in; decide) ?_
      refine ab_eq (st2 := [.long (o3 0)]) ?_ rfl rfl rfl rfl
      refine ab_iload O dL_law_1459 rfl ?_
      refine ab_i2l O dL_law_1461 ?_
      refine ab_lcmp O dL_law_1462 ?_
      refine ab_if_eq O 1468 dL_law_1463 rfl (fun q11 => ?_) (fun q11 => ?_)
      · have h := h.1 q11
        refine ab_goto O 3013 dL_law_1468 rfl ?_
        exact ab_widen (by omega) (by omega) (ab_less (hk V8 o3 D4 h) (ab_le_s (ab_le_s (ab_le_s (ab_le_s (ab_le_s (ab_le_s (ab_le_n (ab_le_n ab_le_0)))))))))
      · have h := h.2 q11
        exact h.elim
  · have h := h.2 q9
    exact h.elim

def wpc_23 (V : Mm) (o : Nat → Int64) (D : Nat → UInt64) (a1 a2 a3 : Int32) (J : Mm → Prop) : Prop := (wp_L_pathVertices V a1 a2 o D (fun (k1 : Int32) (V2 : Mm) (o3 : Nat → Int64) (D4 : Nat → UInt64) => (wp_X9_pathVertices V2 a1 a2 (fun (r5 : Int32) (V6 : Mm) => (wp_X9_thrown V6 (fun (r7 : Int32) (V8 : Mm) => ((r7 = k1 → ((k1 = 0 → (((lg_cmp ((o3 0)) ((r5).toInt64)) = 0 → J V8) ∧ (¬ (lg_cmp ((o3 0)) ((r5).toInt64)) = 0 → False))) ∧ (¬ k1 = 0 → J V8))) ∧ (¬ r7 = k1 → False))))))))
set_option maxHeartbeats 4000000 in
theorem cc_23 {X : ab_M} {g : ab_G} {cells slots b N : Nat} {xs9 : Nat → Int32} {Q : State → Prop} (O : ab_Ok X g cL_law RL) (hI : tk_S tk_strs (xs X)) (hR : xR X = room_1) (hX : va_X b N xs9 (xs X) (xs X).heap) (hbl : b < (xs X).heap.size) (hbA : ¬ g.1 ≤ b) (hc : cells + 6 ≤ 601024) (hs : slots + 36 ≤ 7293034) {x a1 a2 a3 : Int32} (hin1 : vp_in (x + 1) N) (hin2 : vp_in (x + 2) N) (hin3 : vp_in (x + 3) N) (e1 : xs9 (Int32.toNatClampNeg (x + 1)) = a1) (e2 : xs9 (Int32.toNatClampNeg (x + 2)) = a2) (e3 : xs9 (Int32.toNatClampNeg (x + 3)) = a3) {J : Mm → Prop} {V : Mm} {o : Nat → Int64} {D : Nat → UInt64} (h : wpc_23 V o D a1 a2 a3 J) (hk : ∀ (V : Mm) (o : Nat → Int64) (D : Nat → UInt64), J V → Ab X g (cells + 6) (slots + 36) Q 3013 [some (.retAddr b), some (.ref 0), some (.ref 57), some (.ref 72), some (.ref 73), some (.int x), none, none] [] (SW V o D)) : Ab X g cells slots Q 1471 [some (.retAddr b), some (.ref 0), some (.ref 57), some (.ref 72), some (.ref 73), some (.int x), none, none] [] (SW V o D) := by
  refine ab_aload_n O 1 dL_law_1471 rfl rfl ?_
  refine ab_aload_nR O 0 dL_law_1472 rfl rfl ?_
  refine ab_iload O dL_law_1473 rfl ?_
  refine ab_iconst O 1 dL_law_1475 rfl ?_
  refine ab_iadd O dL_law_1476 ?_
  refine ab_sld O hX hbl hbA dL_law_1477 hin1 ?_
  refine ab_eq (st2 := [.int a1, .ref 0]) ?_ rfl rfl (by rw [e1]) rfl
  refine ab_aload_nR O 0 dL_law_1478 rfl rfl ?_
  refine ab_iload O dL_law_1479 rfl ?_
  refine ab_iconst O 2 dL_law_1481 rfl ?_
  refine ab_iadd O dL_law_1482 ?_
  refine ab_sld O hX hbl hbA dL_law_1483 hin2 ?_
  refine ab_eq (st2 := [.int a2, .int a1, .ref 0]) ?_ rfl rfl (by rw [e2]) rfl
  refine ab_aload_n O 3 dL_law_1484 rfl rfl ?_
  refine ab_callh O hI (st := []) ch_L_232 dL_law_1485 (c_L_pathVertices 11 (by decide) _ O.2.2.2.2.2.2.1 _ _ _ a1 a2 h) rfl rfl (by rw [hR]; exact ⟨by decide, by decide⟩) (show 0 ≤ 8 by decide) (by rw [hR]; exact ⟨show cells + 3 ≤ 601024 by omega, show slots + 18 ≤ 7293034 by omega⟩) (fun k1 u hu => ?_)
  obtain ⟨V2, o3, D4, rfl, h⟩ := hu
  refine ab_istore O dL_law_1488 (show 6 < 8 by decide) ?_
  refine ab_aload_n O 2 dL_law_1490 rfl rfl ?_
  refine ab_aload_nR O 0 dL_law_1491 rfl rfl ?_
  refine ab_iload O dL_law_1492 rfl ?_
  refine ab_iconst O 1 dL_law_1494 rfl ?_
  refine ab_iadd O dL_law_1495 ?_
  refine ab_sld O hX hbl hbA dL_law_1496 hin1 ?_
  refine ab_eq (st2 := [.int a1, .ref 57]) ?_ rfl rfl (by rw [e1]) rfl
  refine ab_aload_nR O 0 dL_law_1497 rfl rfl ?_
  refine ab_iload O dL_law_1498 rfl ?_
  refine ab_iconst O 2 dL_law_1500 rfl ?_
  refine ab_iadd O dL_law_1501 ?_
  refine ab_sld O hX hbl hbA dL_law_1502 hin2 ?_
  refine ab_eq (st2 := [.int a2, .int a1, .ref 57]) ?_ rfl rfl (by rw [e2]) rfl
  refine ab_callvI O hI (fr := False) (st := []) lk_L_234 rfl (at_57 _ _ _) dL_law_1503 (c_X9_pathVertices 11 (by decide) _ O.2.2.2.2.2.2.1 _ _ _ a1 a2 h) rfl rfl (by rw [hR]; exact ⟨by decide, by decide⟩) (show 0 ≤ 8 by decide) (by rw [hR]; exact ⟨show cells + 3 ≤ 601024 by omega, show slots + 18 ≤ 7293034 by omega⟩) (fun q => q.elim) (fun E u q => q.elim) (fun r5 u hu => ?_)
  obtain ⟨V6, rfl, h⟩ := hu
  refine ab_istore O dL_law_1506 (show 7 < 8 by decide) ?_
  refine ab_aload_n O 2 dL_law_1508 rfl rfl ?_
  refine ab_callvI O hI (fr := False) (st := []) lk_L_155 rfl (at_57 _ _ _) dL_law_1509 (c_X9_thrown 11 (by decide) _ O.2.2.2.2.2.2.1 _ _ _ h) rfl rfl (by rw [hR]; exact ⟨by decide, by decide⟩) (show 0 ≤ 8 by decide) (by rw [hR]; exact ⟨show cells + 3 ≤ 601024 by omega, show slots + 18 ≤ 7293034 by omega⟩) (fun q => q.elim) (fun E u q => q.elim) (fun r7 u hu => ?_)
  obtain ⟨V8, rfl, h⟩ := hu
  refine ab_iload O dL_law_1512 rfl ?_
  refine ab_icmp_eq O 1519 dL_law_1514 rfl (fun q9 => ?_) (fun q9 => ?_)
  · have h := h.1 q9
    refine ab_iload O dL_law_1519 rfl ?_
    refine ab_if_ne O 1536 dL_law_1521 rfl (fun q10 => ?_) (fun q10 => ?_)
    · have h := h.2 q10
      refine ab_goto O 3013 dL_law_1536 rfl ?_
      exact ab_widen (by omega) (by omega) (ab_less (hk V8 o3 D4 h) (ab_le_s (ab_le_s (ab_le_s (ab_le_s (ab_le_s (ab_le_s (ab_le_n (ab_le_n ab_le_0)))))))))
    · have h := h.1 q10
      refine ab_aload_n O 3 dL_law_1524 rfl rfl ?_
      refine ab_iconst O 0 dL_law_1525 rfl ?_
      refine ab_lald O dL_law_1526 (at_72 _ _ _) (by unfold vp_in; decide) ?_
      refine ab_eq (st2 := [.long (o3 0)]) ?_ rfl rfl rfl rfl
      refine ab_iload O dL_law_1527 rfl ?_
      refine ab_i2l O dL_law_1529 ?_
      refine ab_lcmp O dL_law_1530 ?_
      refine ab_if_eq O 1536 dL_law_1531 rfl (fun q11 => ?_) (fun q11 => ?_)
      · have h := h.1 q11
        refine ab_goto O 3013 dL_law_1536 rfl ?_
        exact ab_widen (by omega) (by omega) (ab_less (hk V8 o3 D4 h) (ab_le_s (ab_le_s (ab_le_s (ab_le_s (ab_le_s (ab_le_s (ab_le_n (ab_le_n ab_le_0)))))))))
      · have h := h.2 q11
        exact h.elim
  · have h := h.2 q9
    exact h.elim

def wpc_24 (V : Mm) (o : Nat → Int64) (D : Nat → UInt64) (a1 a2 a3 : Int32) (J : Mm → Prop) : Prop := (wp_L_pathVertex V a1 a2 a3 o D (fun (k1 : Int32) (V2 : Mm) (o3 : Nat → Int64) (D4 : Nat → UInt64) => (wp_X9_pathVertex V2 a1 a2 a3 (fun (r5 : Int32) (V6 : Mm) => (wp_X9_thrown V6 (fun (r7 : Int32) (V8 : Mm) => ((r7 = k1 → ((k1 = 0 → (((lg_cmp ((o3 0)) ((r5).toInt64)) = 0 → J V8) ∧ (¬ (lg_cmp ((o3 0)) ((r5).toInt64)) = 0 → False))) ∧ (¬ k1 = 0 → J V8))) ∧ (¬ r7 = k1 → False))))))))
set_option maxHeartbeats 4000000 in
theorem cc_24 {X : ab_M} {g : ab_G} {cells slots b N : Nat} {xs9 : Nat → Int32} {Q : State → Prop} (O : ab_Ok X g cL_law RL) (hI : tk_S tk_strs (xs X)) (hR : xR X = room_1) (hX : va_X b N xs9 (xs X) (xs X).heap) (hbl : b < (xs X).heap.size) (hbA : ¬ g.1 ≤ b) (hc : cells + 6 ≤ 601024) (hs : slots + 36 ≤ 7293034) {x a1 a2 a3 : Int32} (hin1 : vp_in (x + 1) N) (hin2 : vp_in (x + 2) N) (hin3 : vp_in (x + 3) N) (e1 : xs9 (Int32.toNatClampNeg (x + 1)) = a1) (e2 : xs9 (Int32.toNatClampNeg (x + 2)) = a2) (e3 : xs9 (Int32.toNatClampNeg (x + 3)) = a3) {J : Mm → Prop} {V : Mm} {o : Nat → Int64} {D : Nat → UInt64} (h : wpc_24 V o D a1 a2 a3 J) (hk : ∀ (V : Mm) (o : Nat → Int64) (D : Nat → UInt64), J V → Ab X g (cells + 6) (slots + 36) Q 3013 [some (.retAddr b), some (.ref 0), some (.ref 57), some (.ref 72), some (.ref 73), some (.int x), none, none] [] (SW V o D)) : Ab X g cells slots Q 1539 [some (.retAddr b), some (.ref 0), some (.ref 57), some (.ref 72), some (.ref 73), some (.int x), none, none] [] (SW V o D) := by
  refine ab_aload_n O 1 dL_law_1539 rfl rfl ?_
  refine ab_aload_nR O 0 dL_law_1540 rfl rfl ?_
  refine ab_iload O dL_law_1541 rfl ?_
  refine ab_iconst O 1 dL_law_1543 rfl ?_
  refine ab_iadd O dL_law_1544 ?_
  refine ab_sld O hX hbl hbA dL_law_1545 hin1 ?_
  refine ab_eq (st2 := [.int a1, .ref 0]) ?_ rfl rfl (by rw [e1]) rfl
  refine ab_aload_nR O 0 dL_law_1546 rfl rfl ?_
  refine ab_iload O dL_law_1547 rfl ?_
  refine ab_iconst O 2 dL_law_1549 rfl ?_
  refine ab_iadd O dL_law_1550 ?_
  refine ab_sld O hX hbl hbA dL_law_1551 hin2 ?_
  refine ab_eq (st2 := [.int a2, .int a1, .ref 0]) ?_ rfl rfl (by rw [e2]) rfl
  refine ab_aload_nR O 0 dL_law_1552 rfl rfl ?_
  refine ab_iload O dL_law_1553 rfl ?_
  refine ab_iconst O 3 dL_law_1555 rfl ?_
  refine ab_iadd O dL_law_1556 ?_
  refine ab_sld O hX hbl hbA dL_law_1557 hin3 ?_
  refine ab_eq (st2 := [.int a3, .int a2, .int a1, .ref 0]) ?_ rfl rfl (by rw [e3]) rfl
  refine ab_aload_n O 3 dL_law_1558 rfl rfl ?_
  refine ab_callh O hI (st := []) ch_L_235 dL_law_1559 (c_L_pathVertex 11 (by decide) _ O.2.2.2.2.2.2.1 _ _ _ a1 a2 a3 h) rfl rfl (by rw [hR]; exact ⟨by decide, by decide⟩) (show 0 ≤ 8 by decide) (by rw [hR]; exact ⟨show cells + 4 ≤ 601024 by omega, show slots + 24 ≤ 7293034 by omega⟩) (fun k1 u hu => ?_)
  obtain ⟨V2, o3, D4, rfl, h⟩ := hu
  refine ab_istore O dL_law_1562 (show 6 < 8 by decide) ?_
  refine ab_aload_n O 2 dL_law_1564 rfl rfl ?_
  refine ab_aload_nR O 0 dL_law_1565 rfl rfl ?_
  refine ab_iload O dL_law_1566 rfl ?_
  refine ab_iconst O 1 dL_law_1568 rfl ?_
  refine ab_iadd O dL_law_1569 ?_
  refine ab_sld O hX hbl hbA dL_law_1570 hin1 ?_
  refine ab_eq (st2 := [.int a1, .ref 57]) ?_ rfl rfl (by rw [e1]) rfl
  refine ab_aload_nR O 0 dL_law_1571 rfl rfl ?_
  refine ab_iload O dL_law_1572 rfl ?_
  refine ab_iconst O 2 dL_law_1574 rfl ?_
  refine ab_iadd O dL_law_1575 ?_
  refine ab_sld O hX hbl hbA dL_law_1576 hin2 ?_
  refine ab_eq (st2 := [.int a2, .int a1, .ref 57]) ?_ rfl rfl (by rw [e2]) rfl
  refine ab_aload_nR O 0 dL_law_1577 rfl rfl ?_
  refine ab_iload O dL_law_1578 rfl ?_
  refine ab_iconst O 3 dL_law_1580 rfl ?_
  refine ab_iadd O dL_law_1581 ?_
  refine ab_sld O hX hbl hbA dL_law_1582 hin3 ?_
  refine ab_eq (st2 := [.int a3, .int a2, .int a1, .ref 57]) ?_ rfl rfl (by rw [e3]) rfl
  refine ab_callvI O hI (fr := False) (st := []) lk_L_237 rfl (at_57 _ _ _) dL_law_1583 (c_X9_pathVertex 11 (by decide) _ O.2.2.2.2.2.2.1 _ _ _ a1 a2 a3 h) rfl rfl (by rw [hR]; exact ⟨by decide, by decide⟩) (show 0 ≤ 8 by decide) (by rw [hR]; exact ⟨show cells + 4 ≤ 601024 by omega, show slots + 24 ≤ 7293034 by omega⟩) (fun q => q.elim) (fun E u q => q.elim) (fun r5 u hu => ?_)
  obtain ⟨V6, rfl, h⟩ := hu
  refine ab_istore O dL_law_1586 (show 7 < 8 by decide) ?_
  refine ab_aload_n O 2 dL_law_1588 rfl rfl ?_
  refine ab_callvI O hI (fr := False) (st := []) lk_L_155 rfl (at_57 _ _ _) dL_law_1589 (c_X9_thrown 11 (by decide) _ O.2.2.2.2.2.2.1 _ _ _ h) rfl rfl (by rw [hR]; exact ⟨by decide, by decide⟩) (show 0 ≤ 8 by decide) (by rw [hR]; exact ⟨show cells + 4 ≤ 601024 by omega, show slots + 24 ≤ 7293034 by omega⟩) (fun q => q.elim) (fun E u q => q.elim) (fun r7 u hu => ?_)
  obtain ⟨V8, rfl, h⟩ := hu
  refine ab_iload O dL_law_1592 rfl ?_
  refine ab_icmp_eq O 1599 dL_law_1594 rfl (fun q9 => ?_) (fun q9 => ?_)
  · have h := h.1 q9
    refine ab_iload O dL_law_1599 rfl ?_
    refine ab_if_ne O 1616 dL_law_1601 rfl (fun q10 => ?_) (fun q10 => ?_)
    · have h := h.2 q10
      refine ab_goto O 3013 dL_law_1616 rfl ?_
      exact ab_widen (by omega) (by omega) (ab_less (hk V8 o3 D4 h) (ab_le_s (ab_le_s (ab_le_s (ab_le_s (ab_le_s (ab_le_s (ab_le_n (ab_le_n ab_le_0)))))))))
    · have h := h.1 q10
      refine ab_aload_n O 3 dL_law_1604 rfl rfl ?_
      refine ab_iconst O 0 dL_law_1605 rfl ?_
      refine ab_lald O dL_law_1606 (at_72 _ _ _) (by unfold vp_in; decide) ?_
      refine ab_eq (st2 := [.long (o3 0)]) ?_ rfl rfl rfl rfl
      refine ab_iload O dL_law_1607 rfl ?_
      refine ab_i2l O dL_law_1609 ?_
      refine ab_lcmp O dL_law_1610 ?_
      refine ab_if_eq O 1616 dL_law_1611 rfl (fun q11 => ?_) (fun q11 => ?_)
      · have h := h.1 q11
        refine ab_goto O 3013 dL_law_1616 rfl ?_
        exact ab_widen (by omega) (by omega) (ab_less (hk V8 o3 D4 h) (ab_le_s (ab_le_s (ab_le_s (ab_le_s (ab_le_s (ab_le_s (ab_le_n (ab_le_n ab_le_0)))))))))
      · have h := h.2 q11
        exact h.elim
  · have h := h.2 q9
    exact h.elim

def wpc_25 (V : Mm) (o : Nat → Int64) (D : Nat → UInt64) (a1 a2 a3 : Int32) (J : Mm → Prop) : Prop := (wp_L_pathSum V a1 a2 o D (fun (k1 : Int32) (V2 : Mm) (o3 : Nat → Int64) (D4 : Nat → UInt64) => (wp_X9_pathSum V2 a1 a2 (fun (r5 : Int32) (V6 : Mm) => (wp_X9_thrown V6 (fun (r7 : Int32) (V8 : Mm) => ((r7 = k1 → ((k1 = 0 → (((lg_cmp ((o3 0)) ((r5).toInt64)) = 0 → J V8) ∧ (¬ (lg_cmp ((o3 0)) ((r5).toInt64)) = 0 → False))) ∧ (¬ k1 = 0 → J V8))) ∧ (¬ r7 = k1 → False))))))))
set_option maxHeartbeats 4000000 in
theorem cc_25 {X : ab_M} {g : ab_G} {cells slots b N : Nat} {xs9 : Nat → Int32} {Q : State → Prop} (O : ab_Ok X g cL_law RL) (hI : tk_S tk_strs (xs X)) (hR : xR X = room_1) (hX : va_X b N xs9 (xs X) (xs X).heap) (hbl : b < (xs X).heap.size) (hbA : ¬ g.1 ≤ b) (hc : cells + 6 ≤ 601024) (hs : slots + 36 ≤ 7293034) {x a1 a2 a3 : Int32} (hin1 : vp_in (x + 1) N) (hin2 : vp_in (x + 2) N) (hin3 : vp_in (x + 3) N) (e1 : xs9 (Int32.toNatClampNeg (x + 1)) = a1) (e2 : xs9 (Int32.toNatClampNeg (x + 2)) = a2) (e3 : xs9 (Int32.toNatClampNeg (x + 3)) = a3) {J : Mm → Prop} {V : Mm} {o : Nat → Int64} {D : Nat → UInt64} (h : wpc_25 V o D a1 a2 a3 J) (hk : ∀ (V : Mm) (o : Nat → Int64) (D : Nat → UInt64), J V → Ab X g (cells + 6) (slots + 36) Q 3013 [some (.retAddr b), some (.ref 0), some (.ref 57), some (.ref 72), some (.ref 73), some (.int x), none, none] [] (SW V o D)) : Ab X g cells slots Q 1619 [some (.retAddr b), some (.ref 0), some (.ref 57), some (.ref 72), some (.ref 73), some (.int x), none, none] [] (SW V o D) := by
  refine ab_aload_n O 1 dL_law_1619 rfl rfl ?_
  refine ab_aload_nR O 0 dL_law_1620 rfl rfl ?_
  refine ab_iload O dL_law_1621 rfl ?_
  refine ab_iconst O 1 dL_law_1623 rfl ?_
  refine ab_iadd O dL_law_1624 ?_
  refine ab_sld O hX hbl hbA dL_law_1625 hin1 ?_
  refine ab_eq (st2 := [.int a1, .ref 0]) ?_ rfl rfl (by rw [e1]) rfl
  refine ab_aload_nR O 0 dL_law_1626 rfl rfl ?_
  refine ab_iload O dL_law_1627 rfl ?_
  refine ab_iconst O 2 dL_law_1629 rfl ?_
  refine ab_iadd O dL_law_1630 ?_
  refine ab_sld O hX hbl hbA dL_law_1631 hin2 ?_
  refine ab_eq (st2 := [.int a2, .int a1, .ref 0]) ?_ rfl rfl (by rw [e2]) rfl
  refine ab_aload_n O 3 dL_law_1632 rfl rfl ?_
  refine ab_callh O hI (st := []) ch_L_238 dL_law_1633 (c_L_pathSum 11 (by decide) _ O.2.2.2.2.2.2.1 _ _ _ a1 a2 h) rfl rfl (by rw [hR]; exact ⟨by decide, by decide⟩) (show 0 ≤ 8 by decide) (by rw [hR]; exact ⟨show cells + 3 ≤ 601024 by omega, show slots + 18 ≤ 7293034 by omega⟩) (fun k1 u hu => ?_)
  obtain ⟨V2, o3, D4, rfl, h⟩ := hu
  refine ab_istore O dL_law_1636 (show 6 < 8 by decide) ?_
  refine ab_aload_n O 2 dL_law_1638 rfl rfl ?_
  refine ab_aload_nR O 0 dL_law_1639 rfl rfl ?_
  refine ab_iload O dL_law_1640 rfl ?_
  refine ab_iconst O 1 dL_law_1642 rfl ?_
  refine ab_iadd O dL_law_1643 ?_
  refine ab_sld O hX hbl hbA dL_law_1644 hin1 ?_
  refine ab_eq (st2 := [.int a1, .ref 57]) ?_ rfl rfl (by rw [e1]) rfl
  refine ab_aload_nR O 0 dL_law_1645 rfl rfl ?_
  refine ab_iload O dL_law_1646 rfl ?_
  refine ab_iconst O 2 dL_law_1648 rfl ?_
  refine ab_iadd O dL_law_1649 ?_
  refine ab_sld O hX hbl hbA dL_law_1650 hin2 ?_
  refine ab_eq (st2 := [.int a2, .int a1, .ref 57]) ?_ rfl rfl (by rw [e2]) rfl
  refine ab_callvI O hI (fr := False) (st := []) lk_L_240 rfl (at_57 _ _ _) dL_law_1651 (c_X9_pathSum 11 (by decide) _ O.2.2.2.2.2.2.1 _ _ _ a1 a2 h) rfl rfl (by rw [hR]; exact ⟨by decide, by decide⟩) (show 0 ≤ 8 by decide) (by rw [hR]; exact ⟨show cells + 3 ≤ 601024 by omega, show slots + 18 ≤ 7293034 by omega⟩) (fun q => q.elim) (fun E u q => q.elim) (fun r5 u hu => ?_)
  obtain ⟨V6, rfl, h⟩ := hu
  refine ab_istore O dL_law_1654 (show 7 < 8 by decide) ?_
  refine ab_aload_n O 2 dL_law_1656 rfl rfl ?_
  refine ab_callvI O hI (fr := False) (st := []) lk_L_155 rfl (at_57 _ _ _) dL_law_1657 (c_X9_thrown 11 (by decide) _ O.2.2.2.2.2.2.1 _ _ _ h) rfl rfl (by rw [hR]; exact ⟨by decide, by decide⟩) (show 0 ≤ 8 by decide) (by rw [hR]; exact ⟨show cells + 3 ≤ 601024 by omega, show slots + 18 ≤ 7293034 by omega⟩) (fun q => q.elim) (fun E u q => q.elim) (fun r7 u hu => ?_)
  obtain ⟨V8, rfl, h⟩ := hu
  refine ab_iload O dL_law_1660 rfl ?_
  refine ab_icmp_eq O 1667 dL_law_1662 rfl (fun q9 => ?_) (fun q9 => ?_)
  · have h := h.1 q9
    refine ab_iload O dL_law_1667 rfl ?_
    refine ab_if_ne O 1684 dL_law_1669 rfl (fun q10 => ?_) (fun q10 => ?_)
    · have h := h.2 q10
      refine ab_goto O 3013 dL_law_1684 rfl ?_
      exact ab_widen (by omega) (by omega) (ab_less (hk V8 o3 D4 h) (ab_le_s (ab_le_s (ab_le_s (ab_le_s (ab_le_s (ab_le_s (ab_le_n (ab_le_n ab_le_0)))))))))
    · have h := h.1 q10
      refine ab_aload_n O 3 dL_law_1672 rfl rfl ?_
      refine ab_iconst O 0 dL_law_1673 rfl ?_
      refine ab_lald O dL_law_1674 (at_72 _ _ _) (by unfold vp_in; decide) ?_
      refine ab_eq (st2 := [.long (o3 0)]) ?_ rfl rfl rfl rfl
      refine ab_iload O dL_law_1675 rfl ?_
      refine ab_i2l O dL_law_1677 ?_
      refine ab_lcmp O dL_law_1678 ?_
      refine ab_if_eq O 1684 dL_law_1679 rfl (fun q11 => ?_) (fun q11 => ?_)
      · have h := h.1 q11
        refine ab_goto O 3013 dL_law_1684 rfl ?_
        exact ab_widen (by omega) (by omega) (ab_less (hk V8 o3 D4 h) (ab_le_s (ab_le_s (ab_le_s (ab_le_s (ab_le_s (ab_le_s (ab_le_n (ab_le_n ab_le_0)))))))))
      · have h := h.2 q11
        exact h.elim
  · have h := h.2 q9
    exact h.elim

def wpc_26 (V : Mm) (o : Nat → Int64) (D : Nat → UInt64) (a1 a2 a3 : Int32) (J : Mm → Prop) : Prop := (wp_L_pathSumByHeavyPaths V a1 a2 o D (fun (k1 : Int32) (V2 : Mm) (o3 : Nat → Int64) (D4 : Nat → UInt64) => (wp_X9_pathSumByHeavyPaths V2 a1 a2 (fun (r5 : Int32) (V6 : Mm) => (wp_X9_thrown V6 (fun (r7 : Int32) (V8 : Mm) => ((r7 = k1 → ((k1 = 0 → (((lg_cmp ((o3 0)) ((r5).toInt64)) = 0 → J V8) ∧ (¬ (lg_cmp ((o3 0)) ((r5).toInt64)) = 0 → False))) ∧ (¬ k1 = 0 → J V8))) ∧ (¬ r7 = k1 → False))))))))
set_option maxHeartbeats 4000000 in
theorem cc_26 {X : ab_M} {g : ab_G} {cells slots b N : Nat} {xs9 : Nat → Int32} {Q : State → Prop} (O : ab_Ok X g cL_law RL) (hI : tk_S tk_strs (xs X)) (hR : xR X = room_1) (hX : va_X b N xs9 (xs X) (xs X).heap) (hbl : b < (xs X).heap.size) (hbA : ¬ g.1 ≤ b) (hc : cells + 6 ≤ 601024) (hs : slots + 36 ≤ 7293034) {x a1 a2 a3 : Int32} (hin1 : vp_in (x + 1) N) (hin2 : vp_in (x + 2) N) (hin3 : vp_in (x + 3) N) (e1 : xs9 (Int32.toNatClampNeg (x + 1)) = a1) (e2 : xs9 (Int32.toNatClampNeg (x + 2)) = a2) (e3 : xs9 (Int32.toNatClampNeg (x + 3)) = a3) {J : Mm → Prop} {V : Mm} {o : Nat → Int64} {D : Nat → UInt64} (h : wpc_26 V o D a1 a2 a3 J) (hk : ∀ (V : Mm) (o : Nat → Int64) (D : Nat → UInt64), J V → Ab X g (cells + 6) (slots + 36) Q 3013 [some (.retAddr b), some (.ref 0), some (.ref 57), some (.ref 72), some (.ref 73), some (.int x), none, none] [] (SW V o D)) : Ab X g cells slots Q 1687 [some (.retAddr b), some (.ref 0), some (.ref 57), some (.ref 72), some (.ref 73), some (.int x), none, none] [] (SW V o D) := by
  refine ab_aload_n O 1 dL_law_1687 rfl rfl ?_
  refine ab_aload_nR O 0 dL_law_1688 rfl rfl ?_
  refine ab_iload O dL_law_1689 rfl ?_
  refine ab_iconst O 1 dL_law_1691 rfl ?_
  refine ab_iadd O dL_law_1692 ?_
  refine ab_sld O hX hbl hbA dL_law_1693 hin1 ?_
  refine ab_eq (st2 := [.int a1, .ref 0]) ?_ rfl rfl (by rw [e1]) rfl
  refine ab_aload_nR O 0 dL_law_1694 rfl rfl ?_
  refine ab_iload O dL_law_1695 rfl ?_
  refine ab_iconst O 2 dL_law_1697 rfl ?_
  refine ab_iadd O dL_law_1698 ?_
  refine ab_sld O hX hbl hbA dL_law_1699 hin2 ?_
  refine ab_eq (st2 := [.int a2, .int a1, .ref 0]) ?_ rfl rfl (by rw [e2]) rfl
  refine ab_aload_n O 3 dL_law_1700 rfl rfl ?_
  refine ab_callh O hI (st := []) ch_L_241 dL_law_1701 (c_L_pathSumByHeavyPaths 11 (by decide) _ O.2.2.2.2.2.2.1 _ _ _ a1 a2 h) rfl rfl (by rw [hR]; exact ⟨by decide, by decide⟩) (show 0 ≤ 8 by decide) (by rw [hR]; exact ⟨show cells + 3 ≤ 601024 by omega, show slots + 18 ≤ 7293034 by omega⟩) (fun k1 u hu => ?_)
  obtain ⟨V2, o3, D4, rfl, h⟩ := hu
  refine ab_istore O dL_law_1704 (show 6 < 8 by decide) ?_
  refine ab_aload_n O 2 dL_law_1706 rfl rfl ?_
  refine ab_aload_nR O 0 dL_law_1707 rfl rfl ?_
  refine ab_iload O dL_law_1708 rfl ?_
  refine ab_iconst O 1 dL_law_1710 rfl ?_
  refine ab_iadd O dL_law_1711 ?_
  refine ab_sld O hX hbl hbA dL_law_1712 hin1 ?_
  refine ab_eq (st2 := [.int a1, .ref 57]) ?_ rfl rfl (by rw [e1]) rfl
  refine ab_aload_nR O 0 dL_law_1713 rfl rfl ?_
  refine ab_iload O dL_law_1714 rfl ?_
  refine ab_iconst O 2 dL_law_1716 rfl ?_
  refine ab_iadd O dL_law_1717 ?_
  refine ab_sld O hX hbl hbA dL_law_1718 hin2 ?_
  refine ab_eq (st2 := [.int a2, .int a1, .ref 57]) ?_ rfl rfl (by rw [e2]) rfl
  refine ab_callvI O hI (fr := False) (st := []) lk_L_243 rfl (at_57 _ _ _) dL_law_1719 (c_X9_pathSumByHeavyPaths 11 (by decide) _ O.2.2.2.2.2.2.1 _ _ _ a1 a2 h) rfl rfl (by rw [hR]; exact ⟨by decide, by decide⟩) (show 0 ≤ 8 by decide) (by rw [hR]; exact ⟨show cells + 3 ≤ 601024 by omega, show slots + 18 ≤ 7293034 by omega⟩) (fun q => q.elim) (fun E u q => q.elim) (fun r5 u hu => ?_)
  obtain ⟨V6, rfl, h⟩ := hu
  refine ab_istore O dL_law_1722 (show 7 < 8 by decide) ?_
  refine ab_aload_n O 2 dL_law_1724 rfl rfl ?_
  refine ab_callvI O hI (fr := False) (st := []) lk_L_155 rfl (at_57 _ _ _) dL_law_1725 (c_X9_thrown 11 (by decide) _ O.2.2.2.2.2.2.1 _ _ _ h) rfl rfl (by rw [hR]; exact ⟨by decide, by decide⟩) (show 0 ≤ 8 by decide) (by rw [hR]; exact ⟨show cells + 3 ≤ 601024 by omega, show slots + 18 ≤ 7293034 by omega⟩) (fun q => q.elim) (fun E u q => q.elim) (fun r7 u hu => ?_)
  obtain ⟨V8, rfl, h⟩ := hu
  refine ab_iload O dL_law_1728 rfl ?_
  refine ab_icmp_eq O 1735 dL_law_1730 rfl (fun q9 => ?_) (fun q9 => ?_)
  · have h := h.1 q9
    refine ab_iload O dL_law_1735 rfl ?_
    refine ab_if_ne O 1752 dL_law_1737 rfl (fun q10 => ?_) (fun q10 => ?_)
    · have h := h.2 q10
      refine ab_goto O 3013 dL_law_1752 rfl ?_
      exact ab_widen (by omega) (by omega) (ab_less (hk V8 o3 D4 h) (ab_le_s (ab_le_s (ab_le_s (ab_le_s (ab_le_s (ab_le_s (ab_le_n (ab_le_n ab_le_0)))))))))
    · have h := h.1 q10
      refine ab_aload_n O 3 dL_law_1740 rfl rfl ?_
      refine ab_iconst O 0 dL_law_1741 rfl ?_
      refine ab_lald O dL_law_1742 (at_72 _ _ _) (by unfold vp_in; decide) ?_
      refine ab_eq (st2 := [.long (o3 0)]) ?_ rfl rfl rfl rfl
      refine ab_iload O dL_law_1743 rfl ?_
      refine ab_i2l O dL_law_1745 ?_
      refine ab_lcmp O dL_law_1746 ?_
      refine ab_if_eq O 1752 dL_law_1747 rfl (fun q11 => ?_) (fun q11 => ?_)
      · have h := h.1 q11
        refine ab_goto O 3013 dL_law_1752 rfl ?_
        exact ab_widen (by omega) (by omega) (ab_less (hk V8 o3 D4 h) (ab_le_s (ab_le_s (ab_le_s (ab_le_s (ab_le_s (ab_le_s (ab_le_n (ab_le_n ab_le_0)))))))))
      · have h := h.2 q11
        exact h.elim
  · have h := h.2 q9
    exact h.elim

def wpc_27 (V : Mm) (o : Nat → Int64) (D : Nat → UInt64) (a1 a2 a3 : Int32) (J : Mm → Prop) : Prop := (wp_L_pathSumByWalk V a1 a2 o D (fun (k1 : Int32) (V2 : Mm) (o3 : Nat → Int64) (D4 : Nat → UInt64) => (wp_X9_pathSumByWalk V2 a1 a2 (fun (r5 : Int32) (V6 : Mm) => (wp_X9_thrown V6 (fun (r7 : Int32) (V8 : Mm) => ((r7 = k1 → ((k1 = 0 → (((lg_cmp ((o3 0)) ((r5).toInt64)) = 0 → J V8) ∧ (¬ (lg_cmp ((o3 0)) ((r5).toInt64)) = 0 → False))) ∧ (¬ k1 = 0 → J V8))) ∧ (¬ r7 = k1 → False))))))))
set_option maxHeartbeats 4000000 in
theorem cc_27 {X : ab_M} {g : ab_G} {cells slots b N : Nat} {xs9 : Nat → Int32} {Q : State → Prop} (O : ab_Ok X g cL_law RL) (hI : tk_S tk_strs (xs X)) (hR : xR X = room_1) (hX : va_X b N xs9 (xs X) (xs X).heap) (hbl : b < (xs X).heap.size) (hbA : ¬ g.1 ≤ b) (hc : cells + 6 ≤ 601024) (hs : slots + 36 ≤ 7293034) {x a1 a2 a3 : Int32} (hin1 : vp_in (x + 1) N) (hin2 : vp_in (x + 2) N) (hin3 : vp_in (x + 3) N) (e1 : xs9 (Int32.toNatClampNeg (x + 1)) = a1) (e2 : xs9 (Int32.toNatClampNeg (x + 2)) = a2) (e3 : xs9 (Int32.toNatClampNeg (x + 3)) = a3) {J : Mm → Prop} {V : Mm} {o : Nat → Int64} {D : Nat → UInt64} (h : wpc_27 V o D a1 a2 a3 J) (hk : ∀ (V : Mm) (o : Nat → Int64) (D : Nat → UInt64), J V → Ab X g (cells + 6) (slots + 36) Q 3013 [some (.retAddr b), some (.ref 0), some (.ref 57), some (.ref 72), some (.ref 73), some (.int x), none, none] [] (SW V o D)) : Ab X g cells slots Q 1755 [some (.retAddr b), some (.ref 0), some (.ref 57), some (.ref 72), some (.ref 73), some (.int x), none, none] [] (SW V o D) := by
  refine ab_aload_n O 1 dL_law_1755 rfl rfl ?_
  refine ab_aload_nR O 0 dL_law_1756 rfl rfl ?_
  refine ab_iload O dL_law_1757 rfl ?_
  refine ab_iconst O 1 dL_law_1759 rfl ?_
  refine ab_iadd O dL_law_1760 ?_
  refine ab_sld O hX hbl hbA dL_law_1761 hin1 ?_
  refine ab_eq (st2 := [.int a1, .ref 0]) ?_ rfl rfl (by rw [e1]) rfl
  refine ab_aload_nR O 0 dL_law_1762 rfl rfl ?_
  refine ab_iload O dL_law_1763 rfl ?_
  refine ab_iconst O 2 dL_law_1765 rfl ?_
  refine ab_iadd O dL_law_1766 ?_
  refine ab_sld O hX hbl hbA dL_law_1767 hin2 ?_
  refine ab_eq (st2 := [.int a2, .int a1, .ref 0]) ?_ rfl rfl (by rw [e2]) rfl
  refine ab_aload_n O 3 dL_law_1768 rfl rfl ?_
  refine ab_callh O hI (st := []) ch_L_244 dL_law_1769 (c_L_pathSumByWalk 11 (by decide) _ O.2.2.2.2.2.2.1 _ _ _ a1 a2 h) rfl rfl (by rw [hR]; exact ⟨by decide, by decide⟩) (show 0 ≤ 8 by decide) (by rw [hR]; exact ⟨show cells + 3 ≤ 601024 by omega, show slots + 18 ≤ 7293034 by omega⟩) (fun k1 u hu => ?_)
  obtain ⟨V2, o3, D4, rfl, h⟩ := hu
  refine ab_istore O dL_law_1772 (show 6 < 8 by decide) ?_
  refine ab_aload_n O 2 dL_law_1774 rfl rfl ?_
  refine ab_aload_nR O 0 dL_law_1775 rfl rfl ?_
  refine ab_iload O dL_law_1776 rfl ?_
  refine ab_iconst O 1 dL_law_1778 rfl ?_
  refine ab_iadd O dL_law_1779 ?_
  refine ab_sld O hX hbl hbA dL_law_1780 hin1 ?_
  refine ab_eq (st2 := [.int a1, .ref 57]) ?_ rfl rfl (by rw [e1]) rfl
  refine ab_aload_nR O 0 dL_law_1781 rfl rfl ?_
  refine ab_iload O dL_law_1782 rfl ?_
  refine ab_iconst O 2 dL_law_1784 rfl ?_
  refine ab_iadd O dL_law_1785 ?_
  refine ab_sld O hX hbl hbA dL_law_1786 hin2 ?_
  refine ab_eq (st2 := [.int a2, .int a1, .ref 57]) ?_ rfl rfl (by rw [e2]) rfl
  refine ab_callvI O hI (fr := False) (st := []) lk_L_246 rfl (at_57 _ _ _) dL_law_1787 (c_X9_pathSumByWalk 11 (by decide) _ O.2.2.2.2.2.2.1 _ _ _ a1 a2 h) rfl rfl (by rw [hR]; exact ⟨by decide, by decide⟩) (show 0 ≤ 8 by decide) (by rw [hR]; exact ⟨show cells + 3 ≤ 601024 by omega, show slots + 18 ≤ 7293034 by omega⟩) (fun q => q.elim) (fun E u q => q.elim) (fun r5 u hu => ?_)
  obtain ⟨V6, rfl, h⟩ := hu
  refine ab_istore O dL_law_1790 (show 7 < 8 by decide) ?_
  refine ab_aload_n O 2 dL_law_1792 rfl rfl ?_
  refine ab_callvI O hI (fr := False) (st := []) lk_L_155 rfl (at_57 _ _ _) dL_law_1793 (c_X9_thrown 11 (by decide) _ O.2.2.2.2.2.2.1 _ _ _ h) rfl rfl (by rw [hR]; exact ⟨by decide, by decide⟩) (show 0 ≤ 8 by decide) (by rw [hR]; exact ⟨show cells + 3 ≤ 601024 by omega, show slots + 18 ≤ 7293034 by omega⟩) (fun q => q.elim) (fun E u q => q.elim) (fun r7 u hu => ?_)
  obtain ⟨V8, rfl, h⟩ := hu
  refine ab_iload O dL_law_1796 rfl ?_
  refine ab_icmp_eq O 1803 dL_law_1798 rfl (fun q9 => ?_) (fun q9 => ?_)
  · have h := h.1 q9
    refine ab_iload O dL_law_1803 rfl ?_
    refine ab_if_ne O 1820 dL_law_1805 rfl (fun q10 => ?_) (fun q10 => ?_)
    · have h := h.2 q10
      refine ab_goto O 3013 dL_law_1820 rfl ?_
      exact ab_widen (by omega) (by omega) (ab_less (hk V8 o3 D4 h) (ab_le_s (ab_le_s (ab_le_s (ab_le_s (ab_le_s (ab_le_s (ab_le_n (ab_le_n ab_le_0)))))))))
    · have h := h.1 q10
      refine ab_aload_n O 3 dL_law_1808 rfl rfl ?_
      refine ab_iconst O 0 dL_law_1809 rfl ?_
      refine ab_lald O dL_law_1810 (at_72 _ _ _) (by unfold vp_in; decide) ?_
      refine ab_eq (st2 := [.long (o3 0)]) ?_ rfl rfl rfl rfl
      refine ab_iload O dL_law_1811 rfl ?_
      refine ab_i2l O dL_law_1813 ?_
      refine ab_lcmp O dL_law_1814 ?_
      refine ab_if_eq O 1820 dL_law_1815 rfl (fun q11 => ?_) (fun q11 => ?_)
      · have h := h.1 q11
        refine ab_goto O 3013 dL_law_1820 rfl ?_
        exact ab_widen (by omega) (by omega) (ab_less (hk V8 o3 D4 h) (ab_le_s (ab_le_s (ab_le_s (ab_le_s (ab_le_s (ab_le_s (ab_le_n (ab_le_n ab_le_0)))))))))
      · have h := h.2 q11
        exact h.elim
  · have h := h.2 q9
    exact h.elim

def wpc_28 (V : Mm) (o : Nat → Int64) (D : Nat → UInt64) (a1 a2 a3 : Int32) (J : Mm → Prop) : Prop := (wp_L_last V a1 a2 o D (fun (k1 : Int32) (V2 : Mm) (o3 : Nat → Int64) (D4 : Nat → UInt64) => (wp_X9_last V2 a1 a2 (fun (r5 : Int32) (V6 : Mm) => (wp_X9_thrown V6 (fun (r7 : Int32) (V8 : Mm) => ((r7 = k1 → ((k1 = 0 → (((lg_cmp ((o3 0)) ((r5).toInt64)) = 0 → J V8) ∧ (¬ (lg_cmp ((o3 0)) ((r5).toInt64)) = 0 → False))) ∧ (¬ k1 = 0 → J V8))) ∧ (¬ r7 = k1 → False))))))))
set_option maxHeartbeats 4000000 in
theorem cc_28 {X : ab_M} {g : ab_G} {cells slots b N : Nat} {xs9 : Nat → Int32} {Q : State → Prop} (O : ab_Ok X g cL_law RL) (hI : tk_S tk_strs (xs X)) (hR : xR X = room_1) (hX : va_X b N xs9 (xs X) (xs X).heap) (hbl : b < (xs X).heap.size) (hbA : ¬ g.1 ≤ b) (hc : cells + 6 ≤ 601024) (hs : slots + 36 ≤ 7293034) {x a1 a2 a3 : Int32} (hin1 : vp_in (x + 1) N) (hin2 : vp_in (x + 2) N) (hin3 : vp_in (x + 3) N) (e1 : xs9 (Int32.toNatClampNeg (x + 1)) = a1) (e2 : xs9 (Int32.toNatClampNeg (x + 2)) = a2) (e3 : xs9 (Int32.toNatClampNeg (x + 3)) = a3) {J : Mm → Prop} {V : Mm} {o : Nat → Int64} {D : Nat → UInt64} (h : wpc_28 V o D a1 a2 a3 J) (hk : ∀ (V : Mm) (o : Nat → Int64) (D : Nat → UInt64), J V → Ab X g (cells + 6) (slots + 36) Q 3013 [some (.retAddr b), some (.ref 0), some (.ref 57), some (.ref 72), some (.ref 73), some (.int x), none, none] [] (SW V o D)) : Ab X g cells slots Q 1823 [some (.retAddr b), some (.ref 0), some (.ref 57), some (.ref 72), some (.ref 73), some (.int x), none, none] [] (SW V o D) := by
  refine ab_aload_n O 1 dL_law_1823 rfl rfl ?_
  refine ab_aload_nR O 0 dL_law_1824 rfl rfl ?_
  refine ab_iload O dL_law_1825 rfl ?_
  refine ab_iconst O 1 dL_law_1827 rfl ?_
  refine ab_iadd O dL_law_1828 ?_
  refine ab_sld O hX hbl hbA dL_law_1829 hin1 ?_
  refine ab_eq (st2 := [.int a1, .ref 0]) ?_ rfl rfl (by rw [e1]) rfl
  refine ab_aload_nR O 0 dL_law_1830 rfl rfl ?_
  refine ab_iload O dL_law_1831 rfl ?_
  refine ab_iconst O 2 dL_law_1833 rfl ?_
  refine ab_iadd O dL_law_1834 ?_
  refine ab_sld O hX hbl hbA dL_law_1835 hin2 ?_
  refine ab_eq (st2 := [.int a2, .int a1, .ref 0]) ?_ rfl rfl (by rw [e2]) rfl
  refine ab_aload_n O 3 dL_law_1836 rfl rfl ?_
  refine ab_callh O hI (st := []) ch_L_247 dL_law_1837 (c_L_last 11 (by decide) _ O.2.2.2.2.2.2.1 _ _ _ a1 a2 h) rfl rfl (by rw [hR]; exact ⟨by decide, by decide⟩) (show 0 ≤ 8 by decide) (by rw [hR]; exact ⟨show cells + 4 ≤ 601024 by omega, show slots + 24 ≤ 7293034 by omega⟩) (fun k1 u hu => ?_)
  obtain ⟨V2, o3, D4, rfl, h⟩ := hu
  refine ab_istore O dL_law_1840 (show 6 < 8 by decide) ?_
  refine ab_aload_n O 2 dL_law_1842 rfl rfl ?_
  refine ab_aload_nR O 0 dL_law_1843 rfl rfl ?_
  refine ab_iload O dL_law_1844 rfl ?_
  refine ab_iconst O 1 dL_law_1846 rfl ?_
  refine ab_iadd O dL_law_1847 ?_
  refine ab_sld O hX hbl hbA dL_law_1848 hin1 ?_
  refine ab_eq (st2 := [.int a1, .ref 57]) ?_ rfl rfl (by rw [e1]) rfl
  refine ab_aload_nR O 0 dL_law_1849 rfl rfl ?_
  refine ab_iload O dL_law_1850 rfl ?_
  refine ab_iconst O 2 dL_law_1852 rfl ?_
  refine ab_iadd O dL_law_1853 ?_
  refine ab_sld O hX hbl hbA dL_law_1854 hin2 ?_
  refine ab_eq (st2 := [.int a2, .int a1, .ref 57]) ?_ rfl rfl (by rw [e2]) rfl
  refine ab_callvI O hI (fr := False) (st := []) lk_L_249 rfl (at_57 _ _ _) dL_law_1855 (c_X9_last 11 (by decide) _ O.2.2.2.2.2.2.1 _ _ _ a1 a2 h) rfl rfl (by rw [hR]; exact ⟨by decide, by decide⟩) (show 0 ≤ 8 by decide) (by rw [hR]; exact ⟨show cells + 4 ≤ 601024 by omega, show slots + 24 ≤ 7293034 by omega⟩) (fun q => q.elim) (fun E u q => q.elim) (fun r5 u hu => ?_)
  obtain ⟨V6, rfl, h⟩ := hu
  refine ab_istore O dL_law_1858 (show 7 < 8 by decide) ?_
  refine ab_aload_n O 2 dL_law_1860 rfl rfl ?_
  refine ab_callvI O hI (fr := False) (st := []) lk_L_155 rfl (at_57 _ _ _) dL_law_1861 (c_X9_thrown 11 (by decide) _ O.2.2.2.2.2.2.1 _ _ _ h) rfl rfl (by rw [hR]; exact ⟨by decide, by decide⟩) (show 0 ≤ 8 by decide) (by rw [hR]; exact ⟨show cells + 4 ≤ 601024 by omega, show slots + 24 ≤ 7293034 by omega⟩) (fun q => q.elim) (fun E u q => q.elim) (fun r7 u hu => ?_)
  obtain ⟨V8, rfl, h⟩ := hu
  refine ab_iload O dL_law_1864 rfl ?_
  refine ab_icmp_eq O 1871 dL_law_1866 rfl (fun q9 => ?_) (fun q9 => ?_)
  · have h := h.1 q9
    refine ab_iload O dL_law_1871 rfl ?_
    refine ab_if_ne O 1888 dL_law_1873 rfl (fun q10 => ?_) (fun q10 => ?_)
    · have h := h.2 q10
      refine ab_goto O 3013 dL_law_1888 rfl ?_
      exact ab_widen (by omega) (by omega) (ab_less (hk V8 o3 D4 h) (ab_le_s (ab_le_s (ab_le_s (ab_le_s (ab_le_s (ab_le_s (ab_le_n (ab_le_n ab_le_0)))))))))
    · have h := h.1 q10
      refine ab_aload_n O 3 dL_law_1876 rfl rfl ?_
      refine ab_iconst O 0 dL_law_1877 rfl ?_
      refine ab_lald O dL_law_1878 (at_72 _ _ _) (by unfold vp_in; decide) ?_
      refine ab_eq (st2 := [.long (o3 0)]) ?_ rfl rfl rfl rfl
      refine ab_iload O dL_law_1879 rfl ?_
      refine ab_i2l O dL_law_1881 ?_
      refine ab_lcmp O dL_law_1882 ?_
      refine ab_if_eq O 1888 dL_law_1883 rfl (fun q11 => ?_) (fun q11 => ?_)
      · have h := h.1 q11
        refine ab_goto O 3013 dL_law_1888 rfl ?_
        exact ab_widen (by omega) (by omega) (ab_less (hk V8 o3 D4 h) (ab_le_s (ab_le_s (ab_le_s (ab_le_s (ab_le_s (ab_le_s (ab_le_n (ab_le_n ab_le_0)))))))))
      · have h := h.2 q11
        exact h.elim
  · have h := h.2 q9
    exact h.elim

def wpc_29 (V : Mm) (o : Nat → Int64) (D : Nat → UInt64) (a1 a2 a3 : Int32) (J : Mm → Prop) : Prop := (wp_L_lastByWalk V a1 a2 o D (fun (k1 : Int32) (V2 : Mm) (o3 : Nat → Int64) (D4 : Nat → UInt64) => (wp_X9_lastByWalk V2 a1 a2 (fun (r5 : Int32) (V6 : Mm) => (wp_X9_thrown V6 (fun (r7 : Int32) (V8 : Mm) => ((r7 = k1 → ((k1 = 0 → (((lg_cmp ((o3 0)) ((r5).toInt64)) = 0 → J V8) ∧ (¬ (lg_cmp ((o3 0)) ((r5).toInt64)) = 0 → False))) ∧ (¬ k1 = 0 → J V8))) ∧ (¬ r7 = k1 → False))))))))
set_option maxHeartbeats 4000000 in
theorem cc_29 {X : ab_M} {g : ab_G} {cells slots b N : Nat} {xs9 : Nat → Int32} {Q : State → Prop} (O : ab_Ok X g cL_law RL) (hI : tk_S tk_strs (xs X)) (hR : xR X = room_1) (hX : va_X b N xs9 (xs X) (xs X).heap) (hbl : b < (xs X).heap.size) (hbA : ¬ g.1 ≤ b) (hc : cells + 6 ≤ 601024) (hs : slots + 36 ≤ 7293034) {x a1 a2 a3 : Int32} (hin1 : vp_in (x + 1) N) (hin2 : vp_in (x + 2) N) (hin3 : vp_in (x + 3) N) (e1 : xs9 (Int32.toNatClampNeg (x + 1)) = a1) (e2 : xs9 (Int32.toNatClampNeg (x + 2)) = a2) (e3 : xs9 (Int32.toNatClampNeg (x + 3)) = a3) {J : Mm → Prop} {V : Mm} {o : Nat → Int64} {D : Nat → UInt64} (h : wpc_29 V o D a1 a2 a3 J) (hk : ∀ (V : Mm) (o : Nat → Int64) (D : Nat → UInt64), J V → Ab X g (cells + 6) (slots + 36) Q 3013 [some (.retAddr b), some (.ref 0), some (.ref 57), some (.ref 72), some (.ref 73), some (.int x), none, none] [] (SW V o D)) : Ab X g cells slots Q 1891 [some (.retAddr b), some (.ref 0), some (.ref 57), some (.ref 72), some (.ref 73), some (.int x), none, none] [] (SW V o D) := by
  refine ab_aload_n O 1 dL_law_1891 rfl rfl ?_
  refine ab_aload_nR O 0 dL_law_1892 rfl rfl ?_
  refine ab_iload O dL_law_1893 rfl ?_
  refine ab_iconst O 1 dL_law_1895 rfl ?_
  refine ab_iadd O dL_law_1896 ?_
  refine ab_sld O hX hbl hbA dL_law_1897 hin1 ?_
  refine ab_eq (st2 := [.int a1, .ref 0]) ?_ rfl rfl (by rw [e1]) rfl
  refine ab_aload_nR O 0 dL_law_1898 rfl rfl ?_
  refine ab_iload O dL_law_1899 rfl ?_
  refine ab_iconst O 2 dL_law_1901 rfl ?_
  refine ab_iadd O dL_law_1902 ?_
  refine ab_sld O hX hbl hbA dL_law_1903 hin2 ?_
  refine ab_eq (st2 := [.int a2, .int a1, .ref 0]) ?_ rfl rfl (by rw [e2]) rfl
  refine ab_aload_n O 3 dL_law_1904 rfl rfl ?_
  refine ab_callh O hI (st := []) ch_L_250 dL_law_1905 (c_L_lastByWalk 11 (by decide) _ O.2.2.2.2.2.2.1 _ _ _ a1 a2 h) rfl rfl (by rw [hR]; exact ⟨by decide, by decide⟩) (show 0 ≤ 8 by decide) (by rw [hR]; exact ⟨show cells + 4 ≤ 601024 by omega, show slots + 24 ≤ 7293034 by omega⟩) (fun k1 u hu => ?_)
  obtain ⟨V2, o3, D4, rfl, h⟩ := hu
  refine ab_istore O dL_law_1908 (show 6 < 8 by decide) ?_
  refine ab_aload_n O 2 dL_law_1910 rfl rfl ?_
  refine ab_aload_nR O 0 dL_law_1911 rfl rfl ?_
  refine ab_iload O dL_law_1912 rfl ?_
  refine ab_iconst O 1 dL_law_1914 rfl ?_
  refine ab_iadd O dL_law_1915 ?_
  refine ab_sld O hX hbl hbA dL_law_1916 hin1 ?_
  refine ab_eq (st2 := [.int a1, .ref 57]) ?_ rfl rfl (by rw [e1]) rfl
  refine ab_aload_nR O 0 dL_law_1917 rfl rfl ?_
  refine ab_iload O dL_law_1918 rfl ?_
  refine ab_iconst O 2 dL_law_1920 rfl ?_
  refine ab_iadd O dL_law_1921 ?_
  refine ab_sld O hX hbl hbA dL_law_1922 hin2 ?_
  refine ab_eq (st2 := [.int a2, .int a1, .ref 57]) ?_ rfl rfl (by rw [e2]) rfl
  refine ab_callvI O hI (fr := False) (st := []) lk_L_252 rfl (at_57 _ _ _) dL_law_1923 (c_X9_lastByWalk 11 (by decide) _ O.2.2.2.2.2.2.1 _ _ _ a1 a2 h) rfl rfl (by rw [hR]; exact ⟨by decide, by decide⟩) (show 0 ≤ 8 by decide) (by rw [hR]; exact ⟨show cells + 4 ≤ 601024 by omega, show slots + 24 ≤ 7293034 by omega⟩) (fun q => q.elim) (fun E u q => q.elim) (fun r5 u hu => ?_)
  obtain ⟨V6, rfl, h⟩ := hu
  refine ab_istore O dL_law_1926 (show 7 < 8 by decide) ?_
  refine ab_aload_n O 2 dL_law_1928 rfl rfl ?_
  refine ab_callvI O hI (fr := False) (st := []) lk_L_155 rfl (at_57 _ _ _) dL_law_1929 (c_X9_thrown 11 (by decide) _ O.2.2.2.2.2.2.1 _ _ _ h) rfl rfl (by rw [hR]; exact ⟨by decide, by decide⟩) (show 0 ≤ 8 by decide) (by rw [hR]; exact ⟨show cells + 4 ≤ 601024 by omega, show slots + 24 ≤ 7293034 by omega⟩) (fun q => q.elim) (fun E u q => q.elim) (fun r7 u hu => ?_)
  obtain ⟨V8, rfl, h⟩ := hu
  refine ab_iload O dL_law_1932 rfl ?_
  refine ab_icmp_eq O 1939 dL_law_1934 rfl (fun q9 => ?_) (fun q9 => ?_)
  · have h := h.1 q9
    refine ab_iload O dL_law_1939 rfl ?_
    refine ab_if_ne O 1956 dL_law_1941 rfl (fun q10 => ?_) (fun q10 => ?_)
    · have h := h.2 q10
      refine ab_goto O 3013 dL_law_1956 rfl ?_
      exact ab_widen (by omega) (by omega) (ab_less (hk V8 o3 D4 h) (ab_le_s (ab_le_s (ab_le_s (ab_le_s (ab_le_s (ab_le_s (ab_le_n (ab_le_n ab_le_0)))))))))
    · have h := h.1 q10
      refine ab_aload_n O 3 dL_law_1944 rfl rfl ?_
      refine ab_iconst O 0 dL_law_1945 rfl ?_
      refine ab_lald O dL_law_1946 (at_72 _ _ _) (by unfold vp_in; decide) ?_
      refine ab_eq (st2 := [.long (o3 0)]) ?_ rfl rfl rfl rfl
      refine ab_iload O dL_law_1947 rfl ?_
      refine ab_i2l O dL_law_1949 ?_
      refine ab_lcmp O dL_law_1950 ?_
      refine ab_if_eq O 1956 dL_law_1951 rfl (fun q11 => ?_) (fun q11 => ?_)
      · have h := h.1 q11
        refine ab_goto O 3013 dL_law_1956 rfl ?_
        exact ab_widen (by omega) (by omega) (ab_less (hk V8 o3 D4 h) (ab_le_s (ab_le_s (ab_le_s (ab_le_s (ab_le_s (ab_le_s (ab_le_n (ab_le_n ab_le_0)))))))))
      · have h := h.2 q11
        exact h.elim
  · have h := h.2 q9
    exact h.elim

def wpc_30 (V : Mm) (o : Nat → Int64) (D : Nat → UInt64) (a1 a2 a3 : Int32) (J : Mm → Prop) : Prop := (wp_L_mean V a1 a2 o D (fun (k1 : Int32) (V2 : Mm) (o3 : Nat → Int64) (D4 : Nat → UInt64) => (wp_X9_mean V2 a1 a2 (fun (r5 : UInt32) (V6 : Mm) => (wp_X9_thrown V6 (fun (r7 : Int32) (V8 : Mm) => ((r7 = k1 → ((k1 = 0 → (vf_n64 (FP.f2d (r5)) ∧ (((Op.cmpValue (FP.dcmp ((D4 0)) ((FP.f2d (r5)))) .l) = 0 → J V8) ∧ (¬ (Op.cmpValue (FP.dcmp ((D4 0)) ((FP.f2d (r5)))) .l) = 0 → (((Op.cmpValue (FP.dcmp ((D4 0)) ((D4 0))) .l) = 0 → False) ∧ (¬ (Op.cmpValue (FP.dcmp ((D4 0)) ((D4 0))) .l) = 0 → (((Op.cmpValue (FP.fcmp (r5) (r5)) .l) = 0 → False) ∧ (¬ (Op.cmpValue (FP.fcmp (r5) (r5)) .l) = 0 → J V8)))))))) ∧ (¬ k1 = 0 → J V8))) ∧ (¬ r7 = k1 → False))))))))
set_option maxHeartbeats 4000000 in
theorem cc_30 {X : ab_M} {g : ab_G} {cells slots b N : Nat} {xs9 : Nat → Int32} {Q : State → Prop} (O : ab_Ok X g cL_law RL) (hI : tk_S tk_strs (xs X)) (hR : xR X = room_1) (hX : va_X b N xs9 (xs X) (xs X).heap) (hbl : b < (xs X).heap.size) (hbA : ¬ g.1 ≤ b) (hc : cells + 6 ≤ 601024) (hs : slots + 36 ≤ 7293034) {x a1 a2 a3 : Int32} (hin1 : vp_in (x + 1) N) (hin2 : vp_in (x + 2) N) (hin3 : vp_in (x + 3) N) (e1 : xs9 (Int32.toNatClampNeg (x + 1)) = a1) (e2 : xs9 (Int32.toNatClampNeg (x + 2)) = a2) (e3 : xs9 (Int32.toNatClampNeg (x + 3)) = a3) {J : Mm → Prop} {V : Mm} {o : Nat → Int64} {D : Nat → UInt64} (h : wpc_30 V o D a1 a2 a3 J) (hk : ∀ (V : Mm) (o : Nat → Int64) (D : Nat → UInt64), J V → Ab X g (cells + 6) (slots + 36) Q 3013 [some (.retAddr b), some (.ref 0), some (.ref 57), some (.ref 72), some (.ref 73), some (.int x), none, none] [] (SW V o D)) : Ab X g cells slots Q 1959 [some (.retAddr b), some (.ref 0), some (.ref 57), some (.ref 72), some (.ref 73), some (.int x), none, none] [] (SW V o D) := by
  refine ab_aload_n O 1 dL_law_1959 rfl rfl ?_
  refine ab_aload_nR O 0 dL_law_1960 rfl rfl ?_
  refine ab_iload O dL_law_1961 rfl ?_
  refine ab_iconst O 1 dL_law_1963 rfl ?_
  refine ab_iadd O dL_law_1964 ?_
  refine ab_sld O hX hbl hbA dL_law_1965 hin1 ?_
  refine ab_eq (st2 := [.int a1, .ref 0]) ?_ rfl rfl (by rw [e1]) rfl
  refine ab_aload_nR O 0 dL_law_1966 rfl rfl ?_
  refine ab_iload O dL_law_1967 rfl ?_
  refine ab_iconst O 2 dL_law_1969 rfl ?_
  refine ab_iadd O dL_law_1970 ?_
  refine ab_sld O hX hbl hbA dL_law_1971 hin2 ?_
  refine ab_eq (st2 := [.int a2, .int a1, .ref 0]) ?_ rfl rfl (by rw [e2]) rfl
  refine ab_aload O dL_law_1972 rfl ?_
  refine ab_callh O hI (st := []) ch_L_253 dL_law_1974 (c_L_mean 11 (by decide) _ O.2.2.2.2.2.2.1 _ _ _ a1 a2 h) rfl rfl (by rw [hR]; exact ⟨by decide, by decide⟩) (show 0 ≤ 8 by decide) (by rw [hR]; exact ⟨show cells + 3 ≤ 601024 by omega, show slots + 18 ≤ 7293034 by omega⟩) (fun k1 u hu => ?_)
  obtain ⟨V2, o3, D4, rfl, h⟩ := hu
  refine ab_istore O dL_law_1977 (show 6 < 8 by decide) ?_
  refine ab_aload_n O 2 dL_law_1979 rfl rfl ?_
  refine ab_aload_nR O 0 dL_law_1980 rfl rfl ?_
  refine ab_iload O dL_law_1981 rfl ?_
  refine ab_iconst O 1 dL_law_1983 rfl ?_
  refine ab_iadd O dL_law_1984 ?_
  refine ab_sld O hX hbl hbA dL_law_1985 hin1 ?_
  refine ab_eq (st2 := [.int a1, .ref 57]) ?_ rfl rfl (by rw [e1]) rfl
  refine ab_aload_nR O 0 dL_law_1986 rfl rfl ?_
  refine ab_iload O dL_law_1987 rfl ?_
  refine ab_iconst O 2 dL_law_1989 rfl ?_
  refine ab_iadd O dL_law_1990 ?_
  refine ab_sld O hX hbl hbA dL_law_1991 hin2 ?_
  refine ab_eq (st2 := [.int a2, .int a1, .ref 57]) ?_ rfl rfl (by rw [e2]) rfl
  refine ab_callvF O hI (fr := False) (st := []) lk_L_256 rfl (at_57 _ _ _) dL_law_1992 (c_X9_mean 11 (by decide) _ O.2.2.2.2.2.2.1 _ _ _ a1 a2 h) rfl rfl (by rw [hR]; exact ⟨by decide, by decide⟩) (show 0 ≤ 8 by decide) (by rw [hR]; exact ⟨show cells + 3 ≤ 601024 by omega, show slots + 18 ≤ 7293034 by omega⟩) (fun q => q.elim) (fun E u q => q.elim) (fun r5 u hu => ?_)
  obtain ⟨V6, rfl, h⟩ := hu
  refine ab_fstore O dL_law_1995 (show 7 < 8 by decide) ?_
  refine ab_aload_n O 2 dL_law_1997 rfl rfl ?_
  refine ab_callvI O hI (fr := False) (st := []) lk_L_155 rfl (at_57 _ _ _) dL_law_1998 (c_X9_thrown 11 (by decide) _ O.2.2.2.2.2.2.1 _ _ _ h) rfl rfl (by rw [hR]; exact ⟨by decide, by decide⟩) (show 0 ≤ 8 by decide) (by rw [hR]; exact ⟨show cells + 3 ≤ 601024 by omega, show slots + 18 ≤ 7293034 by omega⟩) (fun q => q.elim) (fun E u q => q.elim) (fun r7 u hu => ?_)
  obtain ⟨V8, rfl, h⟩ := hu
  refine ab_iload O dL_law_2001 rfl ?_
  refine ab_icmp_eq O 2008 dL_law_2003 rfl (fun q9 => ?_) (fun q9 => ?_)
  · have h := h.1 q9
    refine ab_iload O dL_law_2008 rfl ?_
    refine ab_if_ne O 2046 dL_law_2010 rfl (fun q10 => ?_) (fun q10 => ?_)
    · have h := h.2 q10
      refine ab_goto O 3013 dL_law_2046 rfl ?_
      exact ab_widen (by omega) (by omega) (ab_less (hk V8 o3 D4 h) (ab_le_s (ab_le_s (ab_le_s (ab_le_s (ab_le_s (ab_le_s (ab_le_n (ab_le_n ab_le_0)))))))))
    · have h := h.1 q10
      refine ab_aload O dL_law_2013 rfl ?_
      refine ab_iconst O 0 dL_law_2015 rfl ?_
      refine ab_dald O dL_law_2016 (at_73 _ _ _) (by unfold vp_in; decide) ?_
      refine ab_eq (st2 := [.double (D4 0)]) ?_ rfl rfl rfl rfl
      refine ab_fload O dL_law_2017 rfl ?_
      refine ab_f2d O dL_law_2019 h.1 ?_
      have h := h.2
      refine ab_dcmp O dL_law_2020 ?_
      refine ab_if_eq O 2046 dL_law_2021 rfl (fun q11 => ?_) (fun q11 => ?_)
      · have h := h.1 q11
        refine ab_goto O 3013 dL_law_2046 rfl ?_
        exact ab_widen (by omega) (by omega) (ab_less (hk V8 o3 D4 h) (ab_le_s (ab_le_s (ab_le_s (ab_le_s (ab_le_s (ab_le_s (ab_le_n (ab_le_n ab_le_0)))))))))
      · have h := h.2 q11
        refine ab_aload O dL_law_2024 rfl ?_
        refine ab_iconst O 0 dL_law_2026 rfl ?_
        refine ab_dald O dL_law_2027 (at_73 _ _ _) (by unfold vp_in; decide) ?_
        refine ab_eq (st2 := [.double (D4 0)]) ?_ rfl rfl rfl rfl
        refine ab_aload O dL_law_2028 rfl ?_
        refine ab_iconst O 0 dL_law_2030 rfl ?_
        refine ab_dald O dL_law_2031 (at_73 _ _ _) (by unfold vp_in; decide) ?_
        refine ab_eq (st2 := [.double (D4 0), .double (D4 0)]) ?_ rfl rfl rfl rfl
        refine ab_dcmp O dL_law_2032 ?_
        refine ab_if_eq O 2044 dL_law_2033 rfl (fun q12 => ?_) (fun q12 => ?_)
        · have h := h.1 q12
          exact h.elim
        · have h := h.2 q12
          refine ab_fload O dL_law_2036 rfl ?_
          refine ab_fload O dL_law_2038 rfl ?_
          refine ab_fcmp O dL_law_2040 ?_
          refine ab_if_ne O 2046 dL_law_2041 rfl (fun q13 => ?_) (fun q13 => ?_)
          · have h := h.2 q13
            refine ab_goto O 3013 dL_law_2046 rfl ?_
            exact ab_widen (by omega) (by omega) (ab_less (hk V8 o3 D4 h) (ab_le_s (ab_le_s (ab_le_s (ab_le_s (ab_le_s (ab_le_s (ab_le_n (ab_le_n ab_le_0)))))))))
          · have h := h.1 q13
            exact h.elim
  · have h := h.2 q9
    exact h.elim

def wpc_31 (V : Mm) (o : Nat → Int64) (D : Nat → UInt64) (a1 a2 a3 : Int32) (J : Mm → Prop) : Prop := (wp_L_parent V a1 a2 o D (fun (k1 : Int32) (V2 : Mm) (o3 : Nat → Int64) (D4 : Nat → UInt64) => (wp_X9_parent V2 a1 a2 (fun (r5 : Int32) (V6 : Mm) => (wp_X9_thrown V6 (fun (r7 : Int32) (V8 : Mm) => ((r7 = k1 → ((k1 = 0 → (((lg_cmp ((o3 0)) ((r5).toInt64)) = 0 → J V8) ∧ (¬ (lg_cmp ((o3 0)) ((r5).toInt64)) = 0 → False))) ∧ (¬ k1 = 0 → J V8))) ∧ (¬ r7 = k1 → False))))))))
set_option maxHeartbeats 4000000 in
theorem cc_31 {X : ab_M} {g : ab_G} {cells slots b N : Nat} {xs9 : Nat → Int32} {Q : State → Prop} (O : ab_Ok X g cL_law RL) (hI : tk_S tk_strs (xs X)) (hR : xR X = room_1) (hX : va_X b N xs9 (xs X) (xs X).heap) (hbl : b < (xs X).heap.size) (hbA : ¬ g.1 ≤ b) (hc : cells + 6 ≤ 601024) (hs : slots + 36 ≤ 7293034) {x a1 a2 a3 : Int32} (hin1 : vp_in (x + 1) N) (hin2 : vp_in (x + 2) N) (hin3 : vp_in (x + 3) N) (e1 : xs9 (Int32.toNatClampNeg (x + 1)) = a1) (e2 : xs9 (Int32.toNatClampNeg (x + 2)) = a2) (e3 : xs9 (Int32.toNatClampNeg (x + 3)) = a3) {J : Mm → Prop} {V : Mm} {o : Nat → Int64} {D : Nat → UInt64} (h : wpc_31 V o D a1 a2 a3 J) (hk : ∀ (V : Mm) (o : Nat → Int64) (D : Nat → UInt64), J V → Ab X g (cells + 6) (slots + 36) Q 3013 [some (.retAddr b), some (.ref 0), some (.ref 57), some (.ref 72), some (.ref 73), some (.int x), none, none] [] (SW V o D)) : Ab X g cells slots Q 2049 [some (.retAddr b), some (.ref 0), some (.ref 57), some (.ref 72), some (.ref 73), some (.int x), none, none] [] (SW V o D) := by
  refine ab_aload_n O 1 dL_law_2049 rfl rfl ?_
  refine ab_aload_nR O 0 dL_law_2050 rfl rfl ?_
  refine ab_iload O dL_law_2051 rfl ?_
  refine ab_iconst O 1 dL_law_2053 rfl ?_
  refine ab_iadd O dL_law_2054 ?_
  refine ab_sld O hX hbl hbA dL_law_2055 hin1 ?_
  refine ab_eq (st2 := [.int a1, .ref 0]) ?_ rfl rfl (by rw [e1]) rfl
  refine ab_aload_nR O 0 dL_law_2056 rfl rfl ?_
  refine ab_iload O dL_law_2057 rfl ?_
  refine ab_iconst O 2 dL_law_2059 rfl ?_
  refine ab_iadd O dL_law_2060 ?_
  refine ab_sld O hX hbl hbA dL_law_2061 hin2 ?_
  refine ab_eq (st2 := [.int a2, .int a1, .ref 0]) ?_ rfl rfl (by rw [e2]) rfl
  refine ab_aload_n O 3 dL_law_2062 rfl rfl ?_
  refine ab_callh O hI (st := []) ch_L_257 dL_law_2063 (c_L_parent 11 (by decide) _ O.2.2.2.2.2.2.1 _ _ _ a1 a2 h) rfl rfl (by rw [hR]; exact ⟨by decide, by decide⟩) (show 0 ≤ 8 by decide) (by rw [hR]; exact ⟨show cells + 4 ≤ 601024 by omega, show slots + 24 ≤ 7293034 by omega⟩) (fun k1 u hu => ?_)
  obtain ⟨V2, o3, D4, rfl, h⟩ := hu
  refine ab_istore O dL_law_2066 (show 6 < 8 by decide) ?_
  refine ab_aload_n O 2 dL_law_2068 rfl rfl ?_
  refine ab_aload_nR O 0 dL_law_2069 rfl rfl ?_
  refine ab_iload O dL_law_2070 rfl ?_
  refine ab_iconst O 1 dL_law_2072 rfl ?_
  refine ab_iadd O dL_law_2073 ?_
  refine ab_sld O hX hbl hbA dL_law_2074 hin1 ?_
  refine ab_eq (st2 := [.int a1, .ref 57]) ?_ rfl rfl (by rw [e1]) rfl
  refine ab_aload_nR O 0 dL_law_2075 rfl rfl ?_
  refine ab_iload O dL_law_2076 rfl ?_
  refine ab_iconst O 2 dL_law_2078 rfl ?_
  refine ab_iadd O dL_law_2079 ?_
  refine ab_sld O hX hbl hbA dL_law_2080 hin2 ?_
  refine ab_eq (st2 := [.int a2, .int a1, .ref 57]) ?_ rfl rfl (by rw [e2]) rfl
  refine ab_callvI O hI (fr := False) (st := []) lk_L_259 rfl (at_57 _ _ _) dL_law_2081 (c_X9_parent 11 (by decide) _ O.2.2.2.2.2.2.1 _ _ _ a1 a2 h) rfl rfl (by rw [hR]; exact ⟨by decide, by decide⟩) (show 0 ≤ 8 by decide) (by rw [hR]; exact ⟨show cells + 4 ≤ 601024 by omega, show slots + 24 ≤ 7293034 by omega⟩) (fun q => q.elim) (fun E u q => q.elim) (fun r5 u hu => ?_)
  obtain ⟨V6, rfl, h⟩ := hu
  refine ab_istore O dL_law_2084 (show 7 < 8 by decide) ?_
  refine ab_aload_n O 2 dL_law_2086 rfl rfl ?_
  refine ab_callvI O hI (fr := False) (st := []) lk_L_155 rfl (at_57 _ _ _) dL_law_2087 (c_X9_thrown 11 (by decide) _ O.2.2.2.2.2.2.1 _ _ _ h) rfl rfl (by rw [hR]; exact ⟨by decide, by decide⟩) (show 0 ≤ 8 by decide) (by rw [hR]; exact ⟨show cells + 4 ≤ 601024 by omega, show slots + 24 ≤ 7293034 by omega⟩) (fun q => q.elim) (fun E u q => q.elim) (fun r7 u hu => ?_)
  obtain ⟨V8, rfl, h⟩ := hu
  refine ab_iload O dL_law_2090 rfl ?_
  refine ab_icmp_eq O 2097 dL_law_2092 rfl (fun q9 => ?_) (fun q9 => ?_)
  · have h := h.1 q9
    refine ab_iload O dL_law_2097 rfl ?_
    refine ab_if_ne O 2114 dL_law_2099 rfl (fun q10 => ?_) (fun q10 => ?_)
    · have h := h.2 q10
      refine ab_goto O 3013 dL_law_2114 rfl ?_
      exact ab_widen (by omega) (by omega) (ab_less (hk V8 o3 D4 h) (ab_le_s (ab_le_s (ab_le_s (ab_le_s (ab_le_s (ab_le_s (ab_le_n (ab_le_n ab_le_0)))))))))
    · have h := h.1 q10
      refine ab_aload_n O 3 dL_law_2102 rfl rfl ?_
      refine ab_iconst O 0 dL_law_2103 rfl ?_
      refine ab_lald O dL_law_2104 (at_72 _ _ _) (by unfold vp_in; decide) ?_
      refine ab_eq (st2 := [.long (o3 0)]) ?_ rfl rfl rfl rfl
      refine ab_iload O dL_law_2105 rfl ?_
      refine ab_i2l O dL_law_2107 ?_
      refine ab_lcmp O dL_law_2108 ?_
      refine ab_if_eq O 2114 dL_law_2109 rfl (fun q11 => ?_) (fun q11 => ?_)
      · have h := h.1 q11
        refine ab_goto O 3013 dL_law_2114 rfl ?_
        exact ab_widen (by omega) (by omega) (ab_less (hk V8 o3 D4 h) (ab_le_s (ab_le_s (ab_le_s (ab_le_s (ab_le_s (ab_le_s (ab_le_n (ab_le_n ab_le_0)))))))))
      · have h := h.2 q11
        exact h.elim
  · have h := h.2 q9
    exact h.elim

def wpc_32 (V : Mm) (o : Nat → Int64) (D : Nat → UInt64) (a1 a2 a3 : Int32) (J : Mm → Prop) : Prop := (wp_L_depth V a1 a2 o D (fun (k1 : Int32) (V2 : Mm) (o3 : Nat → Int64) (D4 : Nat → UInt64) => (wp_X9_depth V2 a1 a2 (fun (r5 : Int32) (V6 : Mm) => (wp_X9_thrown V6 (fun (r7 : Int32) (V8 : Mm) => ((r7 = k1 → ((k1 = 0 → (((lg_cmp ((o3 0)) ((r5).toInt64)) = 0 → J V8) ∧ (¬ (lg_cmp ((o3 0)) ((r5).toInt64)) = 0 → False))) ∧ (¬ k1 = 0 → J V8))) ∧ (¬ r7 = k1 → False))))))))
set_option maxHeartbeats 4000000 in
theorem cc_32 {X : ab_M} {g : ab_G} {cells slots b N : Nat} {xs9 : Nat → Int32} {Q : State → Prop} (O : ab_Ok X g cL_law RL) (hI : tk_S tk_strs (xs X)) (hR : xR X = room_1) (hX : va_X b N xs9 (xs X) (xs X).heap) (hbl : b < (xs X).heap.size) (hbA : ¬ g.1 ≤ b) (hc : cells + 6 ≤ 601024) (hs : slots + 36 ≤ 7293034) {x a1 a2 a3 : Int32} (hin1 : vp_in (x + 1) N) (hin2 : vp_in (x + 2) N) (hin3 : vp_in (x + 3) N) (e1 : xs9 (Int32.toNatClampNeg (x + 1)) = a1) (e2 : xs9 (Int32.toNatClampNeg (x + 2)) = a2) (e3 : xs9 (Int32.toNatClampNeg (x + 3)) = a3) {J : Mm → Prop} {V : Mm} {o : Nat → Int64} {D : Nat → UInt64} (h : wpc_32 V o D a1 a2 a3 J) (hk : ∀ (V : Mm) (o : Nat → Int64) (D : Nat → UInt64), J V → Ab X g (cells + 6) (slots + 36) Q 3013 [some (.retAddr b), some (.ref 0), some (.ref 57), some (.ref 72), some (.ref 73), some (.int x), none, none] [] (SW V o D)) : Ab X g cells slots Q 2117 [some (.retAddr b), some (.ref 0), some (.ref 57), some (.ref 72), some (.ref 73), some (.int x), none, none] [] (SW V o D) := by
  refine ab_aload_n O 1 dL_law_2117 rfl rfl ?_
  refine ab_aload_nR O 0 dL_law_2118 rfl rfl ?_
  refine ab_iload O dL_law_2119 rfl ?_
  refine ab_iconst O 1 dL_law_2121 rfl ?_
  refine ab_iadd O dL_law_2122 ?_
  refine ab_sld O hX hbl hbA dL_law_2123 hin1 ?_
  refine ab_eq (st2 := [.int a1, .ref 0]) ?_ rfl rfl (by rw [e1]) rfl
  refine ab_aload_nR O 0 dL_law_2124 rfl rfl ?_
  refine ab_iload O dL_law_2125 rfl ?_
  refine ab_iconst O 2 dL_law_2127 rfl ?_
  refine ab_iadd O dL_law_2128 ?_
  refine ab_sld O hX hbl hbA dL_law_2129 hin2 ?_
  refine ab_eq (st2 := [.int a2, .int a1, .ref 0]) ?_ rfl rfl (by rw [e2]) rfl
  refine ab_aload_n O 3 dL_law_2130 rfl rfl ?_
  refine ab_callh O hI (st := []) ch_L_260 dL_law_2131 (c_L_depth 11 (by decide) _ O.2.2.2.2.2.2.1 _ _ _ a1 a2 h) rfl rfl (by rw [hR]; exact ⟨by decide, by decide⟩) (show 0 ≤ 8 by decide) (by rw [hR]; exact ⟨show cells + 3 ≤ 601024 by omega, show slots + 18 ≤ 7293034 by omega⟩) (fun k1 u hu => ?_)
  obtain ⟨V2, o3, D4, rfl, h⟩ := hu
  refine ab_istore O dL_law_2134 (show 6 < 8 by decide) ?_
  refine ab_aload_n O 2 dL_law_2136 rfl rfl ?_
  refine ab_aload_nR O 0 dL_law_2137 rfl rfl ?_
  refine ab_iload O dL_law_2138 rfl ?_
  refine ab_iconst O 1 dL_law_2140 rfl ?_
  refine ab_iadd O dL_law_2141 ?_
  refine ab_sld O hX hbl hbA dL_law_2142 hin1 ?_
  refine ab_eq (st2 := [.int a1, .ref 57]) ?_ rfl rfl (by rw [e1]) rfl
  refine ab_aload_nR O 0 dL_law_2143 rfl rfl ?_
  refine ab_iload O dL_law_2144 rfl ?_
  refine ab_iconst O 2 dL_law_2146 rfl ?_
  refine ab_iadd O dL_law_2147 ?_
  refine ab_sld O hX hbl hbA dL_law_2148 hin2 ?_
  refine ab_eq (st2 := [.int a2, .int a1, .ref 57]) ?_ rfl rfl (by rw [e2]) rfl
  refine ab_callvI O hI (fr := False) (st := []) lk_L_262 rfl (at_57 _ _ _) dL_law_2149 (c_X9_depth 11 (by decide) _ O.2.2.2.2.2.2.1 _ _ _ a1 a2 h) rfl rfl (by rw [hR]; exact ⟨by decide, by decide⟩) (show 0 ≤ 8 by decide) (by rw [hR]; exact ⟨show cells + 3 ≤ 601024 by omega, show slots + 18 ≤ 7293034 by omega⟩) (fun q => q.elim) (fun E u q => q.elim) (fun r5 u hu => ?_)
  obtain ⟨V6, rfl, h⟩ := hu
  refine ab_istore O dL_law_2152 (show 7 < 8 by decide) ?_
  refine ab_aload_n O 2 dL_law_2154 rfl rfl ?_
  refine ab_callvI O hI (fr := False) (st := []) lk_L_155 rfl (at_57 _ _ _) dL_law_2155 (c_X9_thrown 11 (by decide) _ O.2.2.2.2.2.2.1 _ _ _ h) rfl rfl (by rw [hR]; exact ⟨by decide, by decide⟩) (show 0 ≤ 8 by decide) (by rw [hR]; exact ⟨show cells + 3 ≤ 601024 by omega, show slots + 18 ≤ 7293034 by omega⟩) (fun q => q.elim) (fun E u q => q.elim) (fun r7 u hu => ?_)
  obtain ⟨V8, rfl, h⟩ := hu
  refine ab_iload O dL_law_2158 rfl ?_
  refine ab_icmp_eq O 2165 dL_law_2160 rfl (fun q9 => ?_) (fun q9 => ?_)
  · have h := h.1 q9
    refine ab_iload O dL_law_2165 rfl ?_
    refine ab_if_ne O 2182 dL_law_2167 rfl (fun q10 => ?_) (fun q10 => ?_)
    · have h := h.2 q10
      refine ab_goto O 3013 dL_law_2182 rfl ?_
      exact ab_widen (by omega) (by omega) (ab_less (hk V8 o3 D4 h) (ab_le_s (ab_le_s (ab_le_s (ab_le_s (ab_le_s (ab_le_s (ab_le_n (ab_le_n ab_le_0)))))))))
    · have h := h.1 q10
      refine ab_aload_n O 3 dL_law_2170 rfl rfl ?_
      refine ab_iconst O 0 dL_law_2171 rfl ?_
      refine ab_lald O dL_law_2172 (at_72 _ _ _) (by unfold vp_in; decide) ?_
      refine ab_eq (st2 := [.long (o3 0)]) ?_ rfl rfl rfl rfl
      refine ab_iload O dL_law_2173 rfl ?_
      refine ab_i2l O dL_law_2175 ?_
      refine ab_lcmp O dL_law_2176 ?_
      refine ab_if_eq O 2182 dL_law_2177 rfl (fun q11 => ?_) (fun q11 => ?_)
      · have h := h.1 q11
        refine ab_goto O 3013 dL_law_2182 rfl ?_
        exact ab_widen (by omega) (by omega) (ab_less (hk V8 o3 D4 h) (ab_le_s (ab_le_s (ab_le_s (ab_le_s (ab_le_s (ab_le_s (ab_le_n (ab_le_n ab_le_0)))))))))
      · have h := h.2 q11
        exact h.elim
  · have h := h.2 q9
    exact h.elim

def wpc_33 (V : Mm) (o : Nat → Int64) (D : Nat → UInt64) (a1 a2 a3 : Int32) (J : Mm → Prop) : Prop := (wp_L_ancestor V a1 a2 a3 o D (fun (k1 : Int32) (V2 : Mm) (o3 : Nat → Int64) (D4 : Nat → UInt64) => (wp_X9_ancestor V2 a1 a2 a3 (fun (r5 : Int32) (V6 : Mm) => (wp_X9_thrown V6 (fun (r7 : Int32) (V8 : Mm) => ((r7 = k1 → ((k1 = 0 → (((lg_cmp ((o3 0)) ((r5).toInt64)) = 0 → J V8) ∧ (¬ (lg_cmp ((o3 0)) ((r5).toInt64)) = 0 → False))) ∧ (¬ k1 = 0 → J V8))) ∧ (¬ r7 = k1 → False))))))))
set_option maxHeartbeats 4000000 in
theorem cc_33 {X : ab_M} {g : ab_G} {cells slots b N : Nat} {xs9 : Nat → Int32} {Q : State → Prop} (O : ab_Ok X g cL_law RL) (hI : tk_S tk_strs (xs X)) (hR : xR X = room_1) (hX : va_X b N xs9 (xs X) (xs X).heap) (hbl : b < (xs X).heap.size) (hbA : ¬ g.1 ≤ b) (hc : cells + 6 ≤ 601024) (hs : slots + 36 ≤ 7293034) {x a1 a2 a3 : Int32} (hin1 : vp_in (x + 1) N) (hin2 : vp_in (x + 2) N) (hin3 : vp_in (x + 3) N) (e1 : xs9 (Int32.toNatClampNeg (x + 1)) = a1) (e2 : xs9 (Int32.toNatClampNeg (x + 2)) = a2) (e3 : xs9 (Int32.toNatClampNeg (x + 3)) = a3) {J : Mm → Prop} {V : Mm} {o : Nat → Int64} {D : Nat → UInt64} (h : wpc_33 V o D a1 a2 a3 J) (hk : ∀ (V : Mm) (o : Nat → Int64) (D : Nat → UInt64), J V → Ab X g (cells + 6) (slots + 36) Q 3013 [some (.retAddr b), some (.ref 0), some (.ref 57), some (.ref 72), some (.ref 73), some (.int x), none, none] [] (SW V o D)) : Ab X g cells slots Q 2185 [some (.retAddr b), some (.ref 0), some (.ref 57), some (.ref 72), some (.ref 73), some (.int x), none, none] [] (SW V o D) := by
  refine ab_aload_n O 1 dL_law_2185 rfl rfl ?_
  refine ab_aload_nR O 0 dL_law_2186 rfl rfl ?_
  refine ab_iload O dL_law_2187 rfl ?_
  refine ab_iconst O 1 dL_law_2189 rfl ?_
  refine ab_iadd O dL_law_2190 ?_
  refine ab_sld O hX hbl hbA dL_law_2191 hin1 ?_
  refine ab_eq (st2 := [.int a1, .ref 0]) ?_ rfl rfl (by rw [e1]) rfl
  refine ab_aload_nR O 0 dL_law_2192 rfl rfl ?_
  refine ab_iload O dL_law_2193 rfl ?_
  refine ab_iconst O 2 dL_law_2195 rfl ?_
  refine ab_iadd O dL_law_2196 ?_
  refine ab_sld O hX hbl hbA dL_law_2197 hin2 ?_
  refine ab_eq (st2 := [.int a2, .int a1, .ref 0]) ?_ rfl rfl (by rw [e2]) rfl
  refine ab_aload_nR O 0 dL_law_2198 rfl rfl ?_
  refine ab_iload O dL_law_2199 rfl ?_
  refine ab_iconst O 3 dL_law_2201 rfl ?_
  refine ab_iadd O dL_law_2202 ?_
  refine ab_sld O hX hbl hbA dL_law_2203 hin3 ?_
  refine ab_eq (st2 := [.int a3, .int a2, .int a1, .ref 0]) ?_ rfl rfl (by rw [e3]) rfl
  refine ab_aload_n O 3 dL_law_2204 rfl rfl ?_
  refine ab_callh O hI (st := []) ch_L_263 dL_law_2205 (c_L_ancestor 11 (by decide) _ O.2.2.2.2.2.2.1 _ _ _ a1 a2 a3 h) rfl rfl (by rw [hR]; exact ⟨by decide, by decide⟩) (show 0 ≤ 8 by decide) (by rw [hR]; exact ⟨show cells + 4 ≤ 601024 by omega, show slots + 24 ≤ 7293034 by omega⟩) (fun k1 u hu => ?_)
  obtain ⟨V2, o3, D4, rfl, h⟩ := hu
  refine ab_istore O dL_law_2208 (show 6 < 8 by decide) ?_
  refine ab_aload_n O 2 dL_law_2210 rfl rfl ?_
  refine ab_aload_nR O 0 dL_law_2211 rfl rfl ?_
  refine ab_iload O dL_law_2212 rfl ?_
  refine ab_iconst O 1 dL_law_2214 rfl ?_
  refine ab_iadd O dL_law_2215 ?_
  refine ab_sld O hX hbl hbA dL_law_2216 hin1 ?_
  refine ab_eq (st2 := [.int a1, .ref 57]) ?_ rfl rfl (by rw [e1]) rfl
  refine ab_aload_nR O 0 dL_law_2217 rfl rfl ?_
  refine ab_iload O dL_law_2218 rfl ?_
  refine ab_iconst O 2 dL_law_2220 rfl ?_
  refine ab_iadd O dL_law_2221 ?_
  refine ab_sld O hX hbl hbA dL_law_2222 hin2 ?_
  refine ab_eq (st2 := [.int a2, .int a1, .ref 57]) ?_ rfl rfl (by rw [e2]) rfl
  refine ab_aload_nR O 0 dL_law_2223 rfl rfl ?_
  refine ab_iload O dL_law_2224 rfl ?_
  refine ab_iconst O 3 dL_law_2226 rfl ?_
  refine ab_iadd O dL_law_2227 ?_
  refine ab_sld O hX hbl hbA dL_law_2228 hin3 ?_
  refine ab_eq (st2 := [.int a3, .int a2, .int a1, .ref 57]) ?_ rfl rfl (by rw [e3]) rfl
  refine ab_callvI O hI (fr := False) (st := []) lk_L_265 rfl (at_57 _ _ _) dL_law_2229 (c_X9_ancestor 11 (by decide) _ O.2.2.2.2.2.2.1 _ _ _ a1 a2 a3 h) rfl rfl (by rw [hR]; exact ⟨by decide, by decide⟩) (show 0 ≤ 8 by decide) (by rw [hR]; exact ⟨show cells + 4 ≤ 601024 by omega, show slots + 24 ≤ 7293034 by omega⟩) (fun q => q.elim) (fun E u q => q.elim) (fun r5 u hu => ?_)
  obtain ⟨V6, rfl, h⟩ := hu
  refine ab_istore O dL_law_2232 (show 7 < 8 by decide) ?_
  refine ab_aload_n O 2 dL_law_2234 rfl rfl ?_
  refine ab_callvI O hI (fr := False) (st := []) lk_L_155 rfl (at_57 _ _ _) dL_law_2235 (c_X9_thrown 11 (by decide) _ O.2.2.2.2.2.2.1 _ _ _ h) rfl rfl (by rw [hR]; exact ⟨by decide, by decide⟩) (show 0 ≤ 8 by decide) (by rw [hR]; exact ⟨show cells + 4 ≤ 601024 by omega, show slots + 24 ≤ 7293034 by omega⟩) (fun q => q.elim) (fun E u q => q.elim) (fun r7 u hu => ?_)
  obtain ⟨V8, rfl, h⟩ := hu
  refine ab_iload O dL_law_2238 rfl ?_
  refine ab_icmp_eq O 2245 dL_law_2240 rfl (fun q9 => ?_) (fun q9 => ?_)
  · have h := h.1 q9
    refine ab_iload O dL_law_2245 rfl ?_
    refine ab_if_ne O 2262 dL_law_2247 rfl (fun q10 => ?_) (fun q10 => ?_)
    · have h := h.2 q10
      refine ab_goto O 3013 dL_law_2262 rfl ?_
      exact ab_widen (by omega) (by omega) (ab_less (hk V8 o3 D4 h) (ab_le_s (ab_le_s (ab_le_s (ab_le_s (ab_le_s (ab_le_s (ab_le_n (ab_le_n ab_le_0)))))))))
    · have h := h.1 q10
      refine ab_aload_n O 3 dL_law_2250 rfl rfl ?_
      refine ab_iconst O 0 dL_law_2251 rfl ?_
      refine ab_lald O dL_law_2252 (at_72 _ _ _) (by unfold vp_in; decide) ?_
      refine ab_eq (st2 := [.long (o3 0)]) ?_ rfl rfl rfl rfl
      refine ab_iload O dL_law_2253 rfl ?_
      refine ab_i2l O dL_law_2255 ?_
      refine ab_lcmp O dL_law_2256 ?_
      refine ab_if_eq O 2262 dL_law_2257 rfl (fun q11 => ?_) (fun q11 => ?_)
      · have h := h.1 q11
        refine ab_goto O 3013 dL_law_2262 rfl ?_
        exact ab_widen (by omega) (by omega) (ab_less (hk V8 o3 D4 h) (ab_le_s (ab_le_s (ab_le_s (ab_le_s (ab_le_s (ab_le_s (ab_le_n (ab_le_n ab_le_0)))))))))
      · have h := h.2 q11
        exact h.elim
  · have h := h.2 q9
    exact h.elim

def wpc_34 (V : Mm) (o : Nat → Int64) (D : Nat → UInt64) (a1 a2 a3 : Int32) (J : Mm → Prop) : Prop := (wp_L_ancestorByWalk V a1 a2 a3 o D (fun (k1 : Int32) (V2 : Mm) (o3 : Nat → Int64) (D4 : Nat → UInt64) => (wp_X9_ancestorByWalk V2 a1 a2 a3 (fun (r5 : Int32) (V6 : Mm) => (wp_X9_thrown V6 (fun (r7 : Int32) (V8 : Mm) => ((r7 = k1 → ((k1 = 0 → (((lg_cmp ((o3 0)) ((r5).toInt64)) = 0 → J V8) ∧ (¬ (lg_cmp ((o3 0)) ((r5).toInt64)) = 0 → False))) ∧ (¬ k1 = 0 → J V8))) ∧ (¬ r7 = k1 → False))))))))
set_option maxHeartbeats 4000000 in
theorem cc_34 {X : ab_M} {g : ab_G} {cells slots b N : Nat} {xs9 : Nat → Int32} {Q : State → Prop} (O : ab_Ok X g cL_law RL) (hI : tk_S tk_strs (xs X)) (hR : xR X = room_1) (hX : va_X b N xs9 (xs X) (xs X).heap) (hbl : b < (xs X).heap.size) (hbA : ¬ g.1 ≤ b) (hc : cells + 6 ≤ 601024) (hs : slots + 36 ≤ 7293034) {x a1 a2 a3 : Int32} (hin1 : vp_in (x + 1) N) (hin2 : vp_in (x + 2) N) (hin3 : vp_in (x + 3) N) (e1 : xs9 (Int32.toNatClampNeg (x + 1)) = a1) (e2 : xs9 (Int32.toNatClampNeg (x + 2)) = a2) (e3 : xs9 (Int32.toNatClampNeg (x + 3)) = a3) {J : Mm → Prop} {V : Mm} {o : Nat → Int64} {D : Nat → UInt64} (h : wpc_34 V o D a1 a2 a3 J) (hk : ∀ (V : Mm) (o : Nat → Int64) (D : Nat → UInt64), J V → Ab X g (cells + 6) (slots + 36) Q 3013 [some (.retAddr b), some (.ref 0), some (.ref 57), some (.ref 72), some (.ref 73), some (.int x), none, none] [] (SW V o D)) : Ab X g cells slots Q 2265 [some (.retAddr b), some (.ref 0), some (.ref 57), some (.ref 72), some (.ref 73), some (.int x), none, none] [] (SW V o D) := by
  refine ab_aload_n O 1 dL_law_2265 rfl rfl ?_
  refine ab_aload_nR O 0 dL_law_2266 rfl rfl ?_
  refine ab_iload O dL_law_2267 rfl ?_
  refine ab_iconst O 1 dL_law_2269 rfl ?_
  refine ab_iadd O dL_law_2270 ?_
  refine ab_sld O hX hbl hbA dL_law_2271 hin1 ?_
  refine ab_eq (st2 := [.int a1, .ref 0]) ?_ rfl rfl (by rw [e1]) rfl
  refine ab_aload_nR O 0 dL_law_2272 rfl rfl ?_
  refine ab_iload O dL_law_2273 rfl ?_
  refine ab_iconst O 2 dL_law_2275 rfl ?_
  refine ab_iadd O dL_law_2276 ?_
  refine ab_sld O hX hbl hbA dL_law_2277 hin2 ?_
  refine ab_eq (st2 := [.int a2, .int a1, .ref 0]) ?_ rfl rfl (by rw [e2]) rfl
  refine ab_aload_nR O 0 dL_law_2278 rfl rfl ?_
  refine ab_iload O dL_law_2279 rfl ?_
  refine ab_iconst O 3 dL_law_2281 rfl ?_
  refine ab_iadd O dL_law_2282 ?_
  refine ab_sld O hX hbl hbA dL_law_2283 hin3 ?_
  refine ab_eq (st2 := [.int a3, .int a2, .int a1, .ref 0]) ?_ rfl rfl (by rw [e3]) rfl
  refine ab_aload_n O 3 dL_law_2284 rfl rfl ?_
  refine ab_callh O hI (st := []) ch_L_266 dL_law_2285 (c_L_ancestorByWalk 11 (by decide) _ O.2.2.2.2.2.2.1 _ _ _ a1 a2 a3 h) rfl rfl (by rw [hR]; exact ⟨by decide, by decide⟩) (show 0 ≤ 8 by decide) (by rw [hR]; exact ⟨show cells + 4 ≤ 601024 by omega, show slots + 24 ≤ 7293034 by omega⟩) (fun k1 u hu => ?_)
  obtain ⟨V2, o3, D4, rfl, h⟩ := hu
  refine ab_istore O dL_law_2288 (show 6 < 8 by decide) ?_
  refine ab_aload_n O 2 dL_law_2290 rfl rfl ?_
  refine ab_aload_nR O 0 dL_law_2291 rfl rfl ?_
  refine ab_iload O dL_law_2292 rfl ?_
  refine ab_iconst O 1 dL_law_2294 rfl ?_
  refine ab_iadd O dL_law_2295 ?_
  refine ab_sld O hX hbl hbA dL_law_2296 hin1 ?_
  refine ab_eq (st2 := [.int a1, .ref 57]) ?_ rfl rfl (by rw [e1]) rfl
  refine ab_aload_nR O 0 dL_law_2297 rfl rfl ?_
  refine ab_iload O dL_law_2298 rfl ?_
  refine ab_iconst O 2 dL_law_2300 rfl ?_
  refine ab_iadd O dL_law_2301 ?_
  refine ab_sld O hX hbl hbA dL_law_2302 hin2 ?_
  refine ab_eq (st2 := [.int a2, .int a1, .ref 57]) ?_ rfl rfl (by rw [e2]) rfl
  refine ab_aload_nR O 0 dL_law_2303 rfl rfl ?_
  refine ab_iload O dL_law_2304 rfl ?_
  refine ab_iconst O 3 dL_law_2306 rfl ?_
  refine ab_iadd O dL_law_2307 ?_
  refine ab_sld O hX hbl hbA dL_law_2308 hin3 ?_
  refine ab_eq (st2 := [.int a3, .int a2, .int a1, .ref 57]) ?_ rfl rfl (by rw [e3]) rfl
  refine ab_callvI O hI (fr := False) (st := []) lk_L_268 rfl (at_57 _ _ _) dL_law_2309 (c_X9_ancestorByWalk 11 (by decide) _ O.2.2.2.2.2.2.1 _ _ _ a1 a2 a3 h) rfl rfl (by rw [hR]; exact ⟨by decide, by decide⟩) (show 0 ≤ 8 by decide) (by rw [hR]; exact ⟨show cells + 4 ≤ 601024 by omega, show slots + 24 ≤ 7293034 by omega⟩) (fun q => q.elim) (fun E u q => q.elim) (fun r5 u hu => ?_)
  obtain ⟨V6, rfl, h⟩ := hu
  refine ab_istore O dL_law_2312 (show 7 < 8 by decide) ?_
  refine ab_aload_n O 2 dL_law_2314 rfl rfl ?_
  refine ab_callvI O hI (fr := False) (st := []) lk_L_155 rfl (at_57 _ _ _) dL_law_2315 (c_X9_thrown 11 (by decide) _ O.2.2.2.2.2.2.1 _ _ _ h) rfl rfl (by rw [hR]; exact ⟨by decide, by decide⟩) (show 0 ≤ 8 by decide) (by rw [hR]; exact ⟨show cells + 4 ≤ 601024 by omega, show slots + 24 ≤ 7293034 by omega⟩) (fun q => q.elim) (fun E u q => q.elim) (fun r7 u hu => ?_)
  obtain ⟨V8, rfl, h⟩ := hu
  refine ab_iload O dL_law_2318 rfl ?_
  refine ab_icmp_eq O 2325 dL_law_2320 rfl (fun q9 => ?_) (fun q9 => ?_)
  · have h := h.1 q9
    refine ab_iload O dL_law_2325 rfl ?_
    refine ab_if_ne O 2342 dL_law_2327 rfl (fun q10 => ?_) (fun q10 => ?_)
    · have h := h.2 q10
      refine ab_goto O 3013 dL_law_2342 rfl ?_
      exact ab_widen (by omega) (by omega) (ab_less (hk V8 o3 D4 h) (ab_le_s (ab_le_s (ab_le_s (ab_le_s (ab_le_s (ab_le_s (ab_le_n (ab_le_n ab_le_0)))))))))
    · have h := h.1 q10
      refine ab_aload_n O 3 dL_law_2330 rfl rfl ?_
      refine ab_iconst O 0 dL_law_2331 rfl ?_
      refine ab_lald O dL_law_2332 (at_72 _ _ _) (by unfold vp_in; decide) ?_
      refine ab_eq (st2 := [.long (o3 0)]) ?_ rfl rfl rfl rfl
      refine ab_iload O dL_law_2333 rfl ?_
      refine ab_i2l O dL_law_2335 ?_
      refine ab_lcmp O dL_law_2336 ?_
      refine ab_if_eq O 2342 dL_law_2337 rfl (fun q11 => ?_) (fun q11 => ?_)
      · have h := h.1 q11
        refine ab_goto O 3013 dL_law_2342 rfl ?_
        exact ab_widen (by omega) (by omega) (ab_less (hk V8 o3 D4 h) (ab_le_s (ab_le_s (ab_le_s (ab_le_s (ab_le_s (ab_le_s (ab_le_n (ab_le_n ab_le_0)))))))))
      · have h := h.2 q11
        exact h.elim
  · have h := h.2 q9
    exact h.elim

def wpc_35 (V : Mm) (o : Nat → Int64) (D : Nat → UInt64) (a1 a2 a3 : Int32) (J : Mm → Prop) : Prop := (wp_L_common V a1 a2 a3 o D (fun (k1 : Int32) (V2 : Mm) (o3 : Nat → Int64) (D4 : Nat → UInt64) => (wp_X9_common V2 a1 a2 a3 (fun (r5 : Int32) (V6 : Mm) => (wp_X9_thrown V6 (fun (r7 : Int32) (V8 : Mm) => ((r7 = k1 → ((k1 = 0 → (((lg_cmp ((o3 0)) ((r5).toInt64)) = 0 → J V8) ∧ (¬ (lg_cmp ((o3 0)) ((r5).toInt64)) = 0 → False))) ∧ (¬ k1 = 0 → J V8))) ∧ (¬ r7 = k1 → False))))))))
set_option maxHeartbeats 4000000 in
theorem cc_35 {X : ab_M} {g : ab_G} {cells slots b N : Nat} {xs9 : Nat → Int32} {Q : State → Prop} (O : ab_Ok X g cL_law RL) (hI : tk_S tk_strs (xs X)) (hR : xR X = room_1) (hX : va_X b N xs9 (xs X) (xs X).heap) (hbl : b < (xs X).heap.size) (hbA : ¬ g.1 ≤ b) (hc : cells + 6 ≤ 601024) (hs : slots + 36 ≤ 7293034) {x a1 a2 a3 : Int32} (hin1 : vp_in (x + 1) N) (hin2 : vp_in (x + 2) N) (hin3 : vp_in (x + 3) N) (e1 : xs9 (Int32.toNatClampNeg (x + 1)) = a1) (e2 : xs9 (Int32.toNatClampNeg (x + 2)) = a2) (e3 : xs9 (Int32.toNatClampNeg (x + 3)) = a3) {J : Mm → Prop} {V : Mm} {o : Nat → Int64} {D : Nat → UInt64} (h : wpc_35 V o D a1 a2 a3 J) (hk : ∀ (V : Mm) (o : Nat → Int64) (D : Nat → UInt64), J V → Ab X g (cells + 6) (slots + 36) Q 3013 [some (.retAddr b), some (.ref 0), some (.ref 57), some (.ref 72), some (.ref 73), some (.int x), none, none] [] (SW V o D)) : Ab X g cells slots Q 2345 [some (.retAddr b), some (.ref 0), some (.ref 57), some (.ref 72), some (.ref 73), some (.int x), none, none] [] (SW V o D) := by
  refine ab_aload_n O 1 dL_law_2345 rfl rfl ?_
  refine ab_aload_nR O 0 dL_law_2346 rfl rfl ?_
  refine ab_iload O dL_law_2347 rfl ?_
  refine ab_iconst O 1 dL_law_2349 rfl ?_
  refine ab_iadd O dL_law_2350 ?_
  refine ab_sld O hX hbl hbA dL_law_2351 hin1 ?_
  refine ab_eq (st2 := [.int a1, .ref 0]) ?_ rfl rfl (by rw [e1]) rfl
  refine ab_aload_nR O 0 dL_law_2352 rfl rfl ?_
  refine ab_iload O dL_law_2353 rfl ?_
  refine ab_iconst O 2 dL_law_2355 rfl ?_
  refine ab_iadd O dL_law_2356 ?_
  refine ab_sld O hX hbl hbA dL_law_2357 hin2 ?_
  refine ab_eq (st2 := [.int a2, .int a1, .ref 0]) ?_ rfl rfl (by rw [e2]) rfl
  refine ab_aload_nR O 0 dL_law_2358 rfl rfl ?_
  refine ab_iload O dL_law_2359 rfl ?_
  refine ab_iconst O 3 dL_law_2361 rfl ?_
  refine ab_iadd O dL_law_2362 ?_
  refine ab_sld O hX hbl hbA dL_law_2363 hin3 ?_
  refine ab_eq (st2 := [.int a3, .int a2, .int a1, .ref 0]) ?_ rfl rfl (by rw [e3]) rfl
  refine ab_aload_n O 3 dL_law_2364 rfl rfl ?_
  refine ab_callh O hI (st := []) ch_L_269 dL_law_2365 (c_L_common 11 (by decide) _ O.2.2.2.2.2.2.1 _ _ _ a1 a2 a3 h) rfl rfl (by rw [hR]; exact ⟨by decide, by decide⟩) (show 0 ≤ 8 by decide) (by rw [hR]; exact ⟨show cells + 5 ≤ 601024 by omega, show slots + 30 ≤ 7293034 by omega⟩) (fun k1 u hu => ?_)
  obtain ⟨V2, o3, D4, rfl, h⟩ := hu
  refine ab_istore O dL_law_2368 (show 6 < 8 by decide) ?_
  refine ab_aload_n O 2 dL_law_2370 rfl rfl ?_
  refine ab_aload_nR O 0 dL_law_2371 rfl rfl ?_
  refine ab_iload O dL_law_2372 rfl ?_
  refine ab_iconst O 1 dL_law_2374 rfl ?_
  refine ab_iadd O dL_law_2375 ?_
  refine ab_sld O hX hbl hbA dL_law_2376 hin1 ?_
  refine ab_eq (st2 := [.int a1, .ref 57]) ?_ rfl rfl (by rw [e1]) rfl
  refine ab_aload_nR O 0 dL_law_2377 rfl rfl ?_
  refine ab_iload O dL_law_2378 rfl ?_
  refine ab_iconst O 2 dL_law_2380 rfl ?_
  refine ab_iadd O dL_law_2381 ?_
  refine ab_sld O hX hbl hbA dL_law_2382 hin2 ?_
  refine ab_eq (st2 := [.int a2, .int a1, .ref 57]) ?_ rfl rfl (by rw [e2]) rfl
  refine ab_aload_nR O 0 dL_law_2383 rfl rfl ?_
  refine ab_iload O dL_law_2384 rfl ?_
  refine ab_iconst O 3 dL_law_2386 rfl ?_
  refine ab_iadd O dL_law_2387 ?_
  refine ab_sld O hX hbl hbA dL_law_2388 hin3 ?_
  refine ab_eq (st2 := [.int a3, .int a2, .int a1, .ref 57]) ?_ rfl rfl (by rw [e3]) rfl
  refine ab_callvI O hI (fr := False) (st := []) lk_L_271 rfl (at_57 _ _ _) dL_law_2389 (c_X9_common 11 (by decide) _ O.2.2.2.2.2.2.1 _ _ _ a1 a2 a3 h) rfl rfl (by rw [hR]; exact ⟨by decide, by decide⟩) (show 0 ≤ 8 by decide) (by rw [hR]; exact ⟨show cells + 5 ≤ 601024 by omega, show slots + 30 ≤ 7293034 by omega⟩) (fun q => q.elim) (fun E u q => q.elim) (fun r5 u hu => ?_)
  obtain ⟨V6, rfl, h⟩ := hu
  refine ab_istore O dL_law_2392 (show 7 < 8 by decide) ?_
  refine ab_aload_n O 2 dL_law_2394 rfl rfl ?_
  refine ab_callvI O hI (fr := False) (st := []) lk_L_155 rfl (at_57 _ _ _) dL_law_2395 (c_X9_thrown 11 (by decide) _ O.2.2.2.2.2.2.1 _ _ _ h) rfl rfl (by rw [hR]; exact ⟨by decide, by decide⟩) (show 0 ≤ 8 by decide) (by rw [hR]; exact ⟨show cells + 5 ≤ 601024 by omega, show slots + 30 ≤ 7293034 by omega⟩) (fun q => q.elim) (fun E u q => q.elim) (fun r7 u hu => ?_)
  obtain ⟨V8, rfl, h⟩ := hu
  refine ab_iload O dL_law_2398 rfl ?_
  refine ab_icmp_eq O 2405 dL_law_2400 rfl (fun q9 => ?_) (fun q9 => ?_)
  · have h := h.1 q9
    refine ab_iload O dL_law_2405 rfl ?_
    refine ab_if_ne O 2422 dL_law_2407 rfl (fun q10 => ?_) (fun q10 => ?_)
    · have h := h.2 q10
      refine ab_goto O 3013 dL_law_2422 rfl ?_
      exact ab_widen (by omega) (by omega) (ab_less (hk V8 o3 D4 h) (ab_le_s (ab_le_s (ab_le_s (ab_le_s (ab_le_s (ab_le_s (ab_le_n (ab_le_n ab_le_0)))))))))
    · have h := h.1 q10
      refine ab_aload_n O 3 dL_law_2410 rfl rfl ?_
      refine ab_iconst O 0 dL_law_2411 rfl ?_
      refine ab_lald O dL_law_2412 (at_72 _ _ _) (by unfold vp_in; decide) ?_
      refine ab_eq (st2 := [.long (o3 0)]) ?_ rfl rfl rfl rfl
      refine ab_iload O dL_law_2413 rfl ?_
      refine ab_i2l O dL_law_2415 ?_
      refine ab_lcmp O dL_law_2416 ?_
      refine ab_if_eq O 2422 dL_law_2417 rfl (fun q11 => ?_) (fun q11 => ?_)
      · have h := h.1 q11
        refine ab_goto O 3013 dL_law_2422 rfl ?_
        exact ab_widen (by omega) (by omega) (ab_less (hk V8 o3 D4 h) (ab_le_s (ab_le_s (ab_le_s (ab_le_s (ab_le_s (ab_le_s (ab_le_n (ab_le_n ab_le_0)))))))))
      · have h := h.2 q11
        exact h.elim
  · have h := h.2 q9
    exact h.elim

def wpc_36 (V : Mm) (o : Nat → Int64) (D : Nat → UInt64) (a1 a2 a3 : Int32) (J : Mm → Prop) : Prop := (wp_L_commonByWalk V a1 a2 a3 o D (fun (k1 : Int32) (V2 : Mm) (o3 : Nat → Int64) (D4 : Nat → UInt64) => (wp_X9_commonByWalk V2 a1 a2 a3 (fun (r5 : Int32) (V6 : Mm) => (wp_X9_thrown V6 (fun (r7 : Int32) (V8 : Mm) => ((r7 = k1 → ((k1 = 0 → (((lg_cmp ((o3 0)) ((r5).toInt64)) = 0 → J V8) ∧ (¬ (lg_cmp ((o3 0)) ((r5).toInt64)) = 0 → False))) ∧ (¬ k1 = 0 → J V8))) ∧ (¬ r7 = k1 → False))))))))
set_option maxHeartbeats 4000000 in
theorem cc_36 {X : ab_M} {g : ab_G} {cells slots b N : Nat} {xs9 : Nat → Int32} {Q : State → Prop} (O : ab_Ok X g cL_law RL) (hI : tk_S tk_strs (xs X)) (hR : xR X = room_1) (hX : va_X b N xs9 (xs X) (xs X).heap) (hbl : b < (xs X).heap.size) (hbA : ¬ g.1 ≤ b) (hc : cells + 6 ≤ 601024) (hs : slots + 36 ≤ 7293034) {x a1 a2 a3 : Int32} (hin1 : vp_in (x + 1) N) (hin2 : vp_in (x + 2) N) (hin3 : vp_in (x + 3) N) (e1 : xs9 (Int32.toNatClampNeg (x + 1)) = a1) (e2 : xs9 (Int32.toNatClampNeg (x + 2)) = a2) (e3 : xs9 (Int32.toNatClampNeg (x + 3)) = a3) {J : Mm → Prop} {V : Mm} {o : Nat → Int64} {D : Nat → UInt64} (h : wpc_36 V o D a1 a2 a3 J) (hk : ∀ (V : Mm) (o : Nat → Int64) (D : Nat → UInt64), J V → Ab X g (cells + 6) (slots + 36) Q 3013 [some (.retAddr b), some (.ref 0), some (.ref 57), some (.ref 72), some (.ref 73), some (.int x), none, none] [] (SW V o D)) : Ab X g cells slots Q 2425 [some (.retAddr b), some (.ref 0), some (.ref 57), some (.ref 72), some (.ref 73), some (.int x), none, none] [] (SW V o D) := by
  refine ab_aload_n O 1 dL_law_2425 rfl rfl ?_
  refine ab_aload_nR O 0 dL_law_2426 rfl rfl ?_
  refine ab_iload O dL_law_2427 rfl ?_
  refine ab_iconst O 1 dL_law_2429 rfl ?_
  refine ab_iadd O dL_law_2430 ?_
  refine ab_sld O hX hbl hbA dL_law_2431 hin1 ?_
  refine ab_eq (st2 := [.int a1, .ref 0]) ?_ rfl rfl (by rw [e1]) rfl
  refine ab_aload_nR O 0 dL_law_2432 rfl rfl ?_
  refine ab_iload O dL_law_2433 rfl ?_
  refine ab_iconst O 2 dL_law_2435 rfl ?_
  refine ab_iadd O dL_law_2436 ?_
  refine ab_sld O hX hbl hbA dL_law_2437 hin2 ?_
  refine ab_eq (st2 := [.int a2, .int a1, .ref 0]) ?_ rfl rfl (by rw [e2]) rfl
  refine ab_aload_nR O 0 dL_law_2438 rfl rfl ?_
  refine ab_iload O dL_law_2439 rfl ?_
  refine ab_iconst O 3 dL_law_2441 rfl ?_
  refine ab_iadd O dL_law_2442 ?_
  refine ab_sld O hX hbl hbA dL_law_2443 hin3 ?_
  refine ab_eq (st2 := [.int a3, .int a2, .int a1, .ref 0]) ?_ rfl rfl (by rw [e3]) rfl
  refine ab_aload_n O 3 dL_law_2444 rfl rfl ?_
  refine ab_callh O hI (st := []) ch_L_272 dL_law_2445 (c_L_commonByWalk 11 (by decide) _ O.2.2.2.2.2.2.1 _ _ _ a1 a2 a3 h) rfl rfl (by rw [hR]; exact ⟨by decide, by decide⟩) (show 0 ≤ 8 by decide) (by rw [hR]; exact ⟨show cells + 5 ≤ 601024 by omega, show slots + 30 ≤ 7293034 by omega⟩) (fun k1 u hu => ?_)
  obtain ⟨V2, o3, D4, rfl, h⟩ := hu
  refine ab_istore O dL_law_2448 (show 6 < 8 by decide) ?_
  refine ab_aload_n O 2 dL_law_2450 rfl rfl ?_
  refine ab_aload_nR O 0 dL_law_2451 rfl rfl ?_
  refine ab_iload O dL_law_2452 rfl ?_
  refine ab_iconst O 1 dL_law_2454 rfl ?_
  refine ab_iadd O dL_law_2455 ?_
  refine ab_sld O hX hbl hbA dL_law_2456 hin1 ?_
  refine ab_eq (st2 := [.int a1, .ref 57]) ?_ rfl rfl (by rw [e1]) rfl
  refine ab_aload_nR O 0 dL_law_2457 rfl rfl ?_
  refine ab_iload O dL_law_2458 rfl ?_
  refine ab_iconst O 2 dL_law_2460 rfl ?_
  refine ab_iadd O dL_law_2461 ?_
  refine ab_sld O hX hbl hbA dL_law_2462 hin2 ?_
  refine ab_eq (st2 := [.int a2, .int a1, .ref 57]) ?_ rfl rfl (by rw [e2]) rfl
  refine ab_aload_nR O 0 dL_law_2463 rfl rfl ?_
  refine ab_iload O dL_law_2464 rfl ?_
  refine ab_iconst O 3 dL_law_2466 rfl ?_
  refine ab_iadd O dL_law_2467 ?_
  refine ab_sld O hX hbl hbA dL_law_2468 hin3 ?_
  refine ab_eq (st2 := [.int a3, .int a2, .int a1, .ref 57]) ?_ rfl rfl (by rw [e3]) rfl
  refine ab_callvI O hI (fr := False) (st := []) lk_L_274 rfl (at_57 _ _ _) dL_law_2469 (c_X9_commonByWalk 11 (by decide) _ O.2.2.2.2.2.2.1 _ _ _ a1 a2 a3 h) rfl rfl (by rw [hR]; exact ⟨by decide, by decide⟩) (show 0 ≤ 8 by decide) (by rw [hR]; exact ⟨show cells + 5 ≤ 601024 by omega, show slots + 30 ≤ 7293034 by omega⟩) (fun q => q.elim) (fun E u q => q.elim) (fun r5 u hu => ?_)
  obtain ⟨V6, rfl, h⟩ := hu
  refine ab_istore O dL_law_2472 (show 7 < 8 by decide) ?_
  refine ab_aload_n O 2 dL_law_2474 rfl rfl ?_
  refine ab_callvI O hI (fr := False) (st := []) lk_L_155 rfl (at_57 _ _ _) dL_law_2475 (c_X9_thrown 11 (by decide) _ O.2.2.2.2.2.2.1 _ _ _ h) rfl rfl (by rw [hR]; exact ⟨by decide, by decide⟩) (show 0 ≤ 8 by decide) (by rw [hR]; exact ⟨show cells + 5 ≤ 601024 by omega, show slots + 30 ≤ 7293034 by omega⟩) (fun q => q.elim) (fun E u q => q.elim) (fun r7 u hu => ?_)
  obtain ⟨V8, rfl, h⟩ := hu
  refine ab_iload O dL_law_2478 rfl ?_
  refine ab_icmp_eq O 2485 dL_law_2480 rfl (fun q9 => ?_) (fun q9 => ?_)
  · have h := h.1 q9
    refine ab_iload O dL_law_2485 rfl ?_
    refine ab_if_ne O 2502 dL_law_2487 rfl (fun q10 => ?_) (fun q10 => ?_)
    · have h := h.2 q10
      refine ab_goto O 3013 dL_law_2502 rfl ?_
      exact ab_widen (by omega) (by omega) (ab_less (hk V8 o3 D4 h) (ab_le_s (ab_le_s (ab_le_s (ab_le_s (ab_le_s (ab_le_s (ab_le_n (ab_le_n ab_le_0)))))))))
    · have h := h.1 q10
      refine ab_aload_n O 3 dL_law_2490 rfl rfl ?_
      refine ab_iconst O 0 dL_law_2491 rfl ?_
      refine ab_lald O dL_law_2492 (at_72 _ _ _) (by unfold vp_in; decide) ?_
      refine ab_eq (st2 := [.long (o3 0)]) ?_ rfl rfl rfl rfl
      refine ab_iload O dL_law_2493 rfl ?_
      refine ab_i2l O dL_law_2495 ?_
      refine ab_lcmp O dL_law_2496 ?_
      refine ab_if_eq O 2502 dL_law_2497 rfl (fun q11 => ?_) (fun q11 => ?_)
      · have h := h.1 q11
        refine ab_goto O 3013 dL_law_2502 rfl ?_
        exact ab_widen (by omega) (by omega) (ab_less (hk V8 o3 D4 h) (ab_le_s (ab_le_s (ab_le_s (ab_le_s (ab_le_s (ab_le_s (ab_le_n (ab_le_n ab_le_0)))))))))
      · have h := h.2 q11
        exact h.elim
  · have h := h.2 q9
    exact h.elim

def wpc_37 (V : Mm) (o : Nat → Int64) (D : Nat → UInt64) (a1 a2 a3 : Int32) (J : Mm → Prop) : Prop := (wp_L_subtreeSize V a1 a2 o D (fun (k1 : Int32) (V2 : Mm) (o3 : Nat → Int64) (D4 : Nat → UInt64) => (wp_X9_subtreeSize V2 a1 a2 (fun (r5 : Int32) (V6 : Mm) => (wp_X9_thrown V6 (fun (r7 : Int32) (V8 : Mm) => ((r7 = k1 → ((k1 = 0 → (((lg_cmp ((o3 0)) ((r5).toInt64)) = 0 → J V8) ∧ (¬ (lg_cmp ((o3 0)) ((r5).toInt64)) = 0 → False))) ∧ (¬ k1 = 0 → J V8))) ∧ (¬ r7 = k1 → False))))))))
set_option maxHeartbeats 4000000 in
theorem cc_37 {X : ab_M} {g : ab_G} {cells slots b N : Nat} {xs9 : Nat → Int32} {Q : State → Prop} (O : ab_Ok X g cL_law RL) (hI : tk_S tk_strs (xs X)) (hR : xR X = room_1) (hX : va_X b N xs9 (xs X) (xs X).heap) (hbl : b < (xs X).heap.size) (hbA : ¬ g.1 ≤ b) (hc : cells + 6 ≤ 601024) (hs : slots + 36 ≤ 7293034) {x a1 a2 a3 : Int32} (hin1 : vp_in (x + 1) N) (hin2 : vp_in (x + 2) N) (hin3 : vp_in (x + 3) N) (e1 : xs9 (Int32.toNatClampNeg (x + 1)) = a1) (e2 : xs9 (Int32.toNatClampNeg (x + 2)) = a2) (e3 : xs9 (Int32.toNatClampNeg (x + 3)) = a3) {J : Mm → Prop} {V : Mm} {o : Nat → Int64} {D : Nat → UInt64} (h : wpc_37 V o D a1 a2 a3 J) (hk : ∀ (V : Mm) (o : Nat → Int64) (D : Nat → UInt64), J V → Ab X g (cells + 6) (slots + 36) Q 3013 [some (.retAddr b), some (.ref 0), some (.ref 57), some (.ref 72), some (.ref 73), some (.int x), none, none] [] (SW V o D)) : Ab X g cells slots Q 2505 [some (.retAddr b), some (.ref 0), some (.ref 57), some (.ref 72), some (.ref 73), some (.int x), none, none] [] (SW V o D) := by
  refine ab_aload_n O 1 dL_law_2505 rfl rfl ?_
  refine ab_aload_nR O 0 dL_law_2506 rfl rfl ?_
  refine ab_iload O dL_law_2507 rfl ?_
  refine ab_iconst O 1 dL_law_2509 rfl ?_
  refine ab_iadd O dL_law_2510 ?_
  refine ab_sld O hX hbl hbA dL_law_2511 hin1 ?_
  refine ab_eq (st2 := [.int a1, .ref 0]) ?_ rfl rfl (by rw [e1]) rfl
  refine ab_aload_nR O 0 dL_law_2512 rfl rfl ?_
  refine ab_iload O dL_law_2513 rfl ?_
  refine ab_iconst O 2 dL_law_2515 rfl ?_
  refine ab_iadd O dL_law_2516 ?_
  refine ab_sld O hX hbl hbA dL_law_2517 hin2 ?_
  refine ab_eq (st2 := [.int a2, .int a1, .ref 0]) ?_ rfl rfl (by rw [e2]) rfl
  refine ab_aload_n O 3 dL_law_2518 rfl rfl ?_
  refine ab_callh O hI (st := []) ch_L_275 dL_law_2519 (c_L_subtreeSize 11 (by decide) _ O.2.2.2.2.2.2.1 _ _ _ a1 a2 h) rfl rfl (by rw [hR]; exact ⟨by decide, by decide⟩) (show 0 ≤ 8 by decide) (by rw [hR]; exact ⟨show cells + 3 ≤ 601024 by omega, show slots + 18 ≤ 7293034 by omega⟩) (fun k1 u hu => ?_)
  obtain ⟨V2, o3, D4, rfl, h⟩ := hu
  refine ab_istore O dL_law_2522 (show 6 < 8 by decide) ?_
  refine ab_aload_n O 2 dL_law_2524 rfl rfl ?_
  refine ab_aload_nR O 0 dL_law_2525 rfl rfl ?_
  refine ab_iload O dL_law_2526 rfl ?_
  refine ab_iconst O 1 dL_law_2528 rfl ?_
  refine ab_iadd O dL_law_2529 ?_
  refine ab_sld O hX hbl hbA dL_law_2530 hin1 ?_
  refine ab_eq (st2 := [.int a1, .ref 57]) ?_ rfl rfl (by rw [e1]) rfl
  refine ab_aload_nR O 0 dL_law_2531 rfl rfl ?_
  refine ab_iload O dL_law_2532 rfl ?_
  refine ab_iconst O 2 dL_law_2534 rfl ?_
  refine ab_iadd O dL_law_2535 ?_
  refine ab_sld O hX hbl hbA dL_law_2536 hin2 ?_
  refine ab_eq (st2 := [.int a2, .int a1, .ref 57]) ?_ rfl rfl (by rw [e2]) rfl
  refine ab_callvI O hI (fr := False) (st := []) lk_L_277 rfl (at_57 _ _ _) dL_law_2537 (c_X9_subtreeSize 11 (by decide) _ O.2.2.2.2.2.2.1 _ _ _ a1 a2 h) rfl rfl (by rw [hR]; exact ⟨by decide, by decide⟩) (show 0 ≤ 8 by decide) (by rw [hR]; exact ⟨show cells + 3 ≤ 601024 by omega, show slots + 18 ≤ 7293034 by omega⟩) (fun q => q.elim) (fun E u q => q.elim) (fun r5 u hu => ?_)
  obtain ⟨V6, rfl, h⟩ := hu
  refine ab_istore O dL_law_2540 (show 7 < 8 by decide) ?_
  refine ab_aload_n O 2 dL_law_2542 rfl rfl ?_
  refine ab_callvI O hI (fr := False) (st := []) lk_L_155 rfl (at_57 _ _ _) dL_law_2543 (c_X9_thrown 11 (by decide) _ O.2.2.2.2.2.2.1 _ _ _ h) rfl rfl (by rw [hR]; exact ⟨by decide, by decide⟩) (show 0 ≤ 8 by decide) (by rw [hR]; exact ⟨show cells + 3 ≤ 601024 by omega, show slots + 18 ≤ 7293034 by omega⟩) (fun q => q.elim) (fun E u q => q.elim) (fun r7 u hu => ?_)
  obtain ⟨V8, rfl, h⟩ := hu
  refine ab_iload O dL_law_2546 rfl ?_
  refine ab_icmp_eq O 2553 dL_law_2548 rfl (fun q9 => ?_) (fun q9 => ?_)
  · have h := h.1 q9
    refine ab_iload O dL_law_2553 rfl ?_
    refine ab_if_ne O 2570 dL_law_2555 rfl (fun q10 => ?_) (fun q10 => ?_)
    · have h := h.2 q10
      refine ab_goto O 3013 dL_law_2570 rfl ?_
      exact ab_widen (by omega) (by omega) (ab_less (hk V8 o3 D4 h) (ab_le_s (ab_le_s (ab_le_s (ab_le_s (ab_le_s (ab_le_s (ab_le_n (ab_le_n ab_le_0)))))))))
    · have h := h.1 q10
      refine ab_aload_n O 3 dL_law_2558 rfl rfl ?_
      refine ab_iconst O 0 dL_law_2559 rfl ?_
      refine ab_lald O dL_law_2560 (at_72 _ _ _) (by unfold vp_in; decide) ?_
      refine ab_eq (st2 := [.long (o3 0)]) ?_ rfl rfl rfl rfl
      refine ab_iload O dL_law_2561 rfl ?_
      refine ab_i2l O dL_law_2563 ?_
      refine ab_lcmp O dL_law_2564 ?_
      refine ab_if_eq O 2570 dL_law_2565 rfl (fun q11 => ?_) (fun q11 => ?_)
      · have h := h.1 q11
        refine ab_goto O 3013 dL_law_2570 rfl ?_
        exact ab_widen (by omega) (by omega) (ab_less (hk V8 o3 D4 h) (ab_le_s (ab_le_s (ab_le_s (ab_le_s (ab_le_s (ab_le_s (ab_le_n (ab_le_n ab_le_0)))))))))
      · have h := h.2 q11
        exact h.elim
  · have h := h.2 q9
    exact h.elim

def wpc_38 (V : Mm) (o : Nat → Int64) (D : Nat → UInt64) (a1 a2 a3 : Int32) (J : Mm → Prop) : Prop := (wp_L_subtreeSum V a1 a2 o D (fun (k1 : Int32) (V2 : Mm) (o3 : Nat → Int64) (D4 : Nat → UInt64) => (wp_X9_subtreeSum V2 a1 a2 (fun (r5 : Int32) (V6 : Mm) => (wp_X9_thrown V6 (fun (r7 : Int32) (V8 : Mm) => ((r7 = k1 → ((k1 = 0 → (((lg_cmp ((o3 0)) ((r5).toInt64)) = 0 → J V8) ∧ (¬ (lg_cmp ((o3 0)) ((r5).toInt64)) = 0 → False))) ∧ (¬ k1 = 0 → J V8))) ∧ (¬ r7 = k1 → False))))))))
set_option maxHeartbeats 4000000 in
theorem cc_38 {X : ab_M} {g : ab_G} {cells slots b N : Nat} {xs9 : Nat → Int32} {Q : State → Prop} (O : ab_Ok X g cL_law RL) (hI : tk_S tk_strs (xs X)) (hR : xR X = room_1) (hX : va_X b N xs9 (xs X) (xs X).heap) (hbl : b < (xs X).heap.size) (hbA : ¬ g.1 ≤ b) (hc : cells + 6 ≤ 601024) (hs : slots + 36 ≤ 7293034) {x a1 a2 a3 : Int32} (hin1 : vp_in (x + 1) N) (hin2 : vp_in (x + 2) N) (hin3 : vp_in (x + 3) N) (e1 : xs9 (Int32.toNatClampNeg (x + 1)) = a1) (e2 : xs9 (Int32.toNatClampNeg (x + 2)) = a2) (e3 : xs9 (Int32.toNatClampNeg (x + 3)) = a3) {J : Mm → Prop} {V : Mm} {o : Nat → Int64} {D : Nat → UInt64} (h : wpc_38 V o D a1 a2 a3 J) (hk : ∀ (V : Mm) (o : Nat → Int64) (D : Nat → UInt64), J V → Ab X g (cells + 6) (slots + 36) Q 3013 [some (.retAddr b), some (.ref 0), some (.ref 57), some (.ref 72), some (.ref 73), some (.int x), none, none] [] (SW V o D)) : Ab X g cells slots Q 2573 [some (.retAddr b), some (.ref 0), some (.ref 57), some (.ref 72), some (.ref 73), some (.int x), none, none] [] (SW V o D) := by
  refine ab_aload_n O 1 dL_law_2573 rfl rfl ?_
  refine ab_aload_nR O 0 dL_law_2574 rfl rfl ?_
  refine ab_iload O dL_law_2575 rfl ?_
  refine ab_iconst O 1 dL_law_2577 rfl ?_
  refine ab_iadd O dL_law_2578 ?_
  refine ab_sld O hX hbl hbA dL_law_2579 hin1 ?_
  refine ab_eq (st2 := [.int a1, .ref 0]) ?_ rfl rfl (by rw [e1]) rfl
  refine ab_aload_nR O 0 dL_law_2580 rfl rfl ?_
  refine ab_iload O dL_law_2581 rfl ?_
  refine ab_iconst O 2 dL_law_2583 rfl ?_
  refine ab_iadd O dL_law_2584 ?_
  refine ab_sld O hX hbl hbA dL_law_2585 hin2 ?_
  refine ab_eq (st2 := [.int a2, .int a1, .ref 0]) ?_ rfl rfl (by rw [e2]) rfl
  refine ab_aload_n O 3 dL_law_2586 rfl rfl ?_
  refine ab_callh O hI (st := []) ch_L_278 dL_law_2587 (c_L_subtreeSum 11 (by decide) _ O.2.2.2.2.2.2.1 _ _ _ a1 a2 h) rfl rfl (by rw [hR]; exact ⟨by decide, by decide⟩) (show 0 ≤ 8 by decide) (by rw [hR]; exact ⟨show cells + 3 ≤ 601024 by omega, show slots + 18 ≤ 7293034 by omega⟩) (fun k1 u hu => ?_)
  obtain ⟨V2, o3, D4, rfl, h⟩ := hu
  refine ab_istore O dL_law_2590 (show 6 < 8 by decide) ?_
  refine ab_aload_n O 2 dL_law_2592 rfl rfl ?_
  refine ab_aload_nR O 0 dL_law_2593 rfl rfl ?_
  refine ab_iload O dL_law_2594 rfl ?_
  refine ab_iconst O 1 dL_law_2596 rfl ?_
  refine ab_iadd O dL_law_2597 ?_
  refine ab_sld O hX hbl hbA dL_law_2598 hin1 ?_
  refine ab_eq (st2 := [.int a1, .ref 57]) ?_ rfl rfl (by rw [e1]) rfl
  refine ab_aload_nR O 0 dL_law_2599 rfl rfl ?_
  refine ab_iload O dL_law_2600 rfl ?_
  refine ab_iconst O 2 dL_law_2602 rfl ?_
  refine ab_iadd O dL_law_2603 ?_
  refine ab_sld O hX hbl hbA dL_law_2604 hin2 ?_
  refine ab_eq (st2 := [.int a2, .int a1, .ref 57]) ?_ rfl rfl (by rw [e2]) rfl
  refine ab_callvI O hI (fr := False) (st := []) lk_L_280 rfl (at_57 _ _ _) dL_law_2605 (c_X9_subtreeSum 11 (by decide) _ O.2.2.2.2.2.2.1 _ _ _ a1 a2 h) rfl rfl (by rw [hR]; exact ⟨by decide, by decide⟩) (show 0 ≤ 8 by decide) (by rw [hR]; exact ⟨show cells + 3 ≤ 601024 by omega, show slots + 18 ≤ 7293034 by omega⟩) (fun q => q.elim) (fun E u q => q.elim) (fun r5 u hu => ?_)
  obtain ⟨V6, rfl, h⟩ := hu
  refine ab_istore O dL_law_2608 (show 7 < 8 by decide) ?_
  refine ab_aload_n O 2 dL_law_2610 rfl rfl ?_
  refine ab_callvI O hI (fr := False) (st := []) lk_L_155 rfl (at_57 _ _ _) dL_law_2611 (c_X9_thrown 11 (by decide) _ O.2.2.2.2.2.2.1 _ _ _ h) rfl rfl (by rw [hR]; exact ⟨by decide, by decide⟩) (show 0 ≤ 8 by decide) (by rw [hR]; exact ⟨show cells + 3 ≤ 601024 by omega, show slots + 18 ≤ 7293034 by omega⟩) (fun q => q.elim) (fun E u q => q.elim) (fun r7 u hu => ?_)
  obtain ⟨V8, rfl, h⟩ := hu
  refine ab_iload O dL_law_2614 rfl ?_
  refine ab_icmp_eq O 2621 dL_law_2616 rfl (fun q9 => ?_) (fun q9 => ?_)
  · have h := h.1 q9
    refine ab_iload O dL_law_2621 rfl ?_
    refine ab_if_ne O 2638 dL_law_2623 rfl (fun q10 => ?_) (fun q10 => ?_)
    · have h := h.2 q10
      refine ab_goto O 3013 dL_law_2638 rfl ?_
      exact ab_widen (by omega) (by omega) (ab_less (hk V8 o3 D4 h) (ab_le_s (ab_le_s (ab_le_s (ab_le_s (ab_le_s (ab_le_s (ab_le_n (ab_le_n ab_le_0)))))))))
    · have h := h.1 q10
      refine ab_aload_n O 3 dL_law_2626 rfl rfl ?_
      refine ab_iconst O 0 dL_law_2627 rfl ?_
      refine ab_lald O dL_law_2628 (at_72 _ _ _) (by unfold vp_in; decide) ?_
      refine ab_eq (st2 := [.long (o3 0)]) ?_ rfl rfl rfl rfl
      refine ab_iload O dL_law_2629 rfl ?_
      refine ab_i2l O dL_law_2631 ?_
      refine ab_lcmp O dL_law_2632 ?_
      refine ab_if_eq O 2638 dL_law_2633 rfl (fun q11 => ?_) (fun q11 => ?_)
      · have h := h.1 q11
        refine ab_goto O 3013 dL_law_2638 rfl ?_
        exact ab_widen (by omega) (by omega) (ab_less (hk V8 o3 D4 h) (ab_le_s (ab_le_s (ab_le_s (ab_le_s (ab_le_s (ab_le_s (ab_le_n (ab_le_n ab_le_0)))))))))
      · have h := h.2 q11
        exact h.elim
  · have h := h.2 q9
    exact h.elim

def wpc_39 (V : Mm) (o : Nat → Int64) (D : Nat → UInt64) (a1 a2 a3 : Int32) (J : Mm → Prop) : Prop := (wp_L_heavyChild V a1 a2 o D (fun (k1 : Int32) (V2 : Mm) (o3 : Nat → Int64) (D4 : Nat → UInt64) => (wp_X9_heavyChild V2 a1 a2 (fun (r5 : Int32) (V6 : Mm) => (wp_X9_thrown V6 (fun (r7 : Int32) (V8 : Mm) => ((r7 = k1 → ((k1 = 0 → (((lg_cmp ((o3 0)) ((r5).toInt64)) = 0 → J V8) ∧ (¬ (lg_cmp ((o3 0)) ((r5).toInt64)) = 0 → False))) ∧ (¬ k1 = 0 → J V8))) ∧ (¬ r7 = k1 → False))))))))
set_option maxHeartbeats 4000000 in
theorem cc_39 {X : ab_M} {g : ab_G} {cells slots b N : Nat} {xs9 : Nat → Int32} {Q : State → Prop} (O : ab_Ok X g cL_law RL) (hI : tk_S tk_strs (xs X)) (hR : xR X = room_1) (hX : va_X b N xs9 (xs X) (xs X).heap) (hbl : b < (xs X).heap.size) (hbA : ¬ g.1 ≤ b) (hc : cells + 6 ≤ 601024) (hs : slots + 36 ≤ 7293034) {x a1 a2 a3 : Int32} (hin1 : vp_in (x + 1) N) (hin2 : vp_in (x + 2) N) (hin3 : vp_in (x + 3) N) (e1 : xs9 (Int32.toNatClampNeg (x + 1)) = a1) (e2 : xs9 (Int32.toNatClampNeg (x + 2)) = a2) (e3 : xs9 (Int32.toNatClampNeg (x + 3)) = a3) {J : Mm → Prop} {V : Mm} {o : Nat → Int64} {D : Nat → UInt64} (h : wpc_39 V o D a1 a2 a3 J) (hk : ∀ (V : Mm) (o : Nat → Int64) (D : Nat → UInt64), J V → Ab X g (cells + 6) (slots + 36) Q 3013 [some (.retAddr b), some (.ref 0), some (.ref 57), some (.ref 72), some (.ref 73), some (.int x), none, none] [] (SW V o D)) : Ab X g cells slots Q 2641 [some (.retAddr b), some (.ref 0), some (.ref 57), some (.ref 72), some (.ref 73), some (.int x), none, none] [] (SW V o D) := by
  refine ab_aload_n O 1 dL_law_2641 rfl rfl ?_
  refine ab_aload_nR O 0 dL_law_2642 rfl rfl ?_
  refine ab_iload O dL_law_2643 rfl ?_
  refine ab_iconst O 1 dL_law_2645 rfl ?_
  refine ab_iadd O dL_law_2646 ?_
  refine ab_sld O hX hbl hbA dL_law_2647 hin1 ?_
  refine ab_eq (st2 := [.int a1, .ref 0]) ?_ rfl rfl (by rw [e1]) rfl
  refine ab_aload_nR O 0 dL_law_2648 rfl rfl ?_
  refine ab_iload O dL_law_2649 rfl ?_
  refine ab_iconst O 2 dL_law_2651 rfl ?_
  refine ab_iadd O dL_law_2652 ?_
  refine ab_sld O hX hbl hbA dL_law_2653 hin2 ?_
  refine ab_eq (st2 := [.int a2, .int a1, .ref 0]) ?_ rfl rfl (by rw [e2]) rfl
  refine ab_aload_n O 3 dL_law_2654 rfl rfl ?_
  refine ab_callh O hI (st := []) ch_L_281 dL_law_2655 (c_L_heavyChild 11 (by decide) _ O.2.2.2.2.2.2.1 _ _ _ a1 a2 h) rfl rfl (by rw [hR]; exact ⟨by decide, by decide⟩) (show 0 ≤ 8 by decide) (by rw [hR]; exact ⟨show cells + 4 ≤ 601024 by omega, show slots + 24 ≤ 7293034 by omega⟩) (fun k1 u hu => ?_)
  obtain ⟨V2, o3, D4, rfl, h⟩ := hu
  refine ab_istore O dL_law_2658 (show 6 < 8 by decide) ?_
  refine ab_aload_n O 2 dL_law_2660 rfl rfl ?_
  refine ab_aload_nR O 0 dL_law_2661 rfl rfl ?_
  refine ab_iload O dL_law_2662 rfl ?_
  refine ab_iconst O 1 dL_law_2664 rfl ?_
  refine ab_iadd O dL_law_2665 ?_
  refine ab_sld O hX hbl hbA dL_law_2666 hin1 ?_
  refine ab_eq (st2 := [.int a1, .ref 57]) ?_ rfl rfl (by rw [e1]) rfl
  refine ab_aload_nR O 0 dL_law_2667 rfl rfl ?_
  refine ab_iload O dL_law_2668 rfl ?_
  refine ab_iconst O 2 dL_law_2670 rfl ?_
  refine ab_iadd O dL_law_2671 ?_
  refine ab_sld O hX hbl hbA dL_law_2672 hin2 ?_
  refine ab_eq (st2 := [.int a2, .int a1, .ref 57]) ?_ rfl rfl (by rw [e2]) rfl
  refine ab_callvI O hI (fr := False) (st := []) lk_L_283 rfl (at_57 _ _ _) dL_law_2673 (c_X9_heavyChild 11 (by decide) _ O.2.2.2.2.2.2.1 _ _ _ a1 a2 h) rfl rfl (by rw [hR]; exact ⟨by decide, by decide⟩) (show 0 ≤ 8 by decide) (by rw [hR]; exact ⟨show cells + 4 ≤ 601024 by omega, show slots + 24 ≤ 7293034 by omega⟩) (fun q => q.elim) (fun E u q => q.elim) (fun r5 u hu => ?_)
  obtain ⟨V6, rfl, h⟩ := hu
  refine ab_istore O dL_law_2676 (show 7 < 8 by decide) ?_
  refine ab_aload_n O 2 dL_law_2678 rfl rfl ?_
  refine ab_callvI O hI (fr := False) (st := []) lk_L_155 rfl (at_57 _ _ _) dL_law_2679 (c_X9_thrown 11 (by decide) _ O.2.2.2.2.2.2.1 _ _ _ h) rfl rfl (by rw [hR]; exact ⟨by decide, by decide⟩) (show 0 ≤ 8 by decide) (by rw [hR]; exact ⟨show cells + 4 ≤ 601024 by omega, show slots + 24 ≤ 7293034 by omega⟩) (fun q => q.elim) (fun E u q => q.elim) (fun r7 u hu => ?_)
  obtain ⟨V8, rfl, h⟩ := hu
  refine ab_iload O dL_law_2682 rfl ?_
  refine ab_icmp_eq O 2689 dL_law_2684 rfl (fun q9 => ?_) (fun q9 => ?_)
  · have h := h.1 q9
    refine ab_iload O dL_law_2689 rfl ?_
    refine ab_if_ne O 2706 dL_law_2691 rfl (fun q10 => ?_) (fun q10 => ?_)
    · have h := h.2 q10
      refine ab_goto O 3013 dL_law_2706 rfl ?_
      exact ab_widen (by omega) (by omega) (ab_less (hk V8 o3 D4 h) (ab_le_s (ab_le_s (ab_le_s (ab_le_s (ab_le_s (ab_le_s (ab_le_n (ab_le_n ab_le_0)))))))))
    · have h := h.1 q10
      refine ab_aload_n O 3 dL_law_2694 rfl rfl ?_
      refine ab_iconst O 0 dL_law_2695 rfl ?_
      refine ab_lald O dL_law_2696 (at_72 _ _ _) (by unfold vp_in; decide) ?_
      refine ab_eq (st2 := [.long (o3 0)]) ?_ rfl rfl rfl rfl
      refine ab_iload O dL_law_2697 rfl ?_
      refine ab_i2l O dL_law_2699 ?_
      refine ab_lcmp O dL_law_2700 ?_
      refine ab_if_eq O 2706 dL_law_2701 rfl (fun q11 => ?_) (fun q11 => ?_)
      · have h := h.1 q11
        refine ab_goto O 3013 dL_law_2706 rfl ?_
        exact ab_widen (by omega) (by omega) (ab_less (hk V8 o3 D4 h) (ab_le_s (ab_le_s (ab_le_s (ab_le_s (ab_le_s (ab_le_s (ab_le_n (ab_le_n ab_le_0)))))))))
      · have h := h.2 q11
        exact h.elim
  · have h := h.2 q9
    exact h.elim

def wpc_40 (V : Mm) (o : Nat → Int64) (D : Nat → UInt64) (a1 a2 a3 : Int32) (J : Mm → Prop) : Prop := (wp_L_head V a1 a2 o D (fun (k1 : Int32) (V2 : Mm) (o3 : Nat → Int64) (D4 : Nat → UInt64) => (wp_X9_head V2 a1 a2 (fun (r5 : Int32) (V6 : Mm) => (wp_X9_thrown V6 (fun (r7 : Int32) (V8 : Mm) => ((r7 = k1 → ((k1 = 0 → (((lg_cmp ((o3 0)) ((r5).toInt64)) = 0 → J V8) ∧ (¬ (lg_cmp ((o3 0)) ((r5).toInt64)) = 0 → False))) ∧ (¬ k1 = 0 → J V8))) ∧ (¬ r7 = k1 → False))))))))
set_option maxHeartbeats 4000000 in
theorem cc_40 {X : ab_M} {g : ab_G} {cells slots b N : Nat} {xs9 : Nat → Int32} {Q : State → Prop} (O : ab_Ok X g cL_law RL) (hI : tk_S tk_strs (xs X)) (hR : xR X = room_1) (hX : va_X b N xs9 (xs X) (xs X).heap) (hbl : b < (xs X).heap.size) (hbA : ¬ g.1 ≤ b) (hc : cells + 6 ≤ 601024) (hs : slots + 36 ≤ 7293034) {x a1 a2 a3 : Int32} (hin1 : vp_in (x + 1) N) (hin2 : vp_in (x + 2) N) (hin3 : vp_in (x + 3) N) (e1 : xs9 (Int32.toNatClampNeg (x + 1)) = a1) (e2 : xs9 (Int32.toNatClampNeg (x + 2)) = a2) (e3 : xs9 (Int32.toNatClampNeg (x + 3)) = a3) {J : Mm → Prop} {V : Mm} {o : Nat → Int64} {D : Nat → UInt64} (h : wpc_40 V o D a1 a2 a3 J) (hk : ∀ (V : Mm) (o : Nat → Int64) (D : Nat → UInt64), J V → Ab X g (cells + 6) (slots + 36) Q 3013 [some (.retAddr b), some (.ref 0), some (.ref 57), some (.ref 72), some (.ref 73), some (.int x), none, none] [] (SW V o D)) : Ab X g cells slots Q 2709 [some (.retAddr b), some (.ref 0), some (.ref 57), some (.ref 72), some (.ref 73), some (.int x), none, none] [] (SW V o D) := by
  refine ab_aload_n O 1 dL_law_2709 rfl rfl ?_
  refine ab_aload_nR O 0 dL_law_2710 rfl rfl ?_
  refine ab_iload O dL_law_2711 rfl ?_
  refine ab_iconst O 1 dL_law_2713 rfl ?_
  refine ab_iadd O dL_law_2714 ?_
  refine ab_sld O hX hbl hbA dL_law_2715 hin1 ?_
  refine ab_eq (st2 := [.int a1, .ref 0]) ?_ rfl rfl (by rw [e1]) rfl
  refine ab_aload_nR O 0 dL_law_2716 rfl rfl ?_
  refine ab_iload O dL_law_2717 rfl ?_
  refine ab_iconst O 2 dL_law_2719 rfl ?_
  refine ab_iadd O dL_law_2720 ?_
  refine ab_sld O hX hbl hbA dL_law_2721 hin2 ?_
  refine ab_eq (st2 := [.int a2, .int a1, .ref 0]) ?_ rfl rfl (by rw [e2]) rfl
  refine ab_aload_n O 3 dL_law_2722 rfl rfl ?_
  refine ab_callh O hI (st := []) ch_L_284 dL_law_2723 (c_L_head 11 (by decide) _ O.2.2.2.2.2.2.1 _ _ _ a1 a2 h) rfl rfl (by rw [hR]; exact ⟨by decide, by decide⟩) (show 0 ≤ 8 by decide) (by rw [hR]; exact ⟨show cells + 3 ≤ 601024 by omega, show slots + 18 ≤ 7293034 by omega⟩) (fun k1 u hu => ?_)
  obtain ⟨V2, o3, D4, rfl, h⟩ := hu
  refine ab_istore O dL_law_2726 (show 6 < 8 by decide) ?_
  refine ab_aload_n O 2 dL_law_2728 rfl rfl ?_
  refine ab_aload_nR O 0 dL_law_2729 rfl rfl ?_
  refine ab_iload O dL_law_2730 rfl ?_
  refine ab_iconst O 1 dL_law_2732 rfl ?_
  refine ab_iadd O dL_law_2733 ?_
  refine ab_sld O hX hbl hbA dL_law_2734 hin1 ?_
  refine ab_eq (st2 := [.int a1, .ref 57]) ?_ rfl rfl (by rw [e1]) rfl
  refine ab_aload_nR O 0 dL_law_2735 rfl rfl ?_
  refine ab_iload O dL_law_2736 rfl ?_
  refine ab_iconst O 2 dL_law_2738 rfl ?_
  refine ab_iadd O dL_law_2739 ?_
  refine ab_sld O hX hbl hbA dL_law_2740 hin2 ?_
  refine ab_eq (st2 := [.int a2, .int a1, .ref 57]) ?_ rfl rfl (by rw [e2]) rfl
  refine ab_callvI O hI (fr := False) (st := []) lk_L_286 rfl (at_57 _ _ _) dL_law_2741 (c_X9_head 11 (by decide) _ O.2.2.2.2.2.2.1 _ _ _ a1 a2 h) rfl rfl (by rw [hR]; exact ⟨by decide, by decide⟩) (show 0 ≤ 8 by decide) (by rw [hR]; exact ⟨show cells + 3 ≤ 601024 by omega, show slots + 18 ≤ 7293034 by omega⟩) (fun q => q.elim) (fun E u q => q.elim) (fun r5 u hu => ?_)
  obtain ⟨V6, rfl, h⟩ := hu
  refine ab_istore O dL_law_2744 (show 7 < 8 by decide) ?_
  refine ab_aload_n O 2 dL_law_2746 rfl rfl ?_
  refine ab_callvI O hI (fr := False) (st := []) lk_L_155 rfl (at_57 _ _ _) dL_law_2747 (c_X9_thrown 11 (by decide) _ O.2.2.2.2.2.2.1 _ _ _ h) rfl rfl (by rw [hR]; exact ⟨by decide, by decide⟩) (show 0 ≤ 8 by decide) (by rw [hR]; exact ⟨show cells + 3 ≤ 601024 by omega, show slots + 18 ≤ 7293034 by omega⟩) (fun q => q.elim) (fun E u q => q.elim) (fun r7 u hu => ?_)
  obtain ⟨V8, rfl, h⟩ := hu
  refine ab_iload O dL_law_2750 rfl ?_
  refine ab_icmp_eq O 2757 dL_law_2752 rfl (fun q9 => ?_) (fun q9 => ?_)
  · have h := h.1 q9
    refine ab_iload O dL_law_2757 rfl ?_
    refine ab_if_ne O 2774 dL_law_2759 rfl (fun q10 => ?_) (fun q10 => ?_)
    · have h := h.2 q10
      refine ab_goto O 3013 dL_law_2774 rfl ?_
      exact ab_widen (by omega) (by omega) (ab_less (hk V8 o3 D4 h) (ab_le_s (ab_le_s (ab_le_s (ab_le_s (ab_le_s (ab_le_s (ab_le_n (ab_le_n ab_le_0)))))))))
    · have h := h.1 q10
      refine ab_aload_n O 3 dL_law_2762 rfl rfl ?_
      refine ab_iconst O 0 dL_law_2763 rfl ?_
      refine ab_lald O dL_law_2764 (at_72 _ _ _) (by unfold vp_in; decide) ?_
      refine ab_eq (st2 := [.long (o3 0)]) ?_ rfl rfl rfl rfl
      refine ab_iload O dL_law_2765 rfl ?_
      refine ab_i2l O dL_law_2767 ?_
      refine ab_lcmp O dL_law_2768 ?_
      refine ab_if_eq O 2774 dL_law_2769 rfl (fun q11 => ?_) (fun q11 => ?_)
      · have h := h.1 q11
        refine ab_goto O 3013 dL_law_2774 rfl ?_
        exact ab_widen (by omega) (by omega) (ab_less (hk V8 o3 D4 h) (ab_le_s (ab_le_s (ab_le_s (ab_le_s (ab_le_s (ab_le_s (ab_le_n (ab_le_n ab_le_0)))))))))
      · have h := h.2 q11
        exact h.elim
  · have h := h.2 q9
    exact h.elim

def wpc_41 (V : Mm) (o : Nat → Int64) (D : Nat → UInt64) (a1 a2 a3 : Int32) (J : Mm → Prop) : Prop := (wp_L_heavyPaths V a1 o D (fun (k1 : Int32) (V2 : Mm) (o3 : Nat → Int64) (D4 : Nat → UInt64) => (wp_X9_heavyPaths V2 a1 (fun (r5 : Int32) (V6 : Mm) => (wp_X9_thrown V6 (fun (r7 : Int32) (V8 : Mm) => ((r7 = k1 → ((k1 = 0 → (((lg_cmp ((o3 0)) ((r5).toInt64)) = 0 → J V8) ∧ (¬ (lg_cmp ((o3 0)) ((r5).toInt64)) = 0 → False))) ∧ (¬ k1 = 0 → J V8))) ∧ (¬ r7 = k1 → False))))))))
set_option maxHeartbeats 4000000 in
theorem cc_41 {X : ab_M} {g : ab_G} {cells slots b N : Nat} {xs9 : Nat → Int32} {Q : State → Prop} (O : ab_Ok X g cL_law RL) (hI : tk_S tk_strs (xs X)) (hR : xR X = room_1) (hX : va_X b N xs9 (xs X) (xs X).heap) (hbl : b < (xs X).heap.size) (hbA : ¬ g.1 ≤ b) (hc : cells + 6 ≤ 601024) (hs : slots + 36 ≤ 7293034) {x a1 a2 a3 : Int32} (hin1 : vp_in (x + 1) N) (hin2 : vp_in (x + 2) N) (hin3 : vp_in (x + 3) N) (e1 : xs9 (Int32.toNatClampNeg (x + 1)) = a1) (e2 : xs9 (Int32.toNatClampNeg (x + 2)) = a2) (e3 : xs9 (Int32.toNatClampNeg (x + 3)) = a3) {J : Mm → Prop} {V : Mm} {o : Nat → Int64} {D : Nat → UInt64} (h : wpc_41 V o D a1 a2 a3 J) (hk : ∀ (V : Mm) (o : Nat → Int64) (D : Nat → UInt64), J V → Ab X g (cells + 6) (slots + 36) Q 3013 [some (.retAddr b), some (.ref 0), some (.ref 57), some (.ref 72), some (.ref 73), some (.int x), none, none] [] (SW V o D)) : Ab X g cells slots Q 2777 [some (.retAddr b), some (.ref 0), some (.ref 57), some (.ref 72), some (.ref 73), some (.int x), none, none] [] (SW V o D) := by
  refine ab_aload_n O 1 dL_law_2777 rfl rfl ?_
  refine ab_aload_nR O 0 dL_law_2778 rfl rfl ?_
  refine ab_iload O dL_law_2779 rfl ?_
  refine ab_iconst O 1 dL_law_2781 rfl ?_
  refine ab_iadd O dL_law_2782 ?_
  refine ab_sld O hX hbl hbA dL_law_2783 hin1 ?_
  refine ab_eq (st2 := [.int a1, .ref 0]) ?_ rfl rfl (by rw [e1]) rfl
  refine ab_aload_n O 3 dL_law_2784 rfl rfl ?_
  refine ab_callh O hI (st := []) ch_L_287 dL_law_2785 (c_L_heavyPaths 11 (by decide) _ O.2.2.2.2.2.2.1 _ _ _ a1 h) rfl rfl (by rw [hR]; exact ⟨by decide, by decide⟩) (show 0 ≤ 8 by decide) (by rw [hR]; exact ⟨show cells + 1 ≤ 601024 by omega, show slots + 6 ≤ 7293034 by omega⟩) (fun k1 u hu => ?_)
  obtain ⟨V2, o3, D4, rfl, h⟩ := hu
  refine ab_istore O dL_law_2788 (show 6 < 8 by decide) ?_
  refine ab_aload_n O 2 dL_law_2790 rfl rfl ?_
  refine ab_aload_nR O 0 dL_law_2791 rfl rfl ?_
  refine ab_iload O dL_law_2792 rfl ?_
  refine ab_iconst O 1 dL_law_2794 rfl ?_
  refine ab_iadd O dL_law_2795 ?_
  refine ab_sld O hX hbl hbA dL_law_2796 hin1 ?_
  refine ab_eq (st2 := [.int a1, .ref 57]) ?_ rfl rfl (by rw [e1]) rfl
  refine ab_callvI O hI (fr := False) (st := []) lk_L_289 rfl (at_57 _ _ _) dL_law_2797 (c_X9_heavyPaths 11 (by decide) _ O.2.2.2.2.2.2.1 _ _ _ a1 h) rfl rfl (by rw [hR]; exact ⟨by decide, by decide⟩) (show 0 ≤ 8 by decide) (by rw [hR]; exact ⟨show cells + 1 ≤ 601024 by omega, show slots + 6 ≤ 7293034 by omega⟩) (fun q => q.elim) (fun E u q => q.elim) (fun r5 u hu => ?_)
  obtain ⟨V6, rfl, h⟩ := hu
  refine ab_istore O dL_law_2800 (show 7 < 8 by decide) ?_
  refine ab_aload_n O 2 dL_law_2802 rfl rfl ?_
  refine ab_callvI O hI (fr := False) (st := []) lk_L_155 rfl (at_57 _ _ _) dL_law_2803 (c_X9_thrown 11 (by decide) _ O.2.2.2.2.2.2.1 _ _ _ h) rfl rfl (by rw [hR]; exact ⟨by decide, by decide⟩) (show 0 ≤ 8 by decide) (by rw [hR]; exact ⟨show cells + 1 ≤ 601024 by omega, show slots + 6 ≤ 7293034 by omega⟩) (fun q => q.elim) (fun E u q => q.elim) (fun r7 u hu => ?_)
  obtain ⟨V8, rfl, h⟩ := hu
  refine ab_iload O dL_law_2806 rfl ?_
  refine ab_icmp_eq O 2813 dL_law_2808 rfl (fun q9 => ?_) (fun q9 => ?_)
  · have h := h.1 q9
    refine ab_iload O dL_law_2813 rfl ?_
    refine ab_if_ne O 2830 dL_law_2815 rfl (fun q10 => ?_) (fun q10 => ?_)
    · have h := h.2 q10
      refine ab_goto O 3013 dL_law_2830 rfl ?_
      exact ab_widen (by omega) (by omega) (ab_less (hk V8 o3 D4 h) (ab_le_s (ab_le_s (ab_le_s (ab_le_s (ab_le_s (ab_le_s (ab_le_n (ab_le_n ab_le_0)))))))))
    · have h := h.1 q10
      refine ab_aload_n O 3 dL_law_2818 rfl rfl ?_
      refine ab_iconst O 0 dL_law_2819 rfl ?_
      refine ab_lald O dL_law_2820 (at_72 _ _ _) (by unfold vp_in; decide) ?_
      refine ab_eq (st2 := [.long (o3 0)]) ?_ rfl rfl rfl rfl
      refine ab_iload O dL_law_2821 rfl ?_
      refine ab_i2l O dL_law_2823 ?_
      refine ab_lcmp O dL_law_2824 ?_
      refine ab_if_eq O 2830 dL_law_2825 rfl (fun q11 => ?_) (fun q11 => ?_)
      · have h := h.1 q11
        refine ab_goto O 3013 dL_law_2830 rfl ?_
        exact ab_widen (by omega) (by omega) (ab_less (hk V8 o3 D4 h) (ab_le_s (ab_le_s (ab_le_s (ab_le_s (ab_le_s (ab_le_s (ab_le_n (ab_le_n ab_le_0)))))))))
      · have h := h.2 q11
        exact h.elim
  · have h := h.2 q9
    exact h.elim

def wpc_42 (V : Mm) (o : Nat → Int64) (D : Nat → UInt64) (a1 a2 a3 : Int32) (J : Mm → Prop) : Prop := (wp_L_lightEdges V a1 a2 o D (fun (k1 : Int32) (V2 : Mm) (o3 : Nat → Int64) (D4 : Nat → UInt64) => (wp_X9_lightEdges V2 a1 a2 (fun (r5 : Int32) (V6 : Mm) => (wp_X9_thrown V6 (fun (r7 : Int32) (V8 : Mm) => ((r7 = k1 → ((k1 = 0 → (((lg_cmp ((o3 0)) ((r5).toInt64)) = 0 → J V8) ∧ (¬ (lg_cmp ((o3 0)) ((r5).toInt64)) = 0 → False))) ∧ (¬ k1 = 0 → J V8))) ∧ (¬ r7 = k1 → False))))))))
set_option maxHeartbeats 4000000 in
theorem cc_42 {X : ab_M} {g : ab_G} {cells slots b N : Nat} {xs9 : Nat → Int32} {Q : State → Prop} (O : ab_Ok X g cL_law RL) (hI : tk_S tk_strs (xs X)) (hR : xR X = room_1) (hX : va_X b N xs9 (xs X) (xs X).heap) (hbl : b < (xs X).heap.size) (hbA : ¬ g.1 ≤ b) (hc : cells + 6 ≤ 601024) (hs : slots + 36 ≤ 7293034) {x a1 a2 a3 : Int32} (hin1 : vp_in (x + 1) N) (hin2 : vp_in (x + 2) N) (hin3 : vp_in (x + 3) N) (e1 : xs9 (Int32.toNatClampNeg (x + 1)) = a1) (e2 : xs9 (Int32.toNatClampNeg (x + 2)) = a2) (e3 : xs9 (Int32.toNatClampNeg (x + 3)) = a3) {J : Mm → Prop} {V : Mm} {o : Nat → Int64} {D : Nat → UInt64} (h : wpc_42 V o D a1 a2 a3 J) (hk : ∀ (V : Mm) (o : Nat → Int64) (D : Nat → UInt64), J V → Ab X g (cells + 6) (slots + 36) Q 3013 [some (.retAddr b), some (.ref 0), some (.ref 57), some (.ref 72), some (.ref 73), some (.int x), none, none] [] (SW V o D)) : Ab X g cells slots Q 2833 [some (.retAddr b), some (.ref 0), some (.ref 57), some (.ref 72), some (.ref 73), some (.int x), none, none] [] (SW V o D) := by
  refine ab_aload_n O 1 dL_law_2833 rfl rfl ?_
  refine ab_aload_nR O 0 dL_law_2834 rfl rfl ?_
  refine ab_iload O dL_law_2835 rfl ?_
  refine ab_iconst O 1 dL_law_2837 rfl ?_
  refine ab_iadd O dL_law_2838 ?_
  refine ab_sld O hX hbl hbA dL_law_2839 hin1 ?_
  refine ab_eq (st2 := [.int a1, .ref 0]) ?_ rfl rfl (by rw [e1]) rfl
  refine ab_aload_nR O 0 dL_law_2840 rfl rfl ?_
  refine ab_iload O dL_law_2841 rfl ?_
  refine ab_iconst O 2 dL_law_2843 rfl ?_
  refine ab_iadd O dL_law_2844 ?_
  refine ab_sld O hX hbl hbA dL_law_2845 hin2 ?_
  refine ab_eq (st2 := [.int a2, .int a1, .ref 0]) ?_ rfl rfl (by rw [e2]) rfl
  refine ab_aload_n O 3 dL_law_2846 rfl rfl ?_
  refine ab_callh O hI (st := []) ch_L_290 dL_law_2847 (c_L_lightEdges 11 (by decide) _ O.2.2.2.2.2.2.1 _ _ _ a1 a2 h) rfl rfl (by rw [hR]; exact ⟨by decide, by decide⟩) (show 0 ≤ 8 by decide) (by rw [hR]; exact ⟨show cells + 3 ≤ 601024 by omega, show slots + 18 ≤ 7293034 by omega⟩) (fun k1 u hu => ?_)
  obtain ⟨V2, o3, D4, rfl, h⟩ := hu
  refine ab_istore O dL_law_2850 (show 6 < 8 by decide) ?_
  refine ab_aload_n O 2 dL_law_2852 rfl rfl ?_
  refine ab_aload_nR O 0 dL_law_2853 rfl rfl ?_
  refine ab_iload O dL_law_2854 rfl ?_
  refine ab_iconst O 1 dL_law_2856 rfl ?_
  refine ab_iadd O dL_law_2857 ?_
  refine ab_sld O hX hbl hbA dL_law_2858 hin1 ?_
  refine ab_eq (st2 := [.int a1, .ref 57]) ?_ rfl rfl (by rw [e1]) rfl
  refine ab_aload_nR O 0 dL_law_2859 rfl rfl ?_
  refine ab_iload O dL_law_2860 rfl ?_
  refine ab_iconst O 2 dL_law_2862 rfl ?_
  refine ab_iadd O dL_law_2863 ?_
  refine ab_sld O hX hbl hbA dL_law_2864 hin2 ?_
  refine ab_eq (st2 := [.int a2, .int a1, .ref 57]) ?_ rfl rfl (by rw [e2]) rfl
  refine ab_callvI O hI (fr := False) (st := []) lk_L_292 rfl (at_57 _ _ _) dL_law_2865 (c_X9_lightEdges 11 (by decide) _ O.2.2.2.2.2.2.1 _ _ _ a1 a2 h) rfl rfl (by rw [hR]; exact ⟨by decide, by decide⟩) (show 0 ≤ 8 by decide) (by rw [hR]; exact ⟨show cells + 3 ≤ 601024 by omega, show slots + 18 ≤ 7293034 by omega⟩) (fun q => q.elim) (fun E u q => q.elim) (fun r5 u hu => ?_)
  obtain ⟨V6, rfl, h⟩ := hu
  refine ab_istore O dL_law_2868 (show 7 < 8 by decide) ?_
  refine ab_aload_n O 2 dL_law_2870 rfl rfl ?_
  refine ab_callvI O hI (fr := False) (st := []) lk_L_155 rfl (at_57 _ _ _) dL_law_2871 (c_X9_thrown 11 (by decide) _ O.2.2.2.2.2.2.1 _ _ _ h) rfl rfl (by rw [hR]; exact ⟨by decide, by decide⟩) (show 0 ≤ 8 by decide) (by rw [hR]; exact ⟨show cells + 3 ≤ 601024 by omega, show slots + 18 ≤ 7293034 by omega⟩) (fun q => q.elim) (fun E u q => q.elim) (fun r7 u hu => ?_)
  obtain ⟨V8, rfl, h⟩ := hu
  refine ab_iload O dL_law_2874 rfl ?_
  refine ab_icmp_eq O 2881 dL_law_2876 rfl (fun q9 => ?_) (fun q9 => ?_)
  · have h := h.1 q9
    refine ab_iload O dL_law_2881 rfl ?_
    refine ab_if_ne O 2898 dL_law_2883 rfl (fun q10 => ?_) (fun q10 => ?_)
    · have h := h.2 q10
      refine ab_goto O 3013 dL_law_2898 rfl ?_
      exact ab_widen (by omega) (by omega) (ab_less (hk V8 o3 D4 h) (ab_le_s (ab_le_s (ab_le_s (ab_le_s (ab_le_s (ab_le_s (ab_le_n (ab_le_n ab_le_0)))))))))
    · have h := h.1 q10
      refine ab_aload_n O 3 dL_law_2886 rfl rfl ?_
      refine ab_iconst O 0 dL_law_2887 rfl ?_
      refine ab_lald O dL_law_2888 (at_72 _ _ _) (by unfold vp_in; decide) ?_
      refine ab_eq (st2 := [.long (o3 0)]) ?_ rfl rfl rfl rfl
      refine ab_iload O dL_law_2889 rfl ?_
      refine ab_i2l O dL_law_2891 ?_
      refine ab_lcmp O dL_law_2892 ?_
      refine ab_if_eq O 2898 dL_law_2893 rfl (fun q11 => ?_) (fun q11 => ?_)
      · have h := h.1 q11
        refine ab_goto O 3013 dL_law_2898 rfl ?_
        exact ab_widen (by omega) (by omega) (ab_less (hk V8 o3 D4 h) (ab_le_s (ab_le_s (ab_le_s (ab_le_s (ab_le_s (ab_le_s (ab_le_n (ab_le_n ab_le_0)))))))))
      · have h := h.2 q11
        exact h.elim
  · have h := h.2 q9
    exact h.elim

def wpc_43 (V : Mm) (o : Nat → Int64) (D : Nat → UInt64) (a1 a2 a3 : Int32) (J : Mm → Prop) : Prop := (wp_L_diameter V a1 o D (fun (k1 : Int32) (V2 : Mm) (o3 : Nat → Int64) (D4 : Nat → UInt64) => (wp_X9_diameter V2 a1 (fun (r5 : Int32) (V6 : Mm) => (wp_X9_thrown V6 (fun (r7 : Int32) (V8 : Mm) => ((r7 = k1 → ((k1 = 0 → (((lg_cmp ((o3 0)) ((r5).toInt64)) = 0 → J V8) ∧ (¬ (lg_cmp ((o3 0)) ((r5).toInt64)) = 0 → False))) ∧ (¬ k1 = 0 → J V8))) ∧ (¬ r7 = k1 → False))))))))
set_option maxHeartbeats 4000000 in
theorem cc_43 {X : ab_M} {g : ab_G} {cells slots b N : Nat} {xs9 : Nat → Int32} {Q : State → Prop} (O : ab_Ok X g cL_law RL) (hI : tk_S tk_strs (xs X)) (hR : xR X = room_1) (hX : va_X b N xs9 (xs X) (xs X).heap) (hbl : b < (xs X).heap.size) (hbA : ¬ g.1 ≤ b) (hc : cells + 6 ≤ 601024) (hs : slots + 36 ≤ 7293034) {x a1 a2 a3 : Int32} (hin1 : vp_in (x + 1) N) (hin2 : vp_in (x + 2) N) (hin3 : vp_in (x + 3) N) (e1 : xs9 (Int32.toNatClampNeg (x + 1)) = a1) (e2 : xs9 (Int32.toNatClampNeg (x + 2)) = a2) (e3 : xs9 (Int32.toNatClampNeg (x + 3)) = a3) {J : Mm → Prop} {V : Mm} {o : Nat → Int64} {D : Nat → UInt64} (h : wpc_43 V o D a1 a2 a3 J) (hk : ∀ (V : Mm) (o : Nat → Int64) (D : Nat → UInt64), J V → Ab X g (cells + 6) (slots + 36) Q 3013 [some (.retAddr b), some (.ref 0), some (.ref 57), some (.ref 72), some (.ref 73), some (.int x), none, none] [] (SW V o D)) : Ab X g cells slots Q 2901 [some (.retAddr b), some (.ref 0), some (.ref 57), some (.ref 72), some (.ref 73), some (.int x), none, none] [] (SW V o D) := by
  refine ab_aload_n O 1 dL_law_2901 rfl rfl ?_
  refine ab_aload_nR O 0 dL_law_2902 rfl rfl ?_
  refine ab_iload O dL_law_2903 rfl ?_
  refine ab_iconst O 1 dL_law_2905 rfl ?_
  refine ab_iadd O dL_law_2906 ?_
  refine ab_sld O hX hbl hbA dL_law_2907 hin1 ?_
  refine ab_eq (st2 := [.int a1, .ref 0]) ?_ rfl rfl (by rw [e1]) rfl
  refine ab_aload_n O 3 dL_law_2908 rfl rfl ?_
  refine ab_callh O hI (st := []) ch_L_293 dL_law_2909 (c_L_diameter 11 (by decide) _ O.2.2.2.2.2.2.1 _ _ _ a1 h) rfl rfl (by rw [hR]; exact ⟨by decide, by decide⟩) (show 0 ≤ 8 by decide) (by rw [hR]; exact ⟨show cells + 1 ≤ 601024 by omega, show slots + 6 ≤ 7293034 by omega⟩) (fun k1 u hu => ?_)
  obtain ⟨V2, o3, D4, rfl, h⟩ := hu
  refine ab_istore O dL_law_2912 (show 6 < 8 by decide) ?_
  refine ab_aload_n O 2 dL_law_2914 rfl rfl ?_
  refine ab_aload_nR O 0 dL_law_2915 rfl rfl ?_
  refine ab_iload O dL_law_2916 rfl ?_
  refine ab_iconst O 1 dL_law_2918 rfl ?_
  refine ab_iadd O dL_law_2919 ?_
  refine ab_sld O hX hbl hbA dL_law_2920 hin1 ?_
  refine ab_eq (st2 := [.int a1, .ref 57]) ?_ rfl rfl (by rw [e1]) rfl
  refine ab_callvI O hI (fr := False) (st := []) lk_L_295 rfl (at_57 _ _ _) dL_law_2921 (c_X9_diameter 11 (by decide) _ O.2.2.2.2.2.2.1 _ _ _ a1 h) rfl rfl (by rw [hR]; exact ⟨by decide, by decide⟩) (show 0 ≤ 8 by decide) (by rw [hR]; exact ⟨show cells + 1 ≤ 601024 by omega, show slots + 6 ≤ 7293034 by omega⟩) (fun q => q.elim) (fun E u q => q.elim) (fun r5 u hu => ?_)
  obtain ⟨V6, rfl, h⟩ := hu
  refine ab_istore O dL_law_2924 (show 7 < 8 by decide) ?_
  refine ab_aload_n O 2 dL_law_2926 rfl rfl ?_
  refine ab_callvI O hI (fr := False) (st := []) lk_L_155 rfl (at_57 _ _ _) dL_law_2927 (c_X9_thrown 11 (by decide) _ O.2.2.2.2.2.2.1 _ _ _ h) rfl rfl (by rw [hR]; exact ⟨by decide, by decide⟩) (show 0 ≤ 8 by decide) (by rw [hR]; exact ⟨show cells + 1 ≤ 601024 by omega, show slots + 6 ≤ 7293034 by omega⟩) (fun q => q.elim) (fun E u q => q.elim) (fun r7 u hu => ?_)
  obtain ⟨V8, rfl, h⟩ := hu
  refine ab_iload O dL_law_2930 rfl ?_
  refine ab_icmp_eq O 2937 dL_law_2932 rfl (fun q9 => ?_) (fun q9 => ?_)
  · have h := h.1 q9
    refine ab_iload O dL_law_2937 rfl ?_
    refine ab_if_ne O 2954 dL_law_2939 rfl (fun q10 => ?_) (fun q10 => ?_)
    · have h := h.2 q10
      refine ab_goto O 3013 dL_law_2954 rfl ?_
      exact ab_widen (by omega) (by omega) (ab_less (hk V8 o3 D4 h) (ab_le_s (ab_le_s (ab_le_s (ab_le_s (ab_le_s (ab_le_s (ab_le_n (ab_le_n ab_le_0)))))))))
    · have h := h.1 q10
      refine ab_aload_n O 3 dL_law_2942 rfl rfl ?_
      refine ab_iconst O 0 dL_law_2943 rfl ?_
      refine ab_lald O dL_law_2944 (at_72 _ _ _) (by unfold vp_in; decide) ?_
      refine ab_eq (st2 := [.long (o3 0)]) ?_ rfl rfl rfl rfl
      refine ab_iload O dL_law_2945 rfl ?_
      refine ab_i2l O dL_law_2947 ?_
      refine ab_lcmp O dL_law_2948 ?_
      refine ab_if_eq O 2954 dL_law_2949 rfl (fun q11 => ?_) (fun q11 => ?_)
      · have h := h.1 q11
        refine ab_goto O 3013 dL_law_2954 rfl ?_
        exact ab_widen (by omega) (by omega) (ab_less (hk V8 o3 D4 h) (ab_le_s (ab_le_s (ab_le_s (ab_le_s (ab_le_s (ab_le_s (ab_le_n (ab_le_n ab_le_0)))))))))
      · have h := h.2 q11
        exact h.elim
  · have h := h.2 q9
    exact h.elim

def wpc_44 (V : Mm) (o : Nat → Int64) (D : Nat → UInt64) (a1 a2 a3 : Int32) (J : Mm → Prop) : Prop := (wp_L_diameterByTrying V a1 o D (fun (k1 : Int32) (V2 : Mm) (o3 : Nat → Int64) (D4 : Nat → UInt64) => (wp_X9_diameterByTrying V2 a1 (fun (r5 : Int32) (V6 : Mm) => (wp_X9_thrown V6 (fun (r7 : Int32) (V8 : Mm) => ((r7 = k1 → ((k1 = 0 → (((lg_cmp ((o3 0)) ((r5).toInt64)) = 0 → J V8) ∧ (¬ (lg_cmp ((o3 0)) ((r5).toInt64)) = 0 → False))) ∧ (¬ k1 = 0 → J V8))) ∧ (¬ r7 = k1 → False))))))))
set_option maxHeartbeats 4000000 in
theorem cc_44 {X : ab_M} {g : ab_G} {cells slots b N : Nat} {xs9 : Nat → Int32} {Q : State → Prop} (O : ab_Ok X g cL_law RL) (hI : tk_S tk_strs (xs X)) (hR : xR X = room_1) (hX : va_X b N xs9 (xs X) (xs X).heap) (hbl : b < (xs X).heap.size) (hbA : ¬ g.1 ≤ b) (hc : cells + 6 ≤ 601024) (hs : slots + 36 ≤ 7293034) {x a1 a2 a3 : Int32} (hin1 : vp_in (x + 1) N) (hin2 : vp_in (x + 2) N) (hin3 : vp_in (x + 3) N) (e1 : xs9 (Int32.toNatClampNeg (x + 1)) = a1) (e2 : xs9 (Int32.toNatClampNeg (x + 2)) = a2) (e3 : xs9 (Int32.toNatClampNeg (x + 3)) = a3) {J : Mm → Prop} {V : Mm} {o : Nat → Int64} {D : Nat → UInt64} (h : wpc_44 V o D a1 a2 a3 J) (hk : ∀ (V : Mm) (o : Nat → Int64) (D : Nat → UInt64), J V → Ab X g (cells + 6) (slots + 36) Q 3013 [some (.retAddr b), some (.ref 0), some (.ref 57), some (.ref 72), some (.ref 73), some (.int x), none, none] [] (SW V o D)) : Ab X g cells slots Q 2957 [some (.retAddr b), some (.ref 0), some (.ref 57), some (.ref 72), some (.ref 73), some (.int x), none, none] [] (SW V o D) := by
  refine ab_aload_n O 1 dL_law_2957 rfl rfl ?_
  refine ab_aload_nR O 0 dL_law_2958 rfl rfl ?_
  refine ab_iload O dL_law_2959 rfl ?_
  refine ab_iconst O 1 dL_law_2961 rfl ?_
  refine ab_iadd O dL_law_2962 ?_
  refine ab_sld O hX hbl hbA dL_law_2963 hin1 ?_
  refine ab_eq (st2 := [.int a1, .ref 0]) ?_ rfl rfl (by rw [e1]) rfl
  refine ab_aload_n O 3 dL_law_2964 rfl rfl ?_
  refine ab_callh O hI (st := []) ch_L_296 dL_law_2965 (c_L_diameterByTrying 11 (by decide) _ O.2.2.2.2.2.2.1 _ _ _ a1 h) rfl rfl (by rw [hR]; exact ⟨by decide, by decide⟩) (show 0 ≤ 8 by decide) (by rw [hR]; exact ⟨show cells + 1 ≤ 601024 by omega, show slots + 6 ≤ 7293034 by omega⟩) (fun k1 u hu => ?_)
  obtain ⟨V2, o3, D4, rfl, h⟩ := hu
  refine ab_istore O dL_law_2968 (show 6 < 8 by decide) ?_
  refine ab_aload_n O 2 dL_law_2970 rfl rfl ?_
  refine ab_aload_nR O 0 dL_law_2971 rfl rfl ?_
  refine ab_iload O dL_law_2972 rfl ?_
  refine ab_iconst O 1 dL_law_2974 rfl ?_
  refine ab_iadd O dL_law_2975 ?_
  refine ab_sld O hX hbl hbA dL_law_2976 hin1 ?_
  refine ab_eq (st2 := [.int a1, .ref 57]) ?_ rfl rfl (by rw [e1]) rfl
  refine ab_callvI O hI (fr := False) (st := []) lk_L_298 rfl (at_57 _ _ _) dL_law_2977 (c_X9_diameterByTrying 11 (by decide) _ O.2.2.2.2.2.2.1 _ _ _ a1 h) rfl rfl (by rw [hR]; exact ⟨by decide, by decide⟩) (show 0 ≤ 8 by decide) (by rw [hR]; exact ⟨show cells + 1 ≤ 601024 by omega, show slots + 6 ≤ 7293034 by omega⟩) (fun q => q.elim) (fun E u q => q.elim) (fun r5 u hu => ?_)
  obtain ⟨V6, rfl, h⟩ := hu
  refine ab_istore O dL_law_2980 (show 7 < 8 by decide) ?_
  refine ab_aload_n O 2 dL_law_2982 rfl rfl ?_
  refine ab_callvI O hI (fr := False) (st := []) lk_L_155 rfl (at_57 _ _ _) dL_law_2983 (c_X9_thrown 11 (by decide) _ O.2.2.2.2.2.2.1 _ _ _ h) rfl rfl (by rw [hR]; exact ⟨by decide, by decide⟩) (show 0 ≤ 8 by decide) (by rw [hR]; exact ⟨show cells + 1 ≤ 601024 by omega, show slots + 6 ≤ 7293034 by omega⟩) (fun q => q.elim) (fun E u q => q.elim) (fun r7 u hu => ?_)
  obtain ⟨V8, rfl, h⟩ := hu
  refine ab_iload O dL_law_2986 rfl ?_
  refine ab_icmp_eq O 2993 dL_law_2988 rfl (fun q9 => ?_) (fun q9 => ?_)
  · have h := h.1 q9
    refine ab_iload O dL_law_2993 rfl ?_
    refine ab_if_ne O 3010 dL_law_2995 rfl (fun q10 => ?_) (fun q10 => ?_)
    · have h := h.2 q10
      refine ab_goto O 3013 dL_law_3010 rfl ?_
      exact ab_widen (by omega) (by omega) (ab_less (hk V8 o3 D4 h) (ab_le_s (ab_le_s (ab_le_s (ab_le_s (ab_le_s (ab_le_s (ab_le_n (ab_le_n ab_le_0)))))))))
    · have h := h.1 q10
      refine ab_aload_n O 3 dL_law_2998 rfl rfl ?_
      refine ab_iconst O 0 dL_law_2999 rfl ?_
      refine ab_lald O dL_law_3000 (at_72 _ _ _) (by unfold vp_in; decide) ?_
      refine ab_eq (st2 := [.long (o3 0)]) ?_ rfl rfl rfl rfl
      refine ab_iload O dL_law_3001 rfl ?_
      refine ab_i2l O dL_law_3003 ?_
      refine ab_lcmp O dL_law_3004 ?_
      refine ab_if_eq O 3010 dL_law_3005 rfl (fun q11 => ?_) (fun q11 => ?_)
      · have h := h.1 q11
        refine ab_goto O 3013 dL_law_3010 rfl ?_
        exact ab_widen (by omega) (by omega) (ab_less (hk V8 o3 D4 h) (ab_le_s (ab_le_s (ab_le_s (ab_le_s (ab_le_s (ab_le_s (ab_le_n (ab_le_n ab_le_0)))))))))
      · have h := h.2 q11
        exact h.elim
  · have h := h.2 q9
    exact h.elim

