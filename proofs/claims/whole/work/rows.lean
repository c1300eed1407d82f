section
-- ===== PART A: goes FIRST, ahead of the names: the tables' words, and 'selects' of the private methods out of them =====
/-- a private method of a class that the tables say can be made, by its rows of tables_1 -/
def lw_okq (q : MethodName × Nat) : Prop := (q.1.cls ≠ "java/lang/invoke/MethodHandle" ∧ q.1.cls ≠ "java/lang/invoke/VarHandle") ∧ Cond.instantiable q.1.cls q.2 ∈ tables_1 ∧ Cond.privateMethod q.1 ∈ tables_1 ∧ Cond.instanceMethod q.1 ∈ tables_1
theorem lw_p0 : lw_okq (⟨"Thicket$ForestAnew", "clear", "()V"⟩, 6) := ⟨⟨by decide +kernel, by decide +kernel⟩, List.mem_of_getElem? (i := 131) (by decide +kernel), List.mem_of_getElem? (i := 280) (by decide +kernel), List.mem_of_getElem? (i := 281) (by decide +kernel)⟩
theorem lw_p1 : lw_okq (⟨"Thicket$ForestAnew", "sortPresentBut", "(I)V"⟩, 6) := ⟨⟨by decide +kernel, by decide +kernel⟩, List.mem_of_getElem? (i := 131) (by decide +kernel), List.mem_of_getElem? (i := 284) (by decide +kernel), List.mem_of_getElem? (i := 285) (by decide +kernel)⟩
theorem lw_p2 : lw_okq (⟨"Thicket$ForestAnew", "insert", "(I)V"⟩, 6) := ⟨⟨by decide +kernel, by decide +kernel⟩, List.mem_of_getElem? (i := 131) (by decide +kernel), List.mem_of_getElem? (i := 297) (by decide +kernel), List.mem_of_getElem? (i := 298) (by decide +kernel)⟩
theorem lw_p3 : lw_okq (⟨"Thicket$ForestAnew", "chooseIfItJoins", "(I)V"⟩, 6) := ⟨⟨by decide +kernel, by decide +kernel⟩, List.mem_of_getElem? (i := 131) (by decide +kernel), List.mem_of_getElem? (i := 305) (by decide +kernel), List.mem_of_getElem? (i := 306) (by decide +kernel)⟩
theorem lw_p4 : lw_okq (⟨"Thicket$ForestAnew", "groupOf", "(I)I"⟩, 6) := ⟨⟨by decide +kernel, by decide +kernel⟩, List.mem_of_getElem? (i := 131) (by decide +kernel), List.mem_of_getElem? (i := 313) (by decide +kernel), List.mem_of_getElem? (i := 314) (by decide +kernel)⟩
theorem lw_p5 : lw_okq (⟨"java/lang/Throwable", "fillInStackTrace", "(I)Ljava/lang/Throwable;"⟩, 6) := ⟨⟨by decide +kernel, by decide +kernel⟩, List.mem_of_getElem? (i := 397) (by decide +kernel), List.mem_of_getElem? (i := 395) (by decide +kernel), List.mem_of_getElem? (i := 396) (by decide +kernel)⟩
theorem lw_p6 : lw_okq (⟨"Thicket", "requireVertex", "(I)V"⟩, 8) := ⟨⟨by decide +kernel, by decide +kernel⟩, List.mem_of_getElem? (i := 22) (by decide +kernel), List.mem_of_getElem? (i := 455) (by decide +kernel), List.mem_of_getElem? (i := 456) (by decide +kernel)⟩
theorem lw_p7 : lw_okq (⟨"Thicket", "requireVertices", "(II)V"⟩, 8) := ⟨⟨by decide +kernel, by decide +kernel⟩, List.mem_of_getElem? (i := 22) (by decide +kernel), List.mem_of_getElem? (i := 493) (by decide +kernel), List.mem_of_getElem? (i := 494) (by decide +kernel)⟩
theorem lw_p8 : lw_okq (⟨"Thicket$RootedTree", "reach", "(III)V"⟩, 8) := ⟨⟨by decide +kernel, by decide +kernel⟩, List.mem_of_getElem? (i := 84) (by decide +kernel), List.mem_of_getElem? (i := 535) (by decide +kernel), List.mem_of_getElem? (i := 536) (by decide +kernel)⟩
theorem lw_p9 : lw_okq (⟨"Thicket$Forest", "write", "(III)V"⟩, 4) := ⟨⟨by decide +kernel, by decide +kernel⟩, List.mem_of_getElem? (i := 60) (by decide +kernel), List.mem_of_getElem? (i := 563) (by decide +kernel), List.mem_of_getElem? (i := 564) (by decide +kernel)⟩
theorem lw_p10 : lw_okq (⟨"Thicket", "requireEdge", "(I)V"⟩, 8) := ⟨⟨by decide +kernel, by decide +kernel⟩, List.mem_of_getElem? (i := 22) (by decide +kernel), List.mem_of_getElem? (i := 585) (by decide +kernel), List.mem_of_getElem? (i := 586) (by decide +kernel)⟩
theorem lw_p11 : lw_okq (⟨"Thicket", "requirePresent", "(I)V"⟩, 8) := ⟨⟨by decide +kernel, by decide +kernel⟩, List.mem_of_getElem? (i := 22) (by decide +kernel), List.mem_of_getElem? (i := 591) (by decide +kernel), List.mem_of_getElem? (i := 592) (by decide +kernel)⟩
theorem lw_p12 : lw_okq (⟨"Thicket$ForestKeeper", "leavesPlanted", "(I)Z"⟩, 3) := ⟨⟨by decide +kernel, by decide +kernel⟩, List.mem_of_getElem? (i := 115) (by decide +kernel), List.mem_of_getElem? (i := 616) (by decide +kernel), List.mem_of_getElem? (i := 617) (by decide +kernel)⟩
theorem lw_p13 : lw_okq (⟨"Thicket", "plantHolding", "(II)V"⟩, 8) := ⟨⟨by decide +kernel, by decide +kernel⟩, List.mem_of_getElem? (i := 22) (by decide +kernel), List.mem_of_getElem? (i := 647) (by decide +kernel), List.mem_of_getElem? (i := 648) (by decide +kernel)⟩
theorem lw_p14 : lw_okq (⟨"Thicket", "requireInTree", "(I)V"⟩, 8) := ⟨⟨by decide +kernel, by decide +kernel⟩, List.mem_of_getElem? (i := 22) (by decide +kernel), List.mem_of_getElem? (i := 652) (by decide +kernel), List.mem_of_getElem? (i := 653) (by decide +kernel)⟩
theorem lw_p15 : lw_okq (⟨"Thicket$GraphWalk", "visit", "(I)V"⟩, 4) := ⟨⟨by decide +kernel, by decide +kernel⟩, List.mem_of_getElem? (i := 156) (by decide +kernel), List.mem_of_getElem? (i := 791) (by decide +kernel), List.mem_of_getElem? (i := 792) (by decide +kernel)⟩
def lw_privs_1 : List (MethodName × Nat) := [(⟨"Thicket$ForestAnew", "clear", "()V"⟩, 6), (⟨"Thicket$ForestAnew", "sortPresentBut", "(I)V"⟩, 6), (⟨"Thicket$ForestAnew", "insert", "(I)V"⟩, 6), (⟨"Thicket$ForestAnew", "chooseIfItJoins", "(I)V"⟩, 6), (⟨"Thicket$ForestAnew", "groupOf", "(I)I"⟩, 6), (⟨"java/lang/Throwable", "fillInStackTrace", "(I)Ljava/lang/Throwable;"⟩, 6), (⟨"Thicket", "requireVertex", "(I)V"⟩, 8), (⟨"Thicket", "requireVertices", "(II)V"⟩, 8), (⟨"Thicket$RootedTree", "reach", "(III)V"⟩, 8), (⟨"Thicket$Forest", "write", "(III)V"⟩, 4), (⟨"Thicket", "requireEdge", "(I)V"⟩, 8), (⟨"Thicket", "requirePresent", "(I)V"⟩, 8), (⟨"Thicket$ForestKeeper", "leavesPlanted", "(I)Z"⟩, 3), (⟨"Thicket", "plantHolding", "(II)V"⟩, 8), (⟨"Thicket", "requireInTree", "(I)V"⟩, 8), (⟨"Thicket$GraphWalk", "visit", "(I)V"⟩, 4)]
theorem lw_r1 : ∀ q ∈ lw_privs_1, lw_okq q := List.forall_mem_cons.mpr ⟨lw_p0, List.forall_mem_cons.mpr ⟨lw_p1, List.forall_mem_cons.mpr ⟨lw_p2, List.forall_mem_cons.mpr ⟨lw_p3, List.forall_mem_cons.mpr ⟨lw_p4, List.forall_mem_cons.mpr ⟨lw_p5, List.forall_mem_cons.mpr ⟨lw_p6, List.forall_mem_cons.mpr ⟨lw_p7, List.forall_mem_cons.mpr ⟨lw_p8, List.forall_mem_cons.mpr ⟨lw_p9, List.forall_mem_cons.mpr ⟨lw_p10, List.forall_mem_cons.mpr ⟨lw_p11, List.forall_mem_cons.mpr ⟨lw_p12, List.forall_mem_cons.mpr ⟨lw_p13, List.forall_mem_cons.mpr ⟨lw_p14, List.forall_mem_cons.mpr ⟨lw_p15, fun _ h => absurd h List.not_mem_nil⟩⟩⟩⟩⟩⟩⟩⟩⟩⟩⟩⟩⟩⟩⟩⟩
theorem lw_p16 : lw_okq (⟨"Thicket$GraphWalk", "visitAround", "(I)V"⟩, 4) := ⟨⟨by decide +kernel, by decide +kernel⟩, List.mem_of_getElem? (i := 156) (by decide +kernel), List.mem_of_getElem? (i := 796) (by decide +kernel), List.mem_of_getElem? (i := 797) (by decide +kernel)⟩
theorem lw_p17 : lw_okq (⟨"Thicket", "requireInForest", "(I)V"⟩, 8) := ⟨⟨by decide +kernel, by decide +kernel⟩, List.mem_of_getElem? (i := 22) (by decide +kernel), List.mem_of_getElem? (i := 810) (by decide +kernel), List.mem_of_getElem? (i := 811) (by decide +kernel)⟩
theorem lw_p18 : lw_okq (⟨"Thicket$HeavyPaths", "handUp", "(I)V"⟩, 8) := ⟨⟨by decide +kernel, by decide +kernel⟩, List.mem_of_getElem? (i := 175) (by decide +kernel), List.mem_of_getElem? (i := 882) (by decide +kernel), List.mem_of_getElem? (i := 883) (by decide +kernel)⟩
theorem lw_p19 : lw_okq (⟨"Thicket$HeavyPaths", "isHeavier", "(II)Z"⟩, 8) := ⟨⟨by decide +kernel, by decide +kernel⟩, List.mem_of_getElem? (i := 175) (by decide +kernel), List.mem_of_getElem? (i := 888) (by decide +kernel), List.mem_of_getElem? (i := 889) (by decide +kernel)⟩
theorem lw_p20 : lw_okq (⟨"Thicket$HeavyPaths", "followDown", "(I)V"⟩, 8) := ⟨⟨by decide +kernel, by decide +kernel⟩, List.mem_of_getElem? (i := 175) (by decide +kernel), List.mem_of_getElem? (i := 896) (by decide +kernel), List.mem_of_getElem? (i := 897) (by decide +kernel)⟩
theorem lw_p21 : lw_okq (⟨"Thicket$HeavyPaths", "sumToHead", "(I)I"⟩, 8) := ⟨⟨by decide +kernel, by decide +kernel⟩, List.mem_of_getElem? (i := 175) (by decide +kernel), List.mem_of_getElem? (i := 908) (by decide +kernel), List.mem_of_getElem? (i := 909) (by decide +kernel)⟩
theorem lw_p22 : lw_okq (⟨"Thicket", "requireDistance", "(II)V"⟩, 8) := ⟨⟨by decide +kernel, by decide +kernel⟩, List.mem_of_getElem? (i := 22) (by decide +kernel), List.mem_of_getElem? (i := 983) (by decide +kernel), List.mem_of_getElem? (i := 984) (by decide +kernel)⟩
theorem lw_p23 : lw_okq (⟨"Thicket$Jumps", "jump", "(II)I"⟩, 3) := ⟨⟨by decide +kernel, by decide +kernel⟩, List.mem_of_getElem? (i := 206) (by decide +kernel), List.mem_of_getElem? (i := 993) (by decide +kernel), List.mem_of_getElem? (i := 994) (by decide +kernel)⟩
theorem lw_p24 : lw_okq (⟨"Thicket", "greatestDepth", "()I"⟩, 8) := ⟨⟨by decide +kernel, by decide +kernel⟩, List.mem_of_getElem? (i := 22) (by decide +kernel), List.mem_of_getElem? (i := 1110) (by decide +kernel), List.mem_of_getElem? (i := 1111) (by decide +kernel)⟩
theorem lw_p25 : lw_okq (⟨"ThicketModel", "fails", "(I)I"⟩, 18) := ⟨⟨by decide +kernel, by decide +kernel⟩, List.mem_of_getElem? (i := 1115) (by decide +kernel), List.mem_of_getElem? (i := 1187) (by decide +kernel), List.mem_of_getElem? (i := 1188) (by decide +kernel)⟩
theorem lw_p26 : lw_okq (⟨"ThicketModel", "finds", "()V"⟩, 18) := ⟨⟨by decide +kernel, by decide +kernel⟩, List.mem_of_getElem? (i := 1115) (by decide +kernel), List.mem_of_getElem? (i := 1191) (by decide +kernel), List.mem_of_getElem? (i := 1192) (by decide +kernel)⟩
theorem lw_p27 : lw_okq (⟨"ThicketModel", "finds", "(I[Z)V"⟩, 18) := ⟨⟨by decide +kernel, by decide +kernel⟩, List.mem_of_getElem? (i := 1115) (by decide +kernel), List.mem_of_getElem? (i := 1195) (by decide +kernel), List.mem_of_getElem? (i := 1196) (by decide +kernel)⟩
theorem lw_p28 : lw_okq (⟨"ThicketModel", "sorts", "()V"⟩, 18) := ⟨⟨by decide +kernel, by decide +kernel⟩, List.mem_of_getElem? (i := 1115) (by decide +kernel), List.mem_of_getElem? (i := 1199) (by decide +kernel), List.mem_of_getElem? (i := 1200) (by decide +kernel)⟩
theorem lw_p29 : lw_okq (⟨"ThicketModel", "comesBefore", "(II)Z"⟩, 18) := ⟨⟨by decide +kernel, by decide +kernel⟩, List.mem_of_getElem? (i := 1115) (by decide +kernel), List.mem_of_getElem? (i := 1203) (by decide +kernel), List.mem_of_getElem? (i := 1204) (by decide +kernel)⟩
theorem lw_p30 : lw_okq (⟨"ThicketModel", "isVertex", "(I)Z"⟩, 18) := ⟨⟨by decide +kernel, by decide +kernel⟩, List.mem_of_getElem? (i := 1115) (by decide +kernel), List.mem_of_getElem? (i := 1211) (by decide +kernel), List.mem_of_getElem? (i := 1212) (by decide +kernel)⟩
theorem lw_p31 : lw_okq (⟨"ThicketModel", "isEdge", "(I)Z"⟩, 18) := ⟨⟨by decide +kernel, by decide +kernel⟩, List.mem_of_getElem? (i := 1115) (by decide +kernel), List.mem_of_getElem? (i := 1223) (by decide +kernel), List.mem_of_getElem? (i := 1224) (by decide +kernel)⟩
def lw_privs_2 : List (MethodName × Nat) := [(⟨"Thicket$GraphWalk", "visitAround", "(I)V"⟩, 4), (⟨"Thicket", "requireInForest", "(I)V"⟩, 8), (⟨"Thicket$HeavyPaths", "handUp", "(I)V"⟩, 8), (⟨"Thicket$HeavyPaths", "isHeavier", "(II)Z"⟩, 8), (⟨"Thicket$HeavyPaths", "followDown", "(I)V"⟩, 8), (⟨"Thicket$HeavyPaths", "sumToHead", "(I)I"⟩, 8), (⟨"Thicket", "requireDistance", "(II)V"⟩, 8), (⟨"Thicket$Jumps", "jump", "(II)I"⟩, 3), (⟨"Thicket", "greatestDepth", "()I"⟩, 8), (⟨"ThicketModel", "fails", "(I)I"⟩, 18), (⟨"ThicketModel", "finds", "()V"⟩, 18), (⟨"ThicketModel", "finds", "(I[Z)V"⟩, 18), (⟨"ThicketModel", "sorts", "()V"⟩, 18), (⟨"ThicketModel", "comesBefore", "(II)Z"⟩, 18), (⟨"ThicketModel", "isVertex", "(I)Z"⟩, 18), (⟨"ThicketModel", "isEdge", "(I)Z"⟩, 18)]
theorem lw_r2 : ∀ q ∈ lw_privs_2, lw_okq q := List.forall_mem_cons.mpr ⟨lw_p16, List.forall_mem_cons.mpr ⟨lw_p17, List.forall_mem_cons.mpr ⟨lw_p18, List.forall_mem_cons.mpr ⟨lw_p19, List.forall_mem_cons.mpr ⟨lw_p20, List.forall_mem_cons.mpr ⟨lw_p21, List.forall_mem_cons.mpr ⟨lw_p22, List.forall_mem_cons.mpr ⟨lw_p23, List.forall_mem_cons.mpr ⟨lw_p24, List.forall_mem_cons.mpr ⟨lw_p25, List.forall_mem_cons.mpr ⟨lw_p26, List.forall_mem_cons.mpr ⟨lw_p27, List.forall_mem_cons.mpr ⟨lw_p28, List.forall_mem_cons.mpr ⟨lw_p29, List.forall_mem_cons.mpr ⟨lw_p30, List.forall_mem_cons.mpr ⟨lw_p31, fun _ h => absurd h List.not_mem_nil⟩⟩⟩⟩⟩⟩⟩⟩⟩⟩⟩⟩⟩⟩⟩⟩
theorem lw_p32 : lw_okq (⟨"ThicketModel", "joining", "(I)I"⟩, 18) := ⟨⟨by decide +kernel, by decide +kernel⟩, List.mem_of_getElem? (i := 1115) (by decide +kernel), List.mem_of_getElem? (i := 1227) (by decide +kernel), List.mem_of_getElem? (i := 1228) (by decide +kernel)⟩
theorem lw_p33 : lw_okq (⟨"ThicketModel", "roots", "(I)V"⟩, 18) := ⟨⟨by decide +kernel, by decide +kernel⟩, List.mem_of_getElem? (i := 1115) (by decide +kernel), List.mem_of_getElem? (i := 1239) (by decide +kernel), List.mem_of_getElem? (i := 1240) (by decide +kernel)⟩
theorem lw_p34 : lw_okq (⟨"ThicketModel", "joins", "(III)Z"⟩, 18) := ⟨⟨by decide +kernel, by decide +kernel⟩, List.mem_of_getElem? (i := 1115) (by decide +kernel), List.mem_of_getElem? (i := 1271) (by decide +kernel), List.mem_of_getElem? (i := 1272) (by decide +kernel)⟩
theorem lw_p35 : lw_okq (⟨"ThicketModel", "isNeighbour", "(II)Z"⟩, 18) := ⟨⟨by decide +kernel, by decide +kernel⟩, List.mem_of_getElem? (i := 1115) (by decide +kernel), List.mem_of_getElem? (i := 1296) (by decide +kernel), List.mem_of_getElem? (i := 1297) (by decide +kernel)⟩
theorem lw_p36 : lw_okq (⟨"ThicketModel", "isApart", "(II)Z"⟩, 18) := ⟨⟨by decide +kernel, by decide +kernel⟩, List.mem_of_getElem? (i := 1115) (by decide +kernel), List.mem_of_getElem? (i := 1326) (by decide +kernel), List.mem_of_getElem? (i := 1327) (by decide +kernel)⟩
theorem lw_p37 : lw_okq (⟨"ThicketModel", "between", "(II)I"⟩, 18) := ⟨⟨by decide +kernel, by decide +kernel⟩, List.mem_of_getElem? (i := 1115) (by decide +kernel), List.mem_of_getElem? (i := 1351) (by decide +kernel), List.mem_of_getElem? (i := 1352) (by decide +kernel)⟩
theorem lw_p38 : lw_okq (⟨"ThicketModel", "isHead", "(I)Z"⟩, 18) := ⟨⟨by decide +kernel, by decide +kernel⟩, List.mem_of_getElem? (i := 1115) (by decide +kernel), List.mem_of_getElem? (i := 1407) (by decide +kernel), List.mem_of_getElem? (i := 1408) (by decide +kernel)⟩
def lw_privs_3 : List (MethodName × Nat) := [(⟨"ThicketModel", "joining", "(I)I"⟩, 18), (⟨"ThicketModel", "roots", "(I)V"⟩, 18), (⟨"ThicketModel", "joins", "(III)Z"⟩, 18), (⟨"ThicketModel", "isNeighbour", "(II)Z"⟩, 18), (⟨"ThicketModel", "isApart", "(II)Z"⟩, 18), (⟨"ThicketModel", "between", "(II)I"⟩, 18), (⟨"ThicketModel", "isHead", "(I)Z"⟩, 18)]
theorem lw_r3 : ∀ q ∈ lw_privs_3, lw_okq q := List.forall_mem_cons.mpr ⟨lw_p32, List.forall_mem_cons.mpr ⟨lw_p33, List.forall_mem_cons.mpr ⟨lw_p34, List.forall_mem_cons.mpr ⟨lw_p35, List.forall_mem_cons.mpr ⟨lw_p36, List.forall_mem_cons.mpr ⟨lw_p37, List.forall_mem_cons.mpr ⟨lw_p38, fun _ h => absurd h List.not_mem_nil⟩⟩⟩⟩⟩⟩⟩
def lw_privs : List (MethodName × Nat) := lw_privs_1 ++ (lw_privs_2 ++ (lw_privs_3))
def lw_tbl : List Cond := k2_sels lw_privs ++ tables_1
theorem lw_privs_ok : ∀ q ∈ lw_privs, lw_okq q := by
  show ∀ q ∈ lw_privs_1 ++ (lw_privs_2 ++ (lw_privs_3)), lw_okq q
  exact List.forall_mem_append.mpr ⟨lw_r1, List.forall_mem_append.mpr ⟨lw_r2, lw_r3⟩⟩
/-- the streams that the claim lets the run draw from -/
abbrev lw_cs : List Choice := [Jvm.Choice.named "NaN.bits"]
theorem lw_bits : nanBits ∈ lw_cs := by first | decide | exact List.mem_cons_self | simp [lw_cs, nanBits]
-- ===== end of PART A; then your names; then what follows =====
end
section
/-! ===== BEGIN words of one list among another's, by their places ===== -/
theorem goodIn_r {big : List Cond} (ws : List Cond) (ps : List Nat) (hp : ws = ps.filterMap (fun i => big[i]?)) (h : ws.all goodWord = true) : GoodIn big ws := by
  intro w hw
  have h1 := List.all_eq_true.mp h w hw
  rw [hp] at hw
  obtain ⟨i, -, hi⟩ := List.mem_filterMap.mp hw
  have hm : w ∈ big := by first | exact List.mem_of_getElem? hi | exact List.getElem?_mem hi
  exact ⟨hm, good_of_word h1⟩
theorem goodIn_app {big a b : List Cond} (ha : GoodIn big a) (hb : GoodIn big b) : GoodIn big (a ++ b) := fun w h => (List.mem_append.mp h).elim (ha w) (hb w)
theorem goodIn_ca {big a b : List Cond} {c : Cond} (ha : GoodIn big (c :: a)) (hb : GoodIn big b) : GoodIn big (c :: (a ++ b)) := fun w h => (List.mem_cons.mp h).elim (fun e => ha w (List.mem_cons.mpr (Or.inl e))) (fun h => (List.mem_append.mp h).elim (fun h => ha w (List.mem_cons.mpr (Or.inr h))) (hb w))
theorem goodIn_sub {big ws : List Cond} (hm : ∀ w ∈ ws, w ∈ big) (h : ws.all goodWord = true) : GoodIn big ws := fun w hw => ⟨hm w hw, good_of_word (List.all_eq_true.mp h w hw)⟩
/-! ===== END ===== -/

/-! ===== BEGIN new T[n][m]: the outer array a place, the inner ones among the pooled ===== -/
/-- f, but v at every address of l -/
def vr_up {α : Type} (f : Nat → α) (l : List Nat) (v : α) : Nat → α := fun a => if a ∈ l then v else f a
theorem vr_up_in {α : Type} {f : Nat → α} {l : List Nat} {v : α} {a : Nat} (h : a ∈ l) : vr_up f l v a = v := if_pos h
theorem vr_up_ne {α : Type} {f : Nat → α} {l : List Nat} {v : α} {a : Nat} (h : a ∉ l) : vr_up f l v a = f a := if_neg h
theorem vr_rows {L l : List Nat} {f : Nat → va_E} {e : va_E} (h : ∀ a, a ∈ l → a ∉ L) : va_pl L f ++ l.map (fun a => (a, e)) = va_pl (L ++ l) (vr_up f l e) := by
  unfold va_pl
  rw [List.map_append]
  congr 1
  · apply List.map_congr_left
    intro a ha
    rw [vr_up_ne (fun q => h a q ha)]
  · apply List.map_congr_left
    intro a ha
    rw [vr_up_in ha]
theorem vr_lay {X rows : va_W} {x : Nat × va_E} {pl : va_W} {D : va_G} {cl : List vw_C} {H : Heap} (hP : va_P D cl (((X ++ pl) ++ [x]) ++ rows) H) : va_P D cl ((X ++ [x]) ++ (pl ++ rows)) H := by
  rw [List.append_assoc (X ++ pl)] at hP
  have h := va_P.swap hP
  rw [← List.append_assoc X] at h
  have h2 := va_P.swap h
  rw [List.append_assoc (X ++ [x])] at h2
  exact h2
theorem vr_layD {X rows : va_W} {x : Nat × va_E} {pl : va_W} {A : Nat → Prop} (hD : va_D A (((X ++ pl) ++ [x]) ++ rows)) : va_D A ((X ++ [x]) ++ (pl ++ rows)) := by
  rw [List.append_assoc (X ++ pl)] at hD
  have h := va_D.swap hD
  rw [← List.append_assoc X] at h
  have h2 := va_D.swap h
  rw [List.append_assoc (X ++ [x])] at h2
  exact h2
theorem vr_outer (c : ClassId) (N h0 : Nat) : ∀ i : Nat, Jvm.Free.Multi.outerC c N h0 i = arrV c N (fun j => va_rf (if j < i then some (h0 + 1 + j) else none))
  | 0 => by
    show ({ cls := c, slots := Array.replicate N .null, vm := .none } : Cell) = _
    rw [arrV_new]
    refine congrArg (arrV c N) (funext fun j => ?_)
    simp [va_rf]
  | i + 1 => by
    show (Jvm.Free.Multi.outerC c N h0 i).setSlot i (.ref (h0 + 1 + i)) = _
    rw [vr_outer c N h0 i, arrV_store]
    refine congrArg (arrV c N) (funext fun j => ?_)
    by_cases e : j = i
    · subst e
      simp [updV, va_rf]
    · by_cases h : j < i
      · simp [updV, e, h, Nat.lt_succ_of_lt h]
      · simp [updV, e, h, show ¬ j < i + 1 by omega]
/-! ===== END ===== -/
/-! ===== BEGIN exceptions that leave a method, and their catching by the caller (launches without stack traces) ===== -/
section VXA
/-! The laws vx_back, vx_callV, vx_callS, vx_callSW, vx_throw0, vx_throwS follow proofs of the library, with one case more: JvmDerived/Free/Laws.lean (Back.of_free), Shelf42/LK1.lean (callV, callS), Shelf/KitTraced.lean (throwNew0V, throwNewS). -/
/-- where a method has thrown q: the class by its name, the cell, what was written, the world -/
def vx_T (XC : String → State → State → Prop) (st : State) (q : Addr) (t : State) (mc ms : Nat) (free : Addr → Prop) : Prop :=
  ∃ (E : String) (ce : Cell) (L : List Loc), XC E st t ∧ t.heap[q]? = some ce ∧ ce.vm = .none ∧ st.vm.findClass E = some ce.cls ∧ st.WarmedH t.vm ∧ st.sameButNew ({ t with vm := st.vm } : State) L mc ms ∧ ∀ z ∈ L, free z.base
def vx_Q (Qc : Array Value → State → Outcome → State → Prop) (XC : String → State → State → Prop) (mc ms : Nat) (free : Addr → Prop) : Array Value → State → Outcome → State → Prop := fun a st o t =>
  (Qc a st o t ∧ ∃ L, FrameEnd st o t L mc ms ∧ ∀ q ∈ L, free q.base) ∨ ∃ q, o = .threw q ∧ vx_T XC st q t mc ms free
/-- a callee that returns or throws -/
def vx_Met (l : Launch) (y : MethodName) (ws : List Cond) (rm : Room) (Pc : Array Value → State → Prop) (Qc : Array Value → State → Outcome → State → Prop) (XC : String → State → State → Prop) (mc ms : Nat) (free : Addr → Prop) : Prop :=
  MetFree l y (headSpec ws rm) Pc (fun _ _ _ _ _ => True) (vx_Q Qc XC mc ms free)
def vx_Post (XC : String → State → State → Prop) (mc ms : Nat) (free : Addr → Prop) : Pt → Array Value → Addr → Pt → Prop := fun A a q B =>
  ∃ (g : JFrame) (mk : MethodId) (t : State) (L : List Loc) (E : String) (ce : Cell), B.U.heap = t.heap ∧ B.U.vm = t.vm ∧ XC E (A.U.calling g mk a) t ∧ t.heap[q]? = some ce ∧ ce.vm = .none ∧ A.U.vm.findClass E = some ce.cls ∧ B.locs = A.locs ++ L ∧ (∀ z ∈ L, free z.base) ∧ B.cells = A.cells + mc ∧ B.slots = A.slots + ms
def vx_Back (l : Launch) (R : Room) (p : Program) (e : Env) (below : List Frame) (s : State) (sargs : Array Value) (y : MethodName) (len W9 : Nat)
    (Pre : Pt → Array Value → Prop) (Post : Pt → Array Value → Option Value → Pt → Prop) (PostX : Pt → Array Value → Addr → Pt → Prop) : Prop :=
  ∀ (m : MethodId) (meth : Method) (c : Code) (A : Pt) (g : JFrame) (ig : Instr) (mk : MethodId) (a : Array Value),
    Stand p l e R s m sargs below meth c A.U A.locs A.cells A.slots → g.method = m → g.locals.size = c.maxLocals → decode c.code g.pc = .ok (ig, len) →
    2 * g.monitorRoom + (g.stack.map fun v => v.category).sum ≤ W9 → A.U.methodNamed? y = some mk → Pre A a →
    (∃ (v : Option Value) (B : Pt), Stand p l e R s m sargs below meth c B.U B.locs B.cells B.slots ∧ Post A a v B ∧
      Steps p.tables e below (doInvoke e (A.U.setTop g) [] mk a).1 (B.U.setTop { g with pc := g.pc + len, stack := v.toList ++ g.stack })) ∨
    (∃ (q : Addr) (B : Pt), Stand p l e R s m sargs below meth c B.U B.locs B.cells B.slots ∧ PostX A a q B ∧
      Steps p.tables e below (doInvoke e (A.U.setTop g) [] mk a).1 ((B.U.setTop g).pushFrame (.throwing q)))
section Payer
variable {l : Launch} {R : Room} {p : Program} {e : Env} {below : List Frame} {s : State} {sargs : Array Value} {y : MethodName} {len W9 : Nat}
theorem vx_back {ws : List Cond} {rm : Room} {Pc : Array Value → State → Prop} {Qc : Array Value → State → Outcome → State → Prop} {XC : String → State → State → Prop} {mc ms : Nat} {free : Addr → Prop} {bytes : ByteArray} {maxL : Nat} {ret : Option FieldType}
    (hM : vx_Met l y ws rm Pc Qc XC mc ms free) (hblind : FrameBlind Pc) (hrc : rm.cells = mc) (hrs : rm.slots = ms)
    (hframes : rm.frames + 1 ≤ R.frames) (hlocals : W9 + (maxL + 11) + rm.locals ≤ R.locals)
    (hws : ∀ w ∈ ws, ∀ a' U, s.WarmedH U.vm → w.before a' U = true) (hcode : Cond.code y bytes maxL ret ∈ ws) (hinit : ∀ a' U, s.WarmedH U.vm → (Cond.initialized y.cls).before a' U = true) :
    vx_Back l R p e below s sargs y len W9 (PreOf R mc ms Pc) (PostOf Qc mc ms free) (vx_Post XC mc ms free) := by
  intro m meth c A g ig mk a X hg hsize hdg hW hn hp
  have h1 : (headSpec ws rm).pre.before a A.U = true := atoms_intro fun w hw => hws w hw _ _ X.warmed
  have h2 : (Cond.code y bytes maxL ret).before a A.U = true := hws _ hcode _ _ X.warmed
  have h3 : (Cond.initialized y.cls).before a A.U = true := hinit _ _ X.warmed
  have h4 : A.cells + (headSpec ws rm).room.cells ≤ R.cells := by rw [show (headSpec ws rm).room.cells = mc from hrc]; exact hp.1
  have h5 : A.slots + (headSpec ws rm).room.slots ≤ R.slots := by rw [show (headSpec ws rm).room.slots = ms from hrs]; exact hp.2.1
  have hPc : Pc a (A.U.calling g mk a) := hblind _ _ _ _ hp.2.2
  obtain ⟨U, Ls, c0, s0⟩ := A
  dsimp only [Pt.U, Pt.locs, Pt.cells, Pt.slots] at h1 h2 h3 h4 h5 X hn hPc ⊢
  obtain ⟨methY, cY, hmY, hcY, -, hlY, -, -, -, -⟩ := Cond.code_spec hn h2
  obtain ⟨kY, hkY, -⟩ := className_of_methodNamed hn
  have hinitY : kY.init = .initialized := Cond.initialized_spec (findClass_of_methodNamed hn) hkY h3
  have h : At U g.method c below := by rw [hg]; exact X.here
  have hlocals9 : W9 + (maxL + 11) + (headSpec ws rm).room.locals ≤ R.locals := hlocals
  have happ : (headSpec ws rm).appliesLoose y e.platform (U.calling g mk a) = true :=
    Spec.appliesLoose_calling (g := g) h hdg hn hkY hinitY
      (X.room_calling (g := g) (R' := (headSpec ws rm).room) hsize hmY hcY hframes (by rw [hlY]; omega) h4 h5) h1
  obtain ⟨mid, hmid⟩ := h.above
  have hfr : (U.setTop g).frames = (.java g :: mid) ++ below := by rw [State.frames_setTop' g h.top, hmid]; rfl
  obtain ⟨o, s₂, hsteps, -, hend, hq⟩ := Steps.callFree hM p X.admits X.cas X.clock (acts := []) hfr happ hPc trivial
  have hq' : vx_Q Qc XC mc ms free a (U.calling g mk a) o s₂ := hq
  rw [State.frames_setTop' g h.top] at hend
  obtain ⟨g₀, hg0⟩ := Option.isSome_iff_exists.mp h.top
  obtain ⟨r, hr⟩ := State.topJava?_eq_some.mp hg0
  have hr' : (({ U with heap := s₂.heap, slotsUsed := s₂.slotsUsed } : State).setVm s₂.vm).frames = .java g₀ :: r := hr
  rcases hq' with ⟨hqc, L, hfe, hL⟩ | ⟨q, rfl, E, ce, L, hx, hce, hcv, hcl, hW₂, hsm, hL⟩
  · obtain ⟨⟨v, rfl⟩, hW₂, e2, q2, q3, q4, q5, q6⟩ := id hfe
    have e3 : s₂ = ({ (U.calling g mk a).setFrames s₂.frames with heap := s₂.heap, slotsUsed := s₂.slotsUsed } : State).setVm s₂.vm := by
      have : s₂ = ({ s₂ with vm := (U.calling g mk a).vm } : State).setVm s₂.vm := rfl
      rw [e2] at this
      exact this
    obtain ⟨c₂, i₂, len₂, hc₂, hd₂, hf₂⟩ := hend
    have hW' : U.WarmedH s₂.vm := hW₂
    have hcc : c₂ = c := by
      have h1 : s₂.code? g.method = U.code? g.method := by
        rw [State.code?_eq, State.code?_eq, hW'.alike.method?]
      exact Option.some.inj (hc₂.symm.trans (h1.trans h.code))
    subst hcc
    have hlen : len₂ = len := by rw [hdg] at hd₂; cases hd₂; rfl
    subst hlen
    have hs₂ : s₂ = (({ U with heap := s₂.heap, slotsUsed := s₂.slotsUsed } : State).setVm s₂.vm).setTop { g with pc := g.pc + len₂, stack := v.toList ++ g.stack } := by
      refine e3.trans ?_
      rw [hf₂, State.calling_eq h.top, State.setFrames_setFrames, State.setTop_of_frames _ hr', hr]
      rfl
    have hsame : U.sameButNew ({ U with heap := s₂.heap, slotsUsed := s₂.slotsUsed } : State) L mc ms := by
      refine ⟨?_, q2, q3, q4, q5, q6⟩
      obtain ⟨t, ht, -⟩ := State.frames_cons hr
      show ({ U with heap := s₂.heap, slotsUsed := s₂.slotsUsed } : State) = { U.setFrames U.frames with heap := s₂.heap, slotsUsed := s₂.slotsUsed }
      rw [State.setFrames_self ht]
    subst hg
    refine Or.inl ⟨v, ⟨(({ U with heap := s₂.heap, slotsUsed := s₂.slotsUsed } : State).setVm s₂.vm), Ls ++ L, c0 + mc, s0 + ms⟩,
      ⟨X.admits, X.cas, X.clock, X.frames, X.room, X.hears, X.method, X.code, (X.here.setHeapUsed s₂.heap s₂.slotsUsed).setVm hW'.alike, X.tail, State.WarmedH.trans X.warmed hW', X.limits, X.bytes, X.same.trans (hsame.setVm s.vm)⟩,
      ⟨g, mk, s₂, L, rfl, rfl, hqc, rfl, hL, rfl, rfl⟩, ?_⟩
    show Steps p.tables e below _ ((({ U with heap := s₂.heap, slotsUsed := s₂.slotsUsed } : State).setVm s₂.vm).setTop { g with pc := g.pc + len₂, stack := v.toList ++ g.stack })
    rw [← hs₂]
    exact hsteps
  · obtain ⟨e2, q2, q3, q4, q5, q6⟩ := id hsm
    have e3 : s₂ = ({ (U.calling g mk a).setFrames s₂.frames with heap := s₂.heap, slotsUsed := s₂.slotsUsed } : State).setVm s₂.vm := by
      have : s₂ = ({ s₂ with vm := (U.calling g mk a).vm } : State).setVm s₂.vm := rfl
      rw [e2] at this
      exact this
    have hf₂ : s₂.frames = .throwing q :: .java g :: U.frames.tail := hend
    have hW' : U.WarmedH s₂.vm := hW₂
    have hs₂ : s₂ = ((({ U with heap := s₂.heap, slotsUsed := s₂.slotsUsed } : State).setVm s₂.vm).setTop g).pushFrame (.throwing q) := by
      refine e3.trans ?_
      rw [hf₂, State.calling_eq h.top, State.setFrames_setFrames, State.pushFrame, State.frames_setTop _ hr', State.setTop_of_frames _ hr', State.setFrames_setFrames, hr]
      rfl
    have hsame : U.sameButNew ({ U with heap := s₂.heap, slotsUsed := s₂.slotsUsed } : State) L mc ms := by
      refine ⟨?_, q2, q3, q4, q5, q6⟩
      obtain ⟨t, ht, -⟩ := State.frames_cons hr
      show ({ U with heap := s₂.heap, slotsUsed := s₂.slotsUsed } : State) = { U.setFrames U.frames with heap := s₂.heap, slotsUsed := s₂.slotsUsed }
      rw [State.setFrames_self ht]
    subst hg
    refine Or.inr ⟨q, ⟨(({ U with heap := s₂.heap, slotsUsed := s₂.slotsUsed } : State).setVm s₂.vm), Ls ++ L, c0 + mc, s0 + ms⟩,
      ⟨X.admits, X.cas, X.clock, X.frames, X.room, X.hears, X.method, X.code, (X.here.setHeapUsed s₂.heap s₂.slotsUsed).setVm hW'.alike, X.tail, State.WarmedH.trans X.warmed hW', X.limits, X.bytes, X.same.trans (hsame.setVm s.vm)⟩,
      ⟨g, mk, s₂, L, E, ce, rfl, rfl, hx, hce, hcv, hcl, rfl, hL, rfl, rfl⟩, ?_⟩
    show Steps p.tables e below _ (((({ U with heap := s₂.heap, slotsUsed := s₂.slotsUsed } : State).setVm s₂.vm).setTop g).pushFrame (.throwing q))
    rw [← hs₂]
    exact hsteps
end Payer
section Calls
variable {p : Program} {l : Launch} {e : Env} {R : Room} {s : State} {m : MethodId} {args : Array Value} {below : List Frame} {meth : Method} {c : Code} {T : State} {locs : List Loc} {cells slots : Nat}
theorem vx_callV (X : Stand p l e R s m args below meth c T locs cells slots) (hexec : p.tables.exec = Jvm.exec) {own C : String} {index : Nat} {y : MethodName} {bytes : ByteArray} {maxL : Nat} {ret : Option FieldType}
    (hown : s.vm.findClass own = some m.cls) (hlink : (Cond.methodLink own index y).before args s = true) (hinst : (Cond.instanceMethod y).before args s = true) (hsel : (Cond.selects C y y).before args s = true)
    (hcode : (Cond.code y bytes maxL ret).before args s = true) (hy : y.cls ≠ "java/lang/invoke/MethodHandle" ∧ y.cls ≠ "java/lang/invoke/VarHandle")
    {W9 : Nat} {Pre : Pt → Array Value → Prop} {Post : Pt → Array Value → Option Value → Pt → Prop} {PostX : Pt → Array Value → Addr → Pt → Prop} (hK : vx_Back l R p e below s args y 3 W9 Pre Post PostX)
    {b : Addr} {cellB : Cell} (hcell : T.heap[b]? = some cellB) (hobj : cellB.vm.isStatics = false) (hcls : s.vm.findClass C = some cellB.cls)
    {g : JFrame} (hg : g.method = m) (hsize : g.locals.size = c.maxLocals) {argsL rest : List Value} (hlen : ∀ sig, parseMethodDescriptor y.desc = some sig → argsL.length = sig.parameters.length)
    (hstack : g.stack = argsL.reverse ++ .ref b :: rest) (hW : 2 * g.monitorRoom + (rest.map fun v => v.category).sum ≤ W9) (hdg : decode c.code g.pc = .ok (.invokevirtual index, 3))
    (hpre : ∀ vm₁, s.WarmedH vm₁ → Pre ⟨T.setVm vm₁, locs, cells, slots⟩ (Value.ref b :: argsL).toArray) :
    (∃ (v : Option Value) (vm₁ : Vm) (B : Pt), s.WarmedH vm₁ ∧ Stand p l e R s m args below meth c B.U B.locs B.cells B.slots ∧ Post ⟨T.setVm vm₁, locs, cells, slots⟩ (Value.ref b :: argsL).toArray v B ∧
      ∀ target, Steps p.tables e below (B.U.setTop { g with pc := g.pc + 3, stack := v.toList ++ rest }) target → Steps p.tables e below (T.setTop g) target) ∨
    (∃ (q : Addr) (vm₁ : Vm) (B : Pt), s.WarmedH vm₁ ∧ Stand p l e R s m args below meth c B.U B.locs B.cells B.slots ∧ PostX ⟨T.setVm vm₁, locs, cells, slots⟩ (Value.ref b :: argsL).toArray q B ∧
      Steps p.tables e below (T.setTop g) ((B.U.setTop { g with stack := rest }).pushFrame (.throwing q))) := by
  obtain ⟨mk, methM, hnamed, hmethM, hstM, habM⟩ := Cond.instanceMethod_spec hinst
  obtain ⟨methM', cM, hmethM', -, -, -, -, -, -, hsigM⟩ := Cond.code_spec hnamed hcode
  cases hmethM.symm.trans hmethM'
  obtain ⟨c2, r2, m2, q1, q2, q3, q4, kP, hkP, hkPi⟩ := Cond.selects_spec hsel
  cases hcls.symm.trans q1
  cases (State.methodFound?_of_named hnamed hy).symm.trans q2
  cases hnamed.symm.trans q3
  have hselP : selectMethod e.platform s.vm cellB.cls mk = .method mk := by rw [Launch.admits_selectMethod X.admits]; exact q4
  obtain ⟨vm₁, X₁, hstep₁⟩ := X.invokevirtual hexec hown hlink hnamed hmethM hstM hkP hkPi hy (a := b) (cell := cellB) hcell
    (fun z h => by rw [h] at hobj; cases hobj) hselP hmethM habM hkP hkPi (g := g) hg (argsL := argsL) (rest := rest) (hlen _ hsigM) hstack hdg
  rcases hK m meth c ⟨T.setVm vm₁, locs, cells, slots⟩ { g with stack := rest } (.invokevirtual index) mk (Value.ref b :: argsL).toArray X₁ hg hsize hdg hW (X₁.named hnamed) (hpre vm₁ X₁.warmed) with ⟨v, B, X', hpost, hsteps⟩ | ⟨q, B, X', hpost, hsteps⟩
  · exact Or.inl ⟨v, vm₁, B, X₁.warmed, X', hpost, fun target h => hstep₁ _ fun acts => by rw [doInvoke_state]; exact hsteps.trans h⟩
  · exact Or.inr ⟨q, vm₁, B, X₁.warmed, X', hpost, hstep₁ _ fun acts => by rw [doInvoke_state]; exact hsteps⟩
theorem vx_callS (X : Stand p l e R s m args below meth c T locs cells slots) (hexec : p.tables.exec = Jvm.exec) {own : String} {index : Nat} {y : MethodName} {bytes : ByteArray} {maxL : Nat} {ret : Option FieldType}
    (hown : s.vm.findClass own = some m.cls) (hlink : (Cond.methodLink own index y).before args s = true) (hstat : (Cond.static y).before args s = true) (hinit : (Cond.initialized y.cls).before args s = true)
    (hcode : (Cond.code y bytes maxL ret).before args s = true) (hy : y.cls ≠ "java/lang/invoke/MethodHandle" ∧ y.cls ≠ "java/lang/invoke/VarHandle")
    {W9 : Nat} {Pre : Pt → Array Value → Prop} {Post : Pt → Array Value → Option Value → Pt → Prop} {PostX : Pt → Array Value → Addr → Pt → Prop} (hK : vx_Back l R p e below s args y 3 W9 Pre Post PostX)
    {g : JFrame} (hg : g.method = m) (hsize : g.locals.size = c.maxLocals) {argsL rest : List Value} (hlen : ∀ sig, parseMethodDescriptor y.desc = some sig → argsL.length = sig.parameters.length)
    (hstack : g.stack = argsL.reverse ++ rest) (hW : 2 * g.monitorRoom + (rest.map fun v => v.category).sum ≤ W9) (hdg : decode c.code g.pc = .ok (.invokestatic index, 3))
    (hpre : ∀ vm₁, s.WarmedH vm₁ → Pre ⟨T.setVm vm₁, locs, cells, slots⟩ argsL.toArray) :
    (∃ (v : Option Value) (vm₁ : Vm) (B : Pt), s.WarmedH vm₁ ∧ Stand p l e R s m args below meth c B.U B.locs B.cells B.slots ∧ Post ⟨T.setVm vm₁, locs, cells, slots⟩ argsL.toArray v B ∧
      ∀ target, Steps p.tables e below (B.U.setTop { g with pc := g.pc + 3, stack := v.toList ++ rest }) target → Steps p.tables e below (T.setTop g) target) ∨
    (∃ (q : Addr) (vm₁ : Vm) (B : Pt), s.WarmedH vm₁ ∧ Stand p l e R s m args below meth c B.U B.locs B.cells B.slots ∧ PostX ⟨T.setVm vm₁, locs, cells, slots⟩ argsL.toArray q B ∧
      Steps p.tables e below (T.setTop g) ((B.U.setTop { g with stack := rest }).pushFrame (.throwing q))) := by
  obtain ⟨mk, hnamed⟩ := Cond.code_named hcode
  obtain ⟨methM, cM, hmethM, -, -, -, -, -, -, hsigM⟩ := Cond.code_spec hnamed hcode
  have hstatic : methM.isStatic = true := Cond.static_spec hnamed hmethM hstat
  obtain ⟨kP, hkP, -⟩ := className_of_methodNamed hnamed
  have hinitP : kP.init = .initialized := Cond.initialized_spec (findClass_of_methodNamed hnamed) hkP hinit
  obtain ⟨vm₁, X₁, hstep₁⟩ := X.invokestatic hexec hown hlink hnamed hmethM hstatic hkP hinitP hy (g := g) hg (argsL := argsL) (rest := rest) (hlen _ hsigM) hstack hdg
  rcases hK m meth c ⟨T.setVm vm₁, locs, cells, slots⟩ { g with stack := rest } (.invokestatic index) mk argsL.toArray X₁ hg hsize hdg hW (X₁.named hnamed) (hpre vm₁ X₁.warmed) with ⟨v, B, X', hpost, hsteps⟩ | ⟨q, B, X', hpost, hsteps⟩
  · exact Or.inl ⟨v, vm₁, B, X₁.warmed, X', hpost, fun target h => hstep₁ _ fun acts => by rw [doInvoke_state]; exact hsteps.trans h⟩
  · exact Or.inr ⟨q, vm₁, B, X₁.warmed, X', hpost, hstep₁ _ fun acts => by rw [doInvoke_state]; exact hsteps⟩
end Calls
theorem vx_cls {s : State} {T : State} {vm₁ : Vm} {E : String} {k : ClassId} (hW : s.WarmedH vm₁) (h : (T.setVm vm₁).vm.findClass E = some k) : s.vm.findClass E = some k := by
  have h1 : vm₁.findClass E = some k := h
  rw [hW.alike.findClass] at h1
  exact h1
/-- the method's frame g, with q thrown over it -/
def vx_W (p : Program) (l : Launch) (e : Env) (R : Room) (s : State) (m : MethodId) (args : Array Value) (below : List Frame) (meth : Method) (c : Code) (H : Heap) (locs : List Loc) (cells slots : Nat) (Q : State → Prop) (g : JFrame) (q : Addr) : Prop :=
  ∀ T : State, T.heap = H → Stand p l e R s m args below meth c T locs cells slots → ∃ t, Steps p.tables e below ((T.setTop g).pushFrame (.throwing q)) t ∧ Q t
def vx_Run (p : Program) (l : Launch) (e : Env) (R : Room) (s : State) (m : MethodId) (args : Array Value) (below : List Frame) (meth : Method) (c : Code) (H : Heap) (locs : List Loc) (cells slots mc ms : Nat) (g : JFrame) (rest : List Value) (Qa : State → Outcome → State → Prop) (XC : String → State → State → Prop) (free : Addr → Prop) : Prop :=
  ∀ T : State, T.heap = H → Stand p l e R s m args below meth c T locs cells slots →
    (∃ (v : Option Value) (st₀ t T' : State) (L : List Loc), st₀.heap = H ∧ Stand p l e R s m args below meth c T' (locs ++ L) (cells + mc) (slots + ms) ∧ (∀ q ∈ L, free q.base) ∧ T'.heap = t.heap ∧ T'.vm = t.vm ∧ Qa st₀ (.returned v) t ∧
      Goes p e below T g T' { g with pc := g.pc + 3, stack := v.toList ++ rest }) ∨
    (∃ (q : Addr) (st₀ t T' : State) (L : List Loc) (E : String) (ce : Cell), st₀.heap = H ∧ Stand p l e R s m args below meth c T' (locs ++ L) (cells + mc) (slots + ms) ∧ (∀ z ∈ L, free z.base) ∧ T'.heap = t.heap ∧ T'.vm = t.vm ∧ XC E st₀ t ∧ t.heap[q]? = some ce ∧ ce.vm = .none ∧ s.vm.findClass E = some ce.cls ∧
      Steps p.tables e below (T.setTop g) ((T'.setTop { g with stack := rest }).pushFrame (.throwing q)))
def vx_X {S : Type} (px : S → Prop) (B : String → S → State → Prop) (A : Nat → Prop) : String → State → State → Prop := fun E st t => ∃ u : S, px u ∧ B E u t ∧ va_F A st t
section Runs
variable {p : Program} {l : Launch} {e : Env} {R : Room} {s : State} {m : MethodId} {args : Array Value} {below : List Frame} {meth : Method} {c : Code} {H : Heap} {locs : List Loc} {cells slots : Nat}
variable {y : MethodName} {bytes cc : ByteArray} {maxL nL mc ms n index : Nat} {ret : Option FieldType} {ws : List Cond} {rm : Room} {Pc : Array Value → State → Prop} {Qc : Array Value → State → Outcome → State → Prop} {XC : String → State → State → Prop} {free : Addr → Prop} {Ts : List Cond} {own C : String} {b : Addr} {As rest : List Value} {g : JFrame}
theorem vx_callBack (cb : CallB R s args own index y bytes maxL ret ws rm mc ms n) (hM : vx_Met l y ws rm Pc Qc XC mc ms free) (hbl : FrameBlind Pc) : vx_Back l R p e below s args y 3 8 (PreOf R mc ms Pc) (PostOf Qc mc ms free) (vx_Post XC mc ms free) := by
  obtain ⟨hrc, hrs, hfr, hlo, hws, hcw, -, hini, -⟩ := cb
  exact vx_back (bytes := bytes) (maxL := maxL) (ret := ret) hM hbl hrc hrs hfr hlo hws hcw (fun a' U hW => word_at hW (Or.inl (by first | rfl | simp [Cond.onTables, Cond.keeps, Cond.steady])) hini)
theorem vx_runV (S : CallFix p m c cc nL s args Ts own) (hM : vx_Met l y ws rm Pc Qc XC mc ms free) (cw : CallW R s args own C index y bytes maxL ret ws rm mc ms n) (hp : PreV s H C b Pc As)
    (hg : g.method = m) (hn : As.length = n) (hsize : g.locals.size = nL) (hstack : g.stack = As.reverse ++ .ref b :: rest) (hW : 2 * g.monitorRoom + (rest.map fun v => v.category).sum ≤ 8) (hdg : decode cc g.pc = .ok (.invokevirtual index, 3)) (hf : cells + mc ≤ R.cells ∧ slots + ms ≤ R.slots) :
    vx_Run p l e R s m args below meth c H locs cells slots mc ms g rest (Qc (Value.ref b :: As).toArray) XC free := by
  have hK : vx_Back l R p e below s args y 3 8 (PreOf R mc ms Pc) (PostOf Qc mc ms free) (vx_Post XC mc ms free) := vx_callBack cw.1 hM hp.1
  obtain ⟨⟨-, -, -, -, -, -, hcode, -, hy, hlen, hl⟩, hin, hse⟩ := cw
  obtain ⟨hx, hb, hml, ho, -⟩ := S
  obtain ⟨-, ⟨cellB, hcB, hoB, hclB⟩, hPc⟩ := hp
  intro T hT X
  rcases vx_callV X hx (C := C) (bytes := bytes) (maxL := maxL) (ret := ret) ho hl hin hse hcode hy hK (by rw [hT]; exact hcB) hoB hclB hg (hsize.trans hml.symm) (argsL := As) (rest := rest) (fun sig h => hn.trans (hlen sig h)) hstack hW (by rw [hb]; exact hdg)
    (fun vm₁ hW₁ => ⟨hf.1, hf.2, hPc (T.setVm vm₁) hT hW₁⟩) with ⟨v, vm₁, ⟨U', l2, c2, s2⟩, hW₁, X', ⟨g', mk, t, L, e1, e2, hq, h1, hL, h2, h3⟩, st⟩ | ⟨q, vm₁, ⟨U', l2, c2, s2⟩, hW₁, X', ⟨g', mk, t, L, E, ce, e1, e2, hq, hce, hcv, hcl, h1, hL, h2, h3⟩, st⟩
  · dsimp only [Pt.U, Pt.locs, Pt.cells, Pt.slots] at X' e1 e2 h1 h2 h3 st
    subst h1; subst h2; subst h3
    exact Or.inl ⟨v, (T.setVm vm₁).calling g' mk (Value.ref b :: As).toArray, t, U', L, hT, X', hL, e1, e2, hq, st⟩
  · dsimp only [Pt.U, Pt.locs, Pt.cells, Pt.slots] at X' e1 e2 h1 h2 h3 st hcl
    subst h1; subst h2; subst h3
    exact Or.inr ⟨q, (T.setVm vm₁).calling g' mk (Value.ref b :: As).toArray, t, U', L, E, ce, hT, X', hL, e1, e2, hq, hce, hcv, vx_cls hW₁ hcl, st⟩
theorem vx_runS (S : CallFix p m c cc nL s args Ts own) (hM : vx_Met l y ws rm Pc Qc XC mc ms free) (cw : CallB R s args own index y bytes maxL ret ws rm mc ms n ∧ (Cond.static y).before args s = true) (hp : PreS s H Pc As)
    (hg : g.method = m) (hn : As.length = n) (hsize : g.locals.size = nL) (hstack : g.stack = As.reverse ++ rest) (hW : 2 * g.monitorRoom + (rest.map fun v => v.category).sum ≤ 8) (hdg : decode cc g.pc = .ok (.invokestatic index, 3)) (hf : cells + mc ≤ R.cells ∧ slots + ms ≤ R.slots) :
    vx_Run p l e R s m args below meth c H locs cells slots mc ms g rest (Qc As.toArray) XC free := by
  have hK : vx_Back l R p e below s args y 3 8 (PreOf R mc ms Pc) (PostOf Qc mc ms free) (vx_Post XC mc ms free) := vx_callBack cw.1 hM hp.1
  obtain ⟨⟨-, -, -, -, -, -, hcode, hini, hy, hlen, hl⟩, hstt⟩ := cw
  obtain ⟨hx, hb, hml, ho, -⟩ := S
  intro T hT X
  rcases vx_callS X hx (bytes := bytes) (maxL := maxL) (ret := ret) ho hl hstt hini hcode hy hK hg (hsize.trans hml.symm) (argsL := As) (rest := rest) (fun sig h => hn.trans (hlen sig h)) hstack hW (by rw [hb]; exact hdg)
    (fun vm₁ hW₁ => ⟨hf.1, hf.2, hp.2 (T.setVm vm₁) hT hW₁⟩) with ⟨v, vm₁, ⟨U', l2, c2, s2⟩, hW₁, X', ⟨g', mk, t, L, e1, e2, hq, h1, hL, h2, h3⟩, st⟩ | ⟨q, vm₁, ⟨U', l2, c2, s2⟩, hW₁, X', ⟨g', mk, t, L, E, ce, e1, e2, hq, hce, hcv, hcl, h1, hL, h2, h3⟩, st⟩
  · dsimp only [Pt.U, Pt.locs, Pt.cells, Pt.slots] at X' e1 e2 h1 h2 h3 st
    subst h1; subst h2; subst h3
    exact Or.inl ⟨v, (T.setVm vm₁).calling g' mk As.toArray, t, U', L, hT, X', hL, e1, e2, hq, st⟩
  · dsimp only [Pt.U, Pt.locs, Pt.cells, Pt.slots] at X' e1 e2 h1 h2 h3 st hcl
    subst h1; subst h2; subst h3
    exact Or.inr ⟨q, (T.setVm vm₁).calling g' mk As.toArray, t, U', L, E, ce, hT, X', hL, e1, e2, hq, hce, hcv, vx_cls hW₁ hcl, st⟩
end Runs
section Rows
variable {p : Program} {l : Launch} {e : Env} {R : Room} {s : State} {m : MethodId} {args : Array Value} {below : List Frame} {meth : Method} {c : Code} {H : Heap} {locs : List Loc} {cells slots : Nat} {Q : State → Prop}
variable {mc ms : Nat} {free : Addr → Prop} {A0 A1 : Nat → Prop} {H0 : Heap} {a : Array Value} {pc : Nat} {ls : Array Slot} {st0 rest : List Value}
theorem vx_keep {st₀ t T' : State} {L : List Loc} (h0 : st₀.heap = H) (e1 : T'.heap = t.heap) (hS : va_S A0 H0 H locs) (hA : ∀ q, q < H.size → A1 q → A0 q) (hf : ∀ q, free q → A0 q) (hL : ∀ q ∈ L, free q.base) (hF : va_F A1 st₀ t) :
    H.size ≤ T'.heap.size ∧ (∀ q : Nat, q < H.size → ¬ A1 q → T'.heap[q]? = H[q]?) ∧ va_S A0 H0 T'.heap (locs ++ L) := by
  obtain ⟨hz, hk⟩ := hF
  rw [h0] at hz hk
  exact ⟨by rw [e1]; exact hz, fun q h1 h2 => by rw [e1]; exact hk q h1 h2,
    ⟨Nat.le_trans hS.1 (by rw [e1]; exact hz), fun q h1 h2 => by rw [e1, hk q (Nat.lt_of_lt_of_le h1 hS.1) (fun z => h2 (hA q (Nat.lt_of_lt_of_le h1 hS.1) z))]; exact hS.2.1 q h1 h2, fun q hq => by
      rcases List.mem_append.mp hq with h | h
      · exact hS.2.2 q h
      · exact hf _ (hL q h)⟩⟩
theorem vx_calli {S SX : Type} {post : Int32 → S → Prop} {px : SX → Prop} {B : S → State → Prop} {BX : String → SX → State → Prop} {AX : Nat → Prop} (hr : vx_Run p l e R s m args below meth c H locs cells slots mc ms (F0 m pc ls st0) rest (va_Qi post B A1 a) (vx_X px BX AX) free) (hS : va_S A0 H0 H locs) (hA : ∀ q, q < H.size → A1 q → A0 q) (hf : ∀ q, free q → A0 q) (hAX : ∀ q, q < H.size → AX q → A0 q)
    (kx : ∀ (E : String) (ce : Cell) (q9 : Addr) (u : SX) (t : State) (H1 : Heap) (locs1 : List Loc), t.heap = H1 → s.vm.Alike t.vm → px u → BX E u t → H.size ≤ H1.size → (∀ q : Nat, q < H.size → ¬ AX q → H1[q]? = H[q]?) → va_S A0 H0 H1 locs1 → H1[q9]? = some ce → ce.vm = .none → s.vm.findClass E = some ce.cls → vx_W p l e R s m args below meth c H1 locs1 (cells + mc) (slots + ms) Q (F0 m pc ls rest) q9)
    (kk : ∀ (r : Int32) (u : S) (t : State) (H1 : Heap) (locs1 : List Loc), t.heap = H1 → s.vm.Alike t.vm → post r u → B u t → H.size ≤ H1.size → (∀ q : Nat, q < H.size → ¬ A1 q → H1[q]? = H[q]?) → va_S A0 H0 H1 locs1 → W p l e R s m args below meth c H1 locs1 (cells + mc) (slots + ms) Q (F0 m (pc + 3) ls (.int r :: rest))) : W p l e R s m args below meth c H locs cells slots Q (F0 m pc ls st0) := by
  intro T hT X
  rcases hr T hT X with ⟨v, st₀, t, T', L, h0, X', hL, e1, e2, ⟨⟨r, u, hv, hp, hb⟩, hF⟩, st⟩ | ⟨q, st₀, t, T', L, E, ce, h0, X', hL, e1, e2, ⟨u, hp, hb, hF⟩, hce, hcv, hcl, st⟩
  · cases hv
    obtain ⟨k1, k2, k3⟩ := vx_keep h0 e1 hS hA hf hL hF
    obtain ⟨t2, a1, b1⟩ := kk r u t T'.heap (locs ++ L) e1.symm (by rw [← e2]; exact X'.warmed.alike) hp hb k1 k2 k3 T' rfl X'
    exact ⟨t2, st t2 a1, b1⟩
  · obtain ⟨k1, k2, k3⟩ := vx_keep h0 e1 hS hAX hf hL hF
    obtain ⟨t2, a1, b1⟩ := kx E ce q u t T'.heap (locs ++ L) e1.symm (by rw [← e2]; exact X'.warmed.alike) hp hb k1 k2 k3 (by rw [e1]; exact hce) hcv hcl T' rfl X'
    exact ⟨t2, st.trans a1, b1⟩
theorem vx_calll {S SX : Type} {post : Int64 → S → Prop} {px : SX → Prop} {B : S → State → Prop} {BX : String → SX → State → Prop} {AX : Nat → Prop} (hr : vx_Run p l e R s m args below meth c H locs cells slots mc ms (F0 m pc ls st0) rest (va_Ql post B A1 a) (vx_X px BX AX) free) (hS : va_S A0 H0 H locs) (hA : ∀ q, q < H.size → A1 q → A0 q) (hf : ∀ q, free q → A0 q) (hAX : ∀ q, q < H.size → AX q → A0 q)
    (kx : ∀ (E : String) (ce : Cell) (q9 : Addr) (u : SX) (t : State) (H1 : Heap) (locs1 : List Loc), t.heap = H1 → s.vm.Alike t.vm → px u → BX E u t → H.size ≤ H1.size → (∀ q : Nat, q < H.size → ¬ AX q → H1[q]? = H[q]?) → va_S A0 H0 H1 locs1 → H1[q9]? = some ce → ce.vm = .none → s.vm.findClass E = some ce.cls → vx_W p l e R s m args below meth c H1 locs1 (cells + mc) (slots + ms) Q (F0 m pc ls rest) q9)
    (kk : ∀ (r : Int64) (u : S) (t : State) (H1 : Heap) (locs1 : List Loc), t.heap = H1 → s.vm.Alike t.vm → post r u → B u t → H.size ≤ H1.size → (∀ q : Nat, q < H.size → ¬ A1 q → H1[q]? = H[q]?) → va_S A0 H0 H1 locs1 → W p l e R s m args below meth c H1 locs1 (cells + mc) (slots + ms) Q (F0 m (pc + 3) ls (.long r :: rest))) : W p l e R s m args below meth c H locs cells slots Q (F0 m pc ls st0) := by
  intro T hT X
  rcases hr T hT X with ⟨v, st₀, t, T', L, h0, X', hL, e1, e2, ⟨⟨r, u, hv, hp, hb⟩, hF⟩, st⟩ | ⟨q, st₀, t, T', L, E, ce, h0, X', hL, e1, e2, ⟨u, hp, hb, hF⟩, hce, hcv, hcl, st⟩
  · cases hv
    obtain ⟨k1, k2, k3⟩ := vx_keep h0 e1 hS hA hf hL hF
    obtain ⟨t2, a1, b1⟩ := kk r u t T'.heap (locs ++ L) e1.symm (by rw [← e2]; exact X'.warmed.alike) hp hb k1 k2 k3 T' rfl X'
    exact ⟨t2, st t2 a1, b1⟩
  · obtain ⟨k1, k2, k3⟩ := vx_keep h0 e1 hS hAX hf hL hF
    obtain ⟨t2, a1, b1⟩ := kx E ce q u t T'.heap (locs ++ L) e1.symm (by rw [← e2]; exact X'.warmed.alike) hp hb k1 k2 k3 (by rw [e1]; exact hce) hcv hcl T' rfl X'
    exact ⟨t2, st.trans a1, b1⟩
theorem vx_callf {S SX : Type} {post : UInt32 → S → Prop} {px : SX → Prop} {B : S → State → Prop} {BX : String → SX → State → Prop} {AX : Nat → Prop} (hr : vx_Run p l e R s m args below meth c H locs cells slots mc ms (F0 m pc ls st0) rest (va_Qf post B A1 a) (vx_X px BX AX) free) (hS : va_S A0 H0 H locs) (hA : ∀ q, q < H.size → A1 q → A0 q) (hf : ∀ q, free q → A0 q) (hAX : ∀ q, q < H.size → AX q → A0 q)
    (kx : ∀ (E : String) (ce : Cell) (q9 : Addr) (u : SX) (t : State) (H1 : Heap) (locs1 : List Loc), t.heap = H1 → s.vm.Alike t.vm → px u → BX E u t → H.size ≤ H1.size → (∀ q : Nat, q < H.size → ¬ AX q → H1[q]? = H[q]?) → va_S A0 H0 H1 locs1 → H1[q9]? = some ce → ce.vm = .none → s.vm.findClass E = some ce.cls → vx_W p l e R s m args below meth c H1 locs1 (cells + mc) (slots + ms) Q (F0 m pc ls rest) q9)
    (kk : ∀ (r : UInt32) (u : S) (t : State) (H1 : Heap) (locs1 : List Loc), t.heap = H1 → s.vm.Alike t.vm → post r u → B u t → H.size ≤ H1.size → (∀ q : Nat, q < H.size → ¬ A1 q → H1[q]? = H[q]?) → va_S A0 H0 H1 locs1 → W p l e R s m args below meth c H1 locs1 (cells + mc) (slots + ms) Q (F0 m (pc + 3) ls (.float r :: rest))) : W p l e R s m args below meth c H locs cells slots Q (F0 m pc ls st0) := by
  intro T hT X
  rcases hr T hT X with ⟨v, st₀, t, T', L, h0, X', hL, e1, e2, ⟨⟨r, u, hv, hp, hb⟩, hF⟩, st⟩ | ⟨q, st₀, t, T', L, E, ce, h0, X', hL, e1, e2, ⟨u, hp, hb, hF⟩, hce, hcv, hcl, st⟩
  · cases hv
    obtain ⟨k1, k2, k3⟩ := vx_keep h0 e1 hS hA hf hL hF
    obtain ⟨t2, a1, b1⟩ := kk r u t T'.heap (locs ++ L) e1.symm (by rw [← e2]; exact X'.warmed.alike) hp hb k1 k2 k3 T' rfl X'
    exact ⟨t2, st t2 a1, b1⟩
  · obtain ⟨k1, k2, k3⟩ := vx_keep h0 e1 hS hAX hf hL hF
    obtain ⟨t2, a1, b1⟩ := kx E ce q u t T'.heap (locs ++ L) e1.symm (by rw [← e2]; exact X'.warmed.alike) hp hb k1 k2 k3 (by rw [e1]; exact hce) hcv hcl T' rfl X'
    exact ⟨t2, st.trans a1, b1⟩
theorem vx_calld {S SX : Type} {post : UInt64 → S → Prop} {px : SX → Prop} {B : S → State → Prop} {BX : String → SX → State → Prop} {AX : Nat → Prop} (hr : vx_Run p l e R s m args below meth c H locs cells slots mc ms (F0 m pc ls st0) rest (va_Qd post B A1 a) (vx_X px BX AX) free) (hS : va_S A0 H0 H locs) (hA : ∀ q, q < H.size → A1 q → A0 q) (hf : ∀ q, free q → A0 q) (hAX : ∀ q, q < H.size → AX q → A0 q)
    (kx : ∀ (E : String) (ce : Cell) (q9 : Addr) (u : SX) (t : State) (H1 : Heap) (locs1 : List Loc), t.heap = H1 → s.vm.Alike t.vm → px u → BX E u t → H.size ≤ H1.size → (∀ q : Nat, q < H.size → ¬ AX q → H1[q]? = H[q]?) → va_S A0 H0 H1 locs1 → H1[q9]? = some ce → ce.vm = .none → s.vm.findClass E = some ce.cls → vx_W p l e R s m args below meth c H1 locs1 (cells + mc) (slots + ms) Q (F0 m pc ls rest) q9)
    (kk : ∀ (r : UInt64) (u : S) (t : State) (H1 : Heap) (locs1 : List Loc), t.heap = H1 → s.vm.Alike t.vm → post r u → B u t → H.size ≤ H1.size → (∀ q : Nat, q < H.size → ¬ A1 q → H1[q]? = H[q]?) → va_S A0 H0 H1 locs1 → W p l e R s m args below meth c H1 locs1 (cells + mc) (slots + ms) Q (F0 m (pc + 3) ls (.double r :: rest))) : W p l e R s m args below meth c H locs cells slots Q (F0 m pc ls st0) := by
  intro T hT X
  rcases hr T hT X with ⟨v, st₀, t, T', L, h0, X', hL, e1, e2, ⟨⟨r, u, hv, hp, hb⟩, hF⟩, st⟩ | ⟨q, st₀, t, T', L, E, ce, h0, X', hL, e1, e2, ⟨u, hp, hb, hF⟩, hce, hcv, hcl, st⟩
  · cases hv
    obtain ⟨k1, k2, k3⟩ := vx_keep h0 e1 hS hA hf hL hF
    obtain ⟨t2, a1, b1⟩ := kk r u t T'.heap (locs ++ L) e1.symm (by rw [← e2]; exact X'.warmed.alike) hp hb k1 k2 k3 T' rfl X'
    exact ⟨t2, st t2 a1, b1⟩
  · obtain ⟨k1, k2, k3⟩ := vx_keep h0 e1 hS hAX hf hL hF
    obtain ⟨t2, a1, b1⟩ := kx E ce q u t T'.heap (locs ++ L) e1.symm (by rw [← e2]; exact X'.warmed.alike) hp hb k1 k2 k3 (by rw [e1]; exact hce) hcv hcl T' rfl X'
    exact ⟨t2, st.trans a1, b1⟩
theorem vx_callv {S SX : Type} {post : S → Prop} {px : SX → Prop} {B : S → State → Prop} {BX : String → SX → State → Prop} {AX : Nat → Prop} (hr : vx_Run p l e R s m args below meth c H locs cells slots mc ms (F0 m pc ls st0) rest (va_Qv post B A1 a) (vx_X px BX AX) free) (hS : va_S A0 H0 H locs) (hA : ∀ q, q < H.size → A1 q → A0 q) (hf : ∀ q, free q → A0 q) (hAX : ∀ q, q < H.size → AX q → A0 q)
    (kx : ∀ (E : String) (ce : Cell) (q9 : Addr) (u : SX) (t : State) (H1 : Heap) (locs1 : List Loc), t.heap = H1 → s.vm.Alike t.vm → px u → BX E u t → H.size ≤ H1.size → (∀ q : Nat, q < H.size → ¬ AX q → H1[q]? = H[q]?) → va_S A0 H0 H1 locs1 → H1[q9]? = some ce → ce.vm = .none → s.vm.findClass E = some ce.cls → vx_W p l e R s m args below meth c H1 locs1 (cells + mc) (slots + ms) Q (F0 m pc ls rest) q9)
    (kk : ∀ (u : S) (t : State) (H1 : Heap) (locs1 : List Loc), t.heap = H1 → s.vm.Alike t.vm → post u → B u t → H.size ≤ H1.size → (∀ q : Nat, q < H.size → ¬ A1 q → H1[q]? = H[q]?) → va_S A0 H0 H1 locs1 → W p l e R s m args below meth c H1 locs1 (cells + mc) (slots + ms) Q (F0 m (pc + 3) ls (rest))) : W p l e R s m args below meth c H locs cells slots Q (F0 m pc ls st0) := by
  intro T hT X
  rcases hr T hT X with ⟨v, st₀, t, T', L, h0, X', hL, e1, e2, ⟨⟨u, hv, hp, hb⟩, hF⟩, st⟩ | ⟨q, st₀, t, T', L, E, ce, h0, X', hL, e1, e2, ⟨u, hp, hb, hF⟩, hce, hcv, hcl, st⟩
  · cases hv
    obtain ⟨k1, k2, k3⟩ := vx_keep h0 e1 hS hA hf hL hF
    obtain ⟨t2, a1, b1⟩ := kk u t T'.heap (locs ++ L) e1.symm (by rw [← e2]; exact X'.warmed.alike) hp hb k1 k2 k3 T' rfl X'
    exact ⟨t2, st t2 a1, b1⟩
  · obtain ⟨k1, k2, k3⟩ := vx_keep h0 e1 hS hAX hf hL hF
    obtain ⟨t2, a1, b1⟩ := kx E ce q u t T'.heap (locs ++ L) e1.symm (by rw [← e2]; exact X'.warmed.alike) hp hb k1 k2 k3 (by rw [e1]; exact hce) hcv hcl T' rfl X'
    exact ⟨t2, st.trans a1, b1⟩
/-- caught by the row x of this method's table; the rows ahead don't take it -/
theorem vx_catch {own name : String} {E : String} {ce : Cell} {q : Addr} (hown : s.vm.findClass own = some m.cls) (pre : List ExceptionTableEntry) (x : ExceptionTableEntry) (suf : List ExceptionTableEntry) (hsplit : c.exceptionTable.toList = pre ++ x :: suf)
    (hpass : ∀ z ∈ pre, covers z pc = false ∨ (z.catchType ≠ 0 ∧ ∃ nm : String, (Cond.classLink own z.catchType nm).before args s = true ∧ va_Nc E nm s)) (hx : covers x pc = true) (h0 : x.catchType ≠ 0)
    (hlink : (Cond.classLink own x.catchType name).before args s = true) (hcast : (Cond.castable E name).before args s = true) (hcell : H[q]? = some ce) (hv : ce.vm = .none) (hcl : s.vm.findClass E = some ce.cls)
    (kk : W p l e R s m args below meth c H locs cells slots Q (F0 m x.handlerPc ls [.ref q])) : vx_W p l e R s m args below meth c H locs cells slots Q (F0 m pc ls rest) q := by
  intro T hT X
  have hpl : e.platform.magicAccessors = ({} : Platform).magicAccessors := by rw [X.admits.platform]
  obtain ⟨c3, c4, hc3, hc4, hasg⟩ := Cond.castable_spec hcast
  cases Option.some.inj (hc3.symm.trans hcl)
  obtain ⟨c5, hc5, hcl5⟩ := Cond.classLink_spec hown hlink e.platform hpl
  cases Option.some.inj (hc4.symm.trans hc5)
  obtain ⟨vm', X', st⟩ := X.thenCaughtThrough q (g := F0 m pc ls rest) rfl (Steps.refl _) (by rw [hT]; exact hcell) (by rw [hv]; rfl) (by obtain ⟨k9, h9, -⟩ := Vm.findClass_spec hcl; exact ⟨k9, h9⟩) pre x suf hsplit
    (fun z hz => by
      rcases hpass z hz with h | ⟨hz0, nm, hl1, hn1⟩
      · exact Or.inl h
      · obtain ⟨c6, hc6, hcl6⟩ := Cond.classLink_spec hown hl1 e.platform hpl
        obtain ⟨a8, b8, h1, h2, h3⟩ := hn1
        cases Option.some.inj (h1.symm.trans hcl)
        cases Option.some.inj (h2.symm.trans hc6)
        exact Or.inr ⟨hz0, _, hcl6, h3⟩) hx (Or.inr ⟨h0, c4, hcl5, hasg⟩)
  obtain ⟨t, a1, b1⟩ := kk (T.setVm vm') hT X'
  exact ⟨t, st.trans a1, b1⟩
end Rows
section Ends
variable {p : Program} {l : Launch} {e : Env} {R : Room} {s : State} {m : MethodId} {args : Array Value} {below : List Frame} {meth : Method} {c : Code} {H : Heap} {locs : List Loc} {cells slots : Nat} {Q : State → Prop}
variable {mc ms : Nat} {free : Addr → Prop} {A0 A1 : Nat → Prop} {H0 : Heap} {a : Array Value} {ls : Array Slot} {st0 rest : List Value}
variable {Qc : Array Value → State → Outcome → State → Prop} {XC : String → State → State → Prop}
/-- what a body that may throw owes at its end -/
def vx_MQ (below : List Frame) (Qc : Array Value → State → Outcome → State → Prop) (XC : String → State → State → Prop) (a : Array Value) (s : State) (mc ms : Nat) (free : Addr → Prop) : State → Prop := fun t =>
  ∃ o, t.status = .running ∧ Ended t below o ∧ vx_Q Qc XC mc ms free a s o t
theorem vx_ret {g : JFrame} {mc ms : Nat} (k : W p l e R s m args below meth c H locs cells slots (MQ below Qc args s mc ms free) g) : W p l e R s m args below meth c H locs cells slots (vx_MQ below Qc XC args s mc ms free) g := by
  intro T hT X
  obtain ⟨t, a1, o, b1, b2, b3, b4⟩ := k T hT X
  exact ⟨t, a1, o, b1, b2, Or.inl ⟨b3, b4⟩⟩
/-- not caught here: it goes on to the caller -/
theorem vx_widen {g : JFrame} {q : Addr} {k n : Nat} (h1 : cells ≤ k) (h2 : slots ≤ n) (kk : vx_W p l e R s m args below meth c H locs k n Q g q) : vx_W p l e R s m args below meth c H locs cells slots Q g q := fun T hT X => kk T hT (stand_widen X h1 h2)
theorem vx_out {pc : Nat} {E : String} {ce : Cell} {q : Addr} {mc ms : Nat} (hout : ∀ x ∈ c.exceptionTable.toList, covers x pc = false) (hlocks : meth.locks = false) (hcell : H[q]? = some ce) (hv : ce.vm = .none) (hcl : s.vm.findClass E = some ce.cls)
    (hx : ∀ t : State, t.heap = H → s.vm.Alike t.vm → XC E s t) (hf : ∀ z ∈ locs, free z.base) (hc : cells ≤ mc) (hs : slots ≤ ms) :
    vx_W p l e R s m args below meth c H locs cells slots (vx_MQ below Qc XC args s mc ms free) (F0 m pc ls rest) q := by
  intro T hT X
  obtain ⟨st1, hrun, hend, hW, hsm⟩ := X.leaveThrown q (g := F0 m pc ls rest) rfl rfl rfl hout hlocks
  have hcell9 : (T.setFrames (.throwing q :: below)).heap[q]? = some ce := by
    show T.heap[q]? = some ce
    rw [hT]; exact hcell
  exact ⟨_, st1, .threw q, hrun, hend, Or.inr ⟨q, rfl, E, ce, locs, hx _ hT hW.alike, hcell9, hv, hcl, hW, hsm.mono hc hs, hf⟩⟩
theorem vx_frame {U : State} {k n : Nat} (h : s.sameButNew ({ U with vm := s.vm } : State) locs k n) : s.heap.size ≤ U.heap.size ∧ ∀ q : Nat, q < s.heap.size → (∀ z ∈ locs, z.base ≠ q) → U.heap[q]? = s.heap[q]? := by
  obtain ⟨-, h2, -, -, -, h6⟩ := h
  refine ⟨h2, fun q hq hz => ?_⟩
  obtain ⟨c9, e1, e2, e3, e4⟩ := h6 q _ (Array.getElem?_eq_getElem hq)
  have hs : c9.slots = (s.heap[q]).slots := Array.ext_getElem? fun i => e4 i fun hm => hz _ hm rfl
  have h9 : c9 = s.heap[q] := by
    rw [hs] at e2
    exact e2
  have e5 : U.heap[q]? = some c9 := e1
  rw [e5, h9, Array.getElem?_eq_getElem hq]
/-- the words of a throw but the four that speak of the heap -/
def vx_no (w : Cond) : Bool := decide (w ≠ .isRef (.static Bundle.tN "UNASSIGNED_STACK" Bundle.steD)) && decide (w ≠ .isRef (.static Bundle.tN "SUPPRESSED_SENTINEL" Bundle.listD)) && decide (w ≠ .laysStatic Bundle.tN "UNASSIGNED_STACK" Bundle.steD) && decide (w ≠ .laysStatic Bundle.tN "SUPPRESSED_SENTINEL" Bundle.listD)
def vx_at0 (own : String) (ic : Nat) (X : String) (names : List String) : List Cond := (Bundle.ownAtoms0 own ic X names).filter vx_no
def vx_atS (own : String) (ic : Nat) (X : String) (names : List String) : List Cond := (Bundle.ownAtoms own ic X names).filter vx_no
/-- a word that the tables alone decide, or a good one -/
def vx_ot (w : Cond) : Bool := w.onTables || goodWord w
theorem vx_ot_at {args a' : Array Value} {s U : State} {w : Cond} (hW : s.WarmedH U.vm) (hvm : s.vm = U.vm) (hg : vx_ot w = true) (h : w.before args s = true) : w.before a' U = true := by
  simp only [vx_ot, Bool.or_eq_true] at hg
  rcases hg with hg | hg
  · exact va_tabs hg hvm h
  · exact word_at hW (good_of_word hg) h
/-- a list's words: the good ones out of the method's own list, the others by premises of their own -/
theorem vx_hat {args : Array Value} {s : State} {L B : List Cond} (h1 : ∀ w ∈ L.filter goodWord, w.before args s = true) (h2 : ∀ w ∈ L.filter (fun w => !goodWord w), w ∈ B) (h3 : ∀ w ∈ B, w.before args s = true) : ∀ w ∈ L, w.before args s = true := by
  intro w hw
  by_cases g : goodWord w = true
  · exact h1 w (List.mem_filter.mpr ⟨hw, g⟩)
  · refine h3 w (h2 w (List.mem_filter.mpr ⟨hw, ?_⟩))
    show (!goodWord w) = true
    cases hgw : goodWord w
    · rfl
    · exact absurd hgw g
theorem vx_c {args : Array Value} {s : State} {w : Cond} {B : List Cond} (h : w.before args s = true) (t : ∀ w ∈ B, w.before args s = true) : ∀ w' ∈ w :: B, w'.before args s = true := fun w' h' => (List.mem_cons.mp h').elim (fun e => by rw [e]; exact h) (t w')
theorem vx_n {args : Array Value} {s : State} : ∀ w ∈ ([] : List Cond), w.before args s = true := fun _ h => nomatch h
theorem vx_own {args : Array Value} {s : State} {L : List Cond} (h1 : ∀ w ∈ L.filter vx_no, w.before args s = true)
    (hU : (Cond.isRef (.static Bundle.tN "UNASSIGNED_STACK" Bundle.steD)).before args s = true) (hN : (Cond.isRef (.static Bundle.tN "SUPPRESSED_SENTINEL" Bundle.listD)).before args s = true)
    (lU : (Cond.laysStatic Bundle.tN "UNASSIGNED_STACK" Bundle.steD).before args s = true) (lN : (Cond.laysStatic Bundle.tN "SUPPRESSED_SENTINEL" Bundle.listD).before args s = true) : ∀ w ∈ L, w.before args s = true := by
  intro w hw
  by_cases e1 : w = .isRef (.static Bundle.tN "UNASSIGNED_STACK" Bundle.steD)
  · rw [e1]; exact hU
  · by_cases e2 : w = .isRef (.static Bundle.tN "SUPPRESSED_SENTINEL" Bundle.listD)
    · rw [e2]; exact hN
    · by_cases e3 : w = .laysStatic Bundle.tN "UNASSIGNED_STACK" Bundle.steD
      · rw [e3]; exact lU
      · by_cases e4 : w = .laysStatic Bundle.tN "SUPPRESSED_SENTINEL" Bundle.listD
        · rw [e4]; exact lN
        · exact h1 w (List.mem_filter.mpr ⟨hw, by unfold vx_no; rw [decide_eq_true e1, decide_eq_true e2, decide_eq_true e3, decide_eq_true e4]; rfl⟩)
/-- where a static field lies, its class's statics cell in H -/
def vx_L (C n d : String) (A : Nat → Prop) (U : State) (H : Heap) : Prop := ∃ (c : ClassId) (k : Class) (i : Nat) (f : Field) (a : Nat) (cell : Cell), U.vm.findClass C = some c ∧ U.fieldFound? C n d = some (c, k, i, f) ∧ f.isStatic = true ∧ k.statics = some a ∧ H[a]? = some cell ∧ cell.vm.isStatics = true ∧ cell.cls = c ∧ f.slot < cell.slots.size ∧ k.staticTypes[f.slot]? = some f.type ∧ ¬ A a
theorem vx_L.moved {C n d : String} {A : Nat → Prop} {u U : State} {H : Heap} (hvm : u.vm.Alike U.vm) (h : vx_L C n d A u H) : vx_L C n d A U H := by
  obtain ⟨c, k, i, f, a, cell, h1, h2, h3, h4, h5, h6, h7, h8, h9, h10⟩ := h
  obtain ⟨k', hi', he⟩ := State.fieldFound?_setVm hvm h2
  exact ⟨c, k', i, f, a, cell, by rw [hvm.findClass]; exact h1, hi', h3, by rw [he]; exact h4, h5, h6, h7, h8, by rw [he]; exact h9, h10⟩
theorem vx_L.kept {C n d : String} {A : Nat → Prop} {U : State} {H H1 : Heap} (h : vx_L C n d A U H) (hq : ∀ a : Nat, a < H.size → ¬ A a → H1[a]? = H[a]?) : vx_L C n d A U H1 := by
  obtain ⟨c, k, i, f, a, cell, h1, h2, h3, h4, h5, h6, h7, h8, h9, h10⟩ := h
  exact ⟨c, k, i, f, a, cell, h1, h2, h3, h4, by rw [hq a (Array.getElem?_eq_some_iff.mp h5).1 h10]; exact h5, h6, h7, h8, h9, h10⟩
theorem vx_L.narrow {C n d : String} {A B : Nat → Prop} {U : State} {H : Heap} (h : vx_L C n d A U H) (hAB : ∀ q, B q → A q) : vx_L C n d B U H := by
  obtain ⟨c, k, i, f, a, cell, h1, h2, h3, h4, h5, h6, h7, h8, h9, h10⟩ := h
  exact ⟨c, k, i, f, a, cell, h1, h2, h3, h4, h5, h6, h7, h8, h9, fun z => h10 (hAB _ z)⟩
theorem vx_L.word {C n d : String} {A : Nat → Prop} {s : State} {args : Array Value} (h : vx_L C n d A s s.heap) : (Cond.laysStatic C n d).before args s = true := by
  obtain ⟨c, k, i, f, a, cell, h1, h2, h3, h4, h5, h6, h7, h8, h9, -⟩ := h
  show (Cond.laysStatic C n d).holds args s none s [] = true
  exact Cond.laysStatic_of h1 h2 h3 h4 h5 h6 h7 h8 h9
/-- .. and what it holds: null or some reference -/
def vx_Zq (C n d : String) (A : Nat → Prop) (U : State) (H : Heap) : Prop := va_Zq C n d A U H ∧ vx_L C n d A U H
theorem vx_Zq.moved {C n d : String} {A : Nat → Prop} {u U : State} {H : Heap} (hvm : u.vm.Alike U.vm) (h : vx_Zq C n d A u H) : vx_Zq C n d A U H := ⟨va_Zq.moved hvm h.1, vx_L.moved hvm h.2⟩
theorem vx_Zq.kept {C n d : String} {A : Nat → Prop} {U : State} {H H1 : Heap} (h : vx_Zq C n d A U H) (hq : ∀ a : Nat, a < H.size → ¬ A a → H1[a]? = H[a]?) : vx_Zq C n d A U H1 := ⟨va_Zq.kept h.1 hq, vx_L.kept h.2 hq⟩
theorem vx_Zq.narrow {C n d : String} {A B : Nat → Prop} {U : State} {H : Heap} (h : vx_Zq C n d A U H) (hAB : ∀ q, B q → A q) : vx_Zq C n d B U H := ⟨va_Zq.narrow h.1 hAB, vx_L.narrow h.2 hAB⟩
theorem vx_Zqof {args : Array Value} {s : State} {C n d : String} {A : Nat → Prop} (hl : (Cond.laysStatic C n d).before args s = true) (hini : (Cond.initialized C).before args s = true) (h : (Cond.isRef (.static C n d)).before args s = true) (hA : ∀ a : Nat, a < s.heap.size → ¬ A a) : vx_Zq C n d A s s.heap := by
  refine ⟨va_Zqof hl hini h hA, ?_⟩
  obtain ⟨c, k, i, f, a, cell, h1, h2, h3, h4, h5, h6, h7, h8, h9⟩ := Cond.laysStatic_spec hl
  exact ⟨c, k, i, f, a, cell, h1, h2, h3, h4, h5, h6, h7, h8, h9, hA a (Array.getElem?_eq_some_iff.mp h5).1⟩
theorem vx_isRef {C n d : String} {v : Value} {A : Nat → Prop} {s : State} {args : Array Value} (h : va_Z C n d v A s s.heap) (hv : v.isRef = true) : (Cond.isRef (.static C n d)).before args s = true := by
  obtain ⟨cf, kf, fi, f, a, cell, h1, h2, h3, h4, h5, h6, h7, -⟩ := h
  have he : (Term.static C n d).eval args s none [] s = some v := by
    simp [Term.eval, State.fieldNamed?, h1, h2, h4, h5, h6, h7]
  simp only [Cond.before, Cond.holds, Cond.value, he]
  cases v <;> simp_all [Value.isRef]
theorem vx_isRefq {C n d : String} {A : Nat → Prop} {s : State} {args : Array Value} (h : va_Zq C n d A s s.heap) : (Cond.isRef (.static C n d)).before args s = true := by
  rcases h with h | ⟨t, h⟩
  · exact vx_isRef h rfl
  · exact vx_isRef h rfl
/-- the same frame, seen from here: as if the method were called anew in this heap -/
theorem vx_rebase {T : State} (X : Stand p l e R s m args below meth c T locs cells slots) {R' : Room} (hf : R'.frames ≤ R.frames) (hl : R'.locals ≤ R.locals) (hc : cells + R'.cells ≤ R.cells) (hs : slots + R'.slots ≤ R.slots) :
    Stand p l e R' ((T.setVm s.vm).setFrames (.invoking m args :: below)) m args below meth c T [] 0 0 := by
  have htop : (T.setVm s.vm).topJava?.isSome := X.here.top
  have hF : ((T.setVm s.vm).setFrames (.invoking m args :: below)).frames = .invoking m args :: below := State.frames_setFrames _ (State.cur_lt_of_top htop)
  obtain ⟨g₀, hg0⟩ := Option.isSome_iff_exists.mp htop
  obtain ⟨r, hr⟩ := State.topJava?_eq_some.mp hg0
  have hl9 : e.platform.stackLimits (T.setVm s.vm).me = e.platform.stackLimits s.me := X.limits
  have hb9 : (T.setVm s.vm).me.stackBytes = s.me.stackBytes := X.bytes
  refine ⟨X.admits, X.cas, X.clock, hF, ?_, X.hears, X.method, X.code, X.here, X.tail, X.warmed, ?_, ?_, ?_⟩
  · have h := X.room
    have hU : ((T.setVm s.vm).setFrames (.invoking m args :: below)).localsInUse = s.localsInUse := by
      rw [State.localsInUse_invoking hF (meth := meth) (c := c) X.method X.code, State.localsInUse_invoking X.frames X.method X.code]
    simp only [State.hasRoom, Bool.and_eq_true, decide_eq_true_eq] at h ⊢
    obtain ⟨⟨⟨⟨h1, h2, h3, h4, h5, h6⟩, h7⟩, h8⟩, h9⟩ := h
    rw [X.frames, List.length_cons] at h2 h3
    have q1 := X.heapSize
    have q2 := X.used
    simp only [hF, hU, List.length_cons, State.stackLimits_setFrames, State.stackBytes_setFrames, hl9, hb9]
    refine ⟨⟨⟨⟨by omega, by omega, by omega, by omega, by omega, h6⟩, ?_⟩, ?_⟩, X.book⟩
    · show T.heap.size + R'.cells ≤ e.platform.maxCells
      omega
    · show T.slotsUsed + R'.slots ≤ e.platform.maxSlots
      omega
  · rw [State.stackLimits_setFrames]; rfl
  · rw [State.stackBytes_setFrames]; rfl
  · refine ⟨?_, Nat.le_refl _, Nat.le_refl _, ?_, ?_, fun a c9 h9 => ⟨c9, h9, rfl, rfl, fun _ _ => rfl⟩⟩
    · obtain ⟨t, ht, -⟩ := State.frames_cons hr
      show T.setVm s.vm = { ((T.setVm s.vm).setFrames (.invoking m args :: below)).setFrames (T.setVm s.vm).frames with heap := T.heap, slotsUsed := T.slotsUsed }
      rw [State.setFrames_setFrames, State.setFrames_self ht]
      rfl
    · show T.slotsUsed = T.slotsUsed + ((T.heap.toList.drop T.heap.size).map (·.slots.size)).sum
      rw [List.drop_eq_nil_of_le (Nat.le_of_eq Array.length_toList)]
      rfl
    · show ((T.heap.toList.drop T.heap.size).map (·.slots.size)).sum ≤ 0
      rw [List.drop_eq_nil_of_le (Nat.le_of_eq Array.length_toList)]
      exact Nat.le_refl _
/-- 'throw new E()': new; dup; invokespecial; athrow -/
theorem vx_throw0 {cc : ByteArray} {pc : Nat} (hexec : p.tables.exec = Jvm.exec) (hb : c.code = cc) (hl : l.stackTraces = false) {own cls : String} {names : List String} {ik ic mc ms : Nat} {A : Nat → Prop}
    (hown : s.vm.findClass own = some m.cls) (hcls : Bundle.fit cls = true) (hnames : ∀ n ∈ names, Bundle.fit n = true)
    (hk : (Cond.classLink own ik cls).before args s = true) (hini : (Cond.initialized cls).before args s = true) (hat : ∀ w ∈ vx_at0 own ic cls names, w.before args s = true)
    (hgood : ∀ w ∈ Cond.classLink own ik cls :: Cond.initialized cls :: vx_at0 own ic cls names, vx_ot w = true)
    (hU : vx_Zq Bundle.tN "UNASSIGNED_STACK" Bundle.steD A s s.heap) (hN : vx_Zq Bundle.tN "SUPPRESSED_SENTINEL" Bundle.listD A s s.heap) (hS : va_S A s.heap H locs) (hsize : ls.size = c.maxLocals)
    (d0 : decode cc pc = .ok (.new ik, 3)) (d3 : decode cc (pc + 3) = .ok (.dup, 1)) (d4 : decode cc (pc + 4) = .ok (.invokespecial ic, 3)) (d7 : decode cc (pc + 7) = .ok (.athrow, 1))
    (hout : ∀ x ∈ c.exceptionTable.toList, covers x (pc + 7) = false)
    (hRframes : names.length + 3 < R.frames) (hRlocals : (rest.map fun v => v.category).sum + (13 * (names.length + 1) + 42) ≤ R.locals) (hRcells : cells + 1 ≤ R.cells) (hRslots : slots + 6 ≤ R.slots) (hlocks : meth.locks = false)
    (hx : ∀ t : State, s.vm.Alike t.vm → H.size ≤ t.heap.size → (∀ q : Nat, q < H.size → t.heap[q]? = H[q]?) → XC cls s t)
    (hf : ∀ z ∈ locs, free z.base) (hc : cells + 1 ≤ mc) (hs : slots + 6 ≤ ms) :
    W p l e R s m args below meth c H locs cells slots (vx_MQ below Qc XC args s mc ms free) (F0 m pc ls rest) := by
  intro T hT X
  have htr : e.platform.stackTraces = false := (show e.platform.stackTraces = l.stackTraces by rw [X.admits.platform]).trans hl
  have Y := vx_rebase X (R' := { frames := R.frames, locals := R.locals, cells := 1, slots := 6 }) (Nat.le_refl _) (Nat.le_refl _) hRcells hRslots
  obtain ⟨s', hA⟩ : ∃ z, z = (T.setVm s.vm).setFrames (.invoking m args :: below) := ⟨_, rfl⟩
  rw [← hA] at Y
  have hvm : s'.vm = s.vm := by rw [hA]; rfl
  have hhp : s'.heap = H := by rw [hA]; exact hT
  have hW0 : s.WarmedH s'.vm := by rw [hvm]; exact State.WarmedH.refl s
  have hat' : ∀ w ∈ vx_at0 own ic cls names, w.before args s' = true := fun w hw => vx_ot_at hW0 hvm.symm (hgood w (List.mem_cons_of_mem _ (List.mem_cons_of_mem _ hw))) (hat w hw)
  have hk' : (Cond.classLink own ik cls).before args s' = true := vx_ot_at hW0 hvm.symm (hgood _ List.mem_cons_self) hk
  have hini' : (Cond.initialized cls).before args s' = true := vx_ot_at hW0 hvm.symm (hgood _ (List.mem_cons_of_mem _ List.mem_cons_self)) hini
  have hU' : vx_Zq Bundle.tN "UNASSIGNED_STACK" Bundle.steD A s' s'.heap := by rw [hhp]; exact vx_Zq.moved hW0.alike (hU.kept hS.2.1)
  have hN' : vx_Zq Bundle.tN "SUPPRESSED_SENTINEL" Bundle.listD A s' s'.heap := by rw [hhp]; exact vx_Zq.moved hW0.alike (hN.kept hS.2.1)
  have h : ∀ w ∈ Bundle.ownAtoms0 own ic cls names, w.before args s' = true := vx_own hat' (vx_isRefq hU'.1) (vx_isRefq hN'.1) hU'.2.word hN'.2.word
  have hown' : s'.vm.findClass own = some m.cls := by rw [hvm]; exact hown
  have hins : (Cond.instantiable cls 6).before args s' = true := h _ (by simp [Bundle.ownAtoms0])
  obtain ⟨vm₁, cX, kX, hfX, hkX, -, -, X₁, st1⟩ := Y.newCold hexec (own := own) (C := cls) (index := ik) (n := 6) hown' hk' hins hini'
    (g := F0 m pc ls rest) rfl (by rw [hb]; exact d0) (Nat.le_refl _) (Nat.le_refl _)
  generalize hT1 : (T.setVm vm₁).pushCell { cls := cX, slots := kX.instanceTypes.map defaultValue, vm := .none } = T1 at X₁ st1
  have hcat : (Value.ref T.heap.size).category = 1 := rfl
  have hcellA : T1.heap[T.heap.size]? = some (freshCell cX kX) := by rw [← hT1]; exact State.heap_pushCell_size _ _
  have d3' : decode c.code (pc + 3) = .ok (.dup, 1) := by rw [hb]; exact d3
  obtain ⟨U, hsteps, hrun, hend, hW, hsame, ce, hce, hO⟩ := X₁.ctorThrow0 hexec htr (own := own) (cls := cls) (names := names) (ic := ic) hown' hcls hnames h (fun x hx => nomatch hx) hfX hkX hcellA (by rw [hhp, hT]; exact Nat.le_refl _)
    (g := { method := m, pc := pc + 4, locals := ls, stack := .ref T.heap.size :: .ref T.heap.size :: rest, locked := none }) rfl hsize rfl rfl (rest := rest) rfl
    (by rw [hb]; exact d4) (by rw [hb]; exact d7) hout hRframes (by simp only [List.map_cons, List.sum_cons, hcat]; omega) hlocks
  obtain ⟨f1, f2⟩ := vx_frame hsame
  rw [hhp] at f1 f2
  have hWs : s.WarmedH U.vm := State.WarmedH.trans hW0 hW
  have hcl : s.vm.findClass cls = some ce.cls := by
    have h9 := hO.cls
    rw [hvm] at h9
    exact h9
  have hall : s.sameButNew ({ U with vm := s.vm } : State) locs mc ms := by
    subst hA
    obtain ⟨e1, e2⟩ := hsame
    rw [State.setFrames_setFrames] at e1
    have h2 : (T.setVm s.vm).sameButNew ({ U with vm := s.vm } : State) [] (0 + 1) (0 + 6) := ⟨e1, e2⟩
    have h3 := X.same.trans h2
    rw [List.append_nil] at h3
    exact h3.mono hc hs
  refine ⟨U, ?_, .threw T.heap.size, hrun, hend, Or.inr ⟨T.heap.size, rfl, cls, ce, locs, hx U hWs.alike f1 (fun q hq => f2 q hq (fun z hz => nomatch hz)), hce, hO.vm, hcl, hWs, hall, hf⟩⟩
  refine st1 _ ?_
  show Steps p.tables e below (T1.setTop { method := m, pc := pc + 3, locals := ls, stack := .ref T.heap.size :: rest, locked := none }) _
  jvm_step X₁.here [X₁.here.top, hexec, d3', Value.category]
  exact hsteps
/-- 'throw new E("text")': new; dup; ldc; invokespecial; athrow -/
theorem vx_throwS {cc : ByteArray} {pc : Nat} (hexec : p.tables.exec = Jvm.exec) (hb : c.code = cc) (hl : l.stackTraces = false) {own cls text : String} {names : List String} {ik is ic mc ms sa : Nat} {A : Nat → Prop}
    (hown : s.vm.findClass own = some m.cls) (hcls : Bundle.fit cls = true) (hnames : ∀ n ∈ names, Bundle.fit n = true)
    (hk : (Cond.classLink own ik cls).before args s = true) (hini : (Cond.initialized cls).before args s = true) (hstr : vk_R own is text sa s) (hat : ∀ w ∈ vx_atS own ic cls names, w.before args s = true)
    (hgood : ∀ w ∈ Cond.classLink own ik cls :: Cond.initialized cls :: vx_atS own ic cls names, vx_ot w = true)
    (hU : vx_Zq Bundle.tN "UNASSIGNED_STACK" Bundle.steD A s s.heap) (hN : vx_Zq Bundle.tN "SUPPRESSED_SENTINEL" Bundle.listD A s s.heap) (hS : va_S A s.heap H locs) (hsize : ls.size = c.maxLocals)
    (d0 : decode cc pc = .ok (.new ik, 3)) (d3 : decode cc (pc + 3) = .ok (.dup, 1)) (d4 : decode cc (pc + 4) = .ok (.ldc is, 2)) (d6 : decode cc (pc + 6) = .ok (.invokespecial ic, 3)) (d9 : decode cc (pc + 9) = .ok (.athrow, 1))
    (hout : ∀ x ∈ c.exceptionTable.toList, covers x (pc + 9) = false)
    (hRframes : names.length + 3 < R.frames) (hRlocals : (rest.map fun v => v.category).sum + (13 * (names.length + 1) + 43) ≤ R.locals) (hRcells : cells + 1 ≤ R.cells) (hRslots : slots + 6 ≤ R.slots) (hlocks : meth.locks = false)
    (hx : ∀ t : State, s.vm.Alike t.vm → H.size ≤ t.heap.size → (∀ q : Nat, q < H.size → t.heap[q]? = H[q]?) → XC cls s t)
    (hf : ∀ z ∈ locs, free z.base) (hc : cells + 1 ≤ mc) (hs : slots + 6 ≤ ms) :
    W p l e R s m args below meth c H locs cells slots (vx_MQ below Qc XC args s mc ms free) (F0 m pc ls rest) := by
  intro T hT X
  have htr : e.platform.stackTraces = false := (show e.platform.stackTraces = l.stackTraces by rw [X.admits.platform]).trans hl
  have Y := vx_rebase X (R' := { frames := R.frames, locals := R.locals, cells := 1, slots := 6 }) (Nat.le_refl _) (Nat.le_refl _) hRcells hRslots
  obtain ⟨s', hA⟩ : ∃ z, z = (T.setVm s.vm).setFrames (.invoking m args :: below) := ⟨_, rfl⟩
  rw [← hA] at Y
  have hvm : s'.vm = s.vm := by rw [hA]; rfl
  have hhp : s'.heap = H := by rw [hA]; exact hT
  have hW0 : s.WarmedH s'.vm := by rw [hvm]; exact State.WarmedH.refl s
  have hat' : ∀ w ∈ vx_atS own ic cls names, w.before args s' = true := fun w hw => vx_ot_at hW0 hvm.symm (hgood w (List.mem_cons_of_mem _ (List.mem_cons_of_mem _ hw))) (hat w hw)
  have hk' : (Cond.classLink own ik cls).before args s' = true := vx_ot_at hW0 hvm.symm (hgood _ List.mem_cons_self) hk
  have hini' : (Cond.initialized cls).before args s' = true := vx_ot_at hW0 hvm.symm (hgood _ (List.mem_cons_of_mem _ List.mem_cons_self)) hini
  have hU' : vx_Zq Bundle.tN "UNASSIGNED_STACK" Bundle.steD A s' s'.heap := by rw [hhp]; exact vx_Zq.moved hW0.alike (hU.kept hS.2.1)
  have hN' : vx_Zq Bundle.tN "SUPPRESSED_SENTINEL" Bundle.listD A s' s'.heap := by rw [hhp]; exact vx_Zq.moved hW0.alike (hN.kept hS.2.1)
  have h : ∀ w ∈ Bundle.ownAtoms own ic cls names, w.before args s' = true := vx_own hat' (vx_isRefq hU'.1) (vx_isRefq hN'.1) hU'.2.word hN'.2.word
  have hown' : s'.vm.findClass own = some m.cls := by rw [hvm]; exact hown
  have hins : (Cond.instantiable cls 6).before args s' = true := h _ (by simp [Bundle.ownAtoms])
  obtain ⟨vm₁, cX, kX, hfX, hkX, -, -, X₁, st1⟩ := Y.newCold hexec (own := own) (C := cls) (index := ik) (n := 6) hown' hk' hins hini'
    (g := F0 m pc ls rest) rfl (by rw [hb]; exact d0) (Nat.le_refl _) (Nat.le_refl _)
  generalize hT1 : (T.setVm vm₁).pushCell { cls := cX, slots := kX.instanceTypes.map defaultValue, vm := .none } = T1 at X₁ st1
  have hcat : (Value.ref T.heap.size).category = 1 := rfl
  have hcellA : T1.heap[T.heap.size]? = some (freshCell cX kX) := by rw [← hT1]; exact State.heap_pushCell_size _ _
  have d3' : decode c.code (pc + 3) = .ok (.dup, 1) := by rw [hb]; exact d3
  have d4' : decode c.code (pc + 4) = .ok (.ldc is, 2) := by rw [hb]; exact d4
  have hstr' : vk_R own is text sa s' := vk_R.warm hW0 hstr
  obtain ⟨U, hsteps, hrun, hend, hW, hsame, ce, hce, hO⟩ := X₁.ctorThrowS hexec htr (own := own) (cls := cls) (names := names) (ic := ic) hown' hcls hnames h (fun x hx => nomatch hx) hfX hkX hcellA (by rw [hhp, hT]; exact Nat.le_refl _) (msg := .ref sa) rfl
    (g := { method := m, pc := pc + 6, locals := ls, stack := .ref sa :: .ref T.heap.size :: .ref T.heap.size :: rest, locked := none }) rfl hsize rfl rfl (rest := rest) rfl
    (by rw [hb]; exact d6) (by rw [hb]; exact d9) hout hRframes (by simp only [List.map_cons, List.sum_cons, hcat]; omega) hlocks
  obtain ⟨f1, f2⟩ := vx_frame hsame
  rw [hhp] at f1 f2
  have hWs : s.WarmedH U.vm := State.WarmedH.trans hW0 hW
  have hcl : s.vm.findClass cls = some ce.cls := by
    have h9 := hO.cls
    rw [hvm] at h9
    exact h9
  have hall : s.sameButNew ({ U with vm := s.vm } : State) locs mc ms := by
    subst hA
    obtain ⟨e1, e2⟩ := hsame
    rw [State.setFrames_setFrames] at e1
    have h2 : (T.setVm s.vm).sameButNew ({ U with vm := s.vm } : State) [] (0 + 1) (0 + 6) := ⟨e1, e2⟩
    have h3 := X.same.trans h2
    rw [List.append_nil] at h3
    exact h3.mono hc hs
  refine ⟨U, ?_, .threw T.heap.size, hrun, hend, Or.inr ⟨T.heap.size, rfl, cls, ce, locs, hx U hWs.alike f1 (fun q hq => f2 q hq (fun z hz => nomatch hz)), hce, hO.vm, hcl, hWs, hall, hf⟩⟩
  refine st1 _ ?_
  show Steps p.tables e below (T1.setTop { method := m, pc := pc + 3, locals := ls, stack := .ref T.heap.size :: rest, locked := none }) _
  jvm_step X₁.here [X₁.here.top, hexec, d3', Value.category]
  exact X₁.ldcString hexec (own := own) (text := text) (index := is) (a := sa) hown' hstr'.1 hstr'.2
    (g := { method := m, pc := pc + 4, locals := ls, stack := .ref T.heap.size :: .ref T.heap.size :: rest, locked := none }) rfl d4' _ hsteps
/-- 'throw new E("text")', the text by a wide index -/
theorem vx_throwSW {cc : ByteArray} {pc : Nat} (hexec : p.tables.exec = Jvm.exec) (hb : c.code = cc) (hl : l.stackTraces = false) {own cls text : String} {names : List String} {ik is ic mc ms sa : Nat} {A : Nat → Prop}
    (hown : s.vm.findClass own = some m.cls) (hcls : Bundle.fit cls = true) (hnames : ∀ n ∈ names, Bundle.fit n = true)
    (hk : (Cond.classLink own ik cls).before args s = true) (hini : (Cond.initialized cls).before args s = true) (hstr : vk_R own is text sa s) (hat : ∀ w ∈ vx_atS own ic cls names, w.before args s = true)
    (hgood : ∀ w ∈ Cond.classLink own ik cls :: Cond.initialized cls :: vx_atS own ic cls names, vx_ot w = true)
    (hU : vx_Zq Bundle.tN "UNASSIGNED_STACK" Bundle.steD A s s.heap) (hN : vx_Zq Bundle.tN "SUPPRESSED_SENTINEL" Bundle.listD A s s.heap) (hS : va_S A s.heap H locs) (hsize : ls.size = c.maxLocals)
    (d0 : decode cc pc = .ok (.new ik, 3)) (d3 : decode cc (pc + 3) = .ok (.dup, 1)) (d4 : decode cc (pc + 4) = .ok (.ldc_w is, 3)) (d7 : decode cc (pc + 7) = .ok (.invokespecial ic, 3)) (d10 : decode cc (pc + 10) = .ok (.athrow, 1))
    (hout : ∀ x ∈ c.exceptionTable.toList, covers x (pc + 10) = false)
    (hRframes : names.length + 3 < R.frames) (hRlocals : (rest.map fun v => v.category).sum + (13 * (names.length + 1) + 43) ≤ R.locals) (hRcells : cells + 1 ≤ R.cells) (hRslots : slots + 6 ≤ R.slots) (hlocks : meth.locks = false)
    (hx : ∀ t : State, s.vm.Alike t.vm → H.size ≤ t.heap.size → (∀ q : Nat, q < H.size → t.heap[q]? = H[q]?) → XC cls s t)
    (hf : ∀ z ∈ locs, free z.base) (hc : cells + 1 ≤ mc) (hs : slots + 6 ≤ ms) :
    W p l e R s m args below meth c H locs cells slots (vx_MQ below Qc XC args s mc ms free) (F0 m pc ls rest) := by
  intro T hT X
  have htr : e.platform.stackTraces = false := (show e.platform.stackTraces = l.stackTraces by rw [X.admits.platform]).trans hl
  have Y := vx_rebase X (R' := { frames := R.frames, locals := R.locals, cells := 1, slots := 6 }) (Nat.le_refl _) (Nat.le_refl _) hRcells hRslots
  obtain ⟨s', hA⟩ : ∃ z, z = (T.setVm s.vm).setFrames (.invoking m args :: below) := ⟨_, rfl⟩
  rw [← hA] at Y
  have hvm : s'.vm = s.vm := by rw [hA]; rfl
  have hhp : s'.heap = H := by rw [hA]; exact hT
  have hW0 : s.WarmedH s'.vm := by rw [hvm]; exact State.WarmedH.refl s
  have hat' : ∀ w ∈ vx_atS own ic cls names, w.before args s' = true := fun w hw => vx_ot_at hW0 hvm.symm (hgood w (List.mem_cons_of_mem _ (List.mem_cons_of_mem _ hw))) (hat w hw)
  have hk' : (Cond.classLink own ik cls).before args s' = true := vx_ot_at hW0 hvm.symm (hgood _ List.mem_cons_self) hk
  have hini' : (Cond.initialized cls).before args s' = true := vx_ot_at hW0 hvm.symm (hgood _ (List.mem_cons_of_mem _ List.mem_cons_self)) hini
  have hU' : vx_Zq Bundle.tN "UNASSIGNED_STACK" Bundle.steD A s' s'.heap := by rw [hhp]; exact vx_Zq.moved hW0.alike (hU.kept hS.2.1)
  have hN' : vx_Zq Bundle.tN "SUPPRESSED_SENTINEL" Bundle.listD A s' s'.heap := by rw [hhp]; exact vx_Zq.moved hW0.alike (hN.kept hS.2.1)
  have h : ∀ w ∈ Bundle.ownAtoms own ic cls names, w.before args s' = true := vx_own hat' (vx_isRefq hU'.1) (vx_isRefq hN'.1) hU'.2.word hN'.2.word
  have hown' : s'.vm.findClass own = some m.cls := by rw [hvm]; exact hown
  have hins : (Cond.instantiable cls 6).before args s' = true := h _ (by simp [Bundle.ownAtoms])
  obtain ⟨vm₁, cX, kX, hfX, hkX, -, -, X₁, st1⟩ := Y.newCold hexec (own := own) (C := cls) (index := ik) (n := 6) hown' hk' hins hini'
    (g := F0 m pc ls rest) rfl (by rw [hb]; exact d0) (Nat.le_refl _) (Nat.le_refl _)
  generalize hT1 : (T.setVm vm₁).pushCell { cls := cX, slots := kX.instanceTypes.map defaultValue, vm := .none } = T1 at X₁ st1
  have hcat : (Value.ref T.heap.size).category = 1 := rfl
  have hcellA : T1.heap[T.heap.size]? = some (freshCell cX kX) := by rw [← hT1]; exact State.heap_pushCell_size _ _
  have d3' : decode c.code (pc + 3) = .ok (.dup, 1) := by rw [hb]; exact d3
  have d4' : decode c.code (pc + 4) = .ok (.ldc_w is, 3) := by rw [hb]; exact d4
  have hstr' : vk_R own is text sa s' := vk_R.warm hW0 hstr
  obtain ⟨U, hsteps, hrun, hend, hW, hsame, ce, hce, hO⟩ := X₁.ctorThrowS hexec htr (own := own) (cls := cls) (names := names) (ic := ic) hown' hcls hnames h (fun x hx => nomatch hx) hfX hkX hcellA (by rw [hhp, hT]; exact Nat.le_refl _) (msg := .ref sa) rfl
    (g := { method := m, pc := pc + 7, locals := ls, stack := .ref sa :: .ref T.heap.size :: .ref T.heap.size :: rest, locked := none }) rfl hsize rfl rfl (rest := rest) rfl
    (by rw [hb]; exact d7) (by rw [hb]; exact d10) hout hRframes (by simp only [List.map_cons, List.sum_cons, hcat]; omega) hlocks
  obtain ⟨f1, f2⟩ := vx_frame hsame
  rw [hhp] at f1 f2
  have hWs : s.WarmedH U.vm := State.WarmedH.trans hW0 hW
  have hcl : s.vm.findClass cls = some ce.cls := by
    have h9 := hO.cls
    rw [hvm] at h9
    exact h9
  have hall : s.sameButNew ({ U with vm := s.vm } : State) locs mc ms := by
    subst hA
    obtain ⟨e1, e2⟩ := hsame
    rw [State.setFrames_setFrames] at e1
    have h2 : (T.setVm s.vm).sameButNew ({ U with vm := s.vm } : State) [] (0 + 1) (0 + 6) := ⟨e1, e2⟩
    have h3 := X.same.trans h2
    rw [List.append_nil] at h3
    exact h3.mono hc hs
  refine ⟨U, ?_, .threw T.heap.size, hrun, hend, Or.inr ⟨T.heap.size, rfl, cls, ce, locs, hx U hWs.alike f1 (fun q hq => f2 q hq (fun z hz => nomatch hz)), hce, hO.vm, hcl, hWs, hall, hf⟩⟩
  refine st1 _ ?_
  show Steps p.tables e below (T1.setTop { method := m, pc := pc + 3, locals := ls, stack := .ref T.heap.size :: rest, locked := none }) _
  jvm_step X₁.here [X₁.here.top, hexec, d3', Value.category]
  exact X₁.ldcStringW hexec (own := own) (text := text) (index := is) (a := sa) hown' hstr'.1 hstr'.2
    (g := { method := m, pc := pc + 4, locals := ls, stack := .ref T.heap.size :: .ref T.heap.size :: rest, locked := none }) rfl d4' _ hsteps
end Ends
section Bodies
variable {l : Launch}
theorem vx_ofW {y : MethodName} {ws ws' : List Cond} {rm : Room} {Pc : Array Value → State → Prop} {Qc : Array Value → State → Outcome → State → Prop} {XC : String → State → State → Prop} {mc ms : Nat} {free : Addr → Prop} {cc : ByteArray} {maxL : Nat} {ret : Option FieldType}
    (hy : plainName y.cls = true) (hw : ws = Cond.code y cc maxL ret :: ws')
    (body : ∀ p e s m args below meth c s₁, BodyLoose p l y (headSpec ws rm) cc maxL ret e s m args below meth c s₁ → c.maxLocals = maxL → (∀ x ∈ c.exceptionTable.toList, False) → Pc args s →
      W p l e (headSpec ws rm).room s m args below meth c s.heap [] 0 0 (vx_MQ below Qc XC args s mc ms free) (entryFrame m args maxL)) : vx_Met l y ws rm Pc Qc XC mc ms free := by
  refine MetFree.of_bodyS (code := cc) (maxLocals := maxL) (ret := ret) hy ?_ ?_
  · intro args s m h hn
    obtain ⟨meth, c, h1, h2, h3, h4, h5, h6, -, -⟩ := Cond.code_spec hn (atoms_spec (ws := ws) h _ (by rw [hw]; exact List.mem_cons_self))
    exact ⟨meth, c, h1, h2, h3, h4, h5, h6⟩
  · intro p e s m args below meth c s₁ B hml hP _
    have hh0 : s₁.heap = s.heap := by rw [B.state]; rfl
    have ht : ∀ x ∈ c.exceptionTable.toList, False := by
      obtain ⟨meth9, c9, h1, h2, -, -, -, -, h7, -⟩ := Cond.code_spec B.named (atoms_spec (ws := ws) B.pre _ (by rw [hw]; exact List.mem_cons_self))
      cases Option.some.inj (h1.symm.trans B.method)
      cases Option.some.inj (h2.symm.trans (Stand.of_body B).code)
      intro x hx
      rw [Array.isEmpty_iff.mp h7] at hx
      cases hx
    obtain ⟨t, a1, o, b1, b2, b3⟩ := body p e s m args below meth c s₁ B hml ht hP s₁ hh0 (Stand.of_body B)
    exact ⟨t, o, a1, b1, b2, b3⟩
/-- the table of a body with handlers -/
theorem vx_table {p : Program} {x y : MethodName} {S : Spec} {cc bytes : ByteArray} {maxL maxL' : Nat} {ret ret' : Option FieldType} {e : Env} {s s₁ : State} {m : MethodId} {args : Array Value} {below : List Frame} {meth : Method} {c : Code} {hh : List (Nat × Nat × Nat × Nat)}
    (B : BodyLoose p l y S cc maxL ret e s m args below meth c s₁) (h : (Cond.codeWith y bytes maxL' ret' hh).before args s = true) : c.exceptionTable.toList = tableOf hh := by
  obtain ⟨m9, meth9, c9, hn9, h1, h2, -, -, h6, -⟩ := Cond.codeWith_spec h
  cases Option.some.inj (hn9.symm.trans B.named)
  cases Option.some.inj (h1.symm.trans B.method)
  cases Option.some.inj (h2.symm.trans (Stand.of_body B).code)
  rw [← h6, table_eq]
end Bodies
end VXA
/-! ===== END ===== -/
/-! ===== BEGIN a static call of a method with an exception table ===== -/
section VXS
variable {p : Program} {l : Launch} {e : Env} {R : Room} {s : State} {m : MethodId} {args : Array Value} {below : List Frame} {meth : Method} {c : Code} {T : State} {H : Heap} {locs : List Loc} {cells slots : Nat}
abbrev vx_CSW (R : Room) (s : State) (args : Array Value) (own : String) (index : Nat) (y : MethodName) (bytes : ByteArray) (maxL : Nat) (ret : Option FieldType) (hh : List (Nat × Nat × Nat × Nat)) (ws : List Cond) (rm : Room) (mc ms n : Nat) : Prop :=
  (rm.cells = mc ∧ rm.slots = ms ∧ rm.frames + 1 ≤ R.frames ∧ 8 + (maxL + 11) + rm.locals ≤ R.locals ∧ (∀ w ∈ ws, ∀ (a' : Array Value) (U : State), s.WarmedH U.vm → w.before a' U = true) ∧ Cond.codeWith y bytes maxL ret hh ∈ ws) ∧
  (Cond.codeWith y bytes maxL ret hh).before args s = true ∧ (Cond.initialized y.cls).before args s = true ∧ (y.cls ≠ "java/lang/invoke/MethodHandle" ∧ y.cls ≠ "java/lang/invoke/VarHandle") ∧
  (∀ sig, parseMethodDescriptor y.desc = some sig → n = sig.parameters.length) ∧ (Cond.methodLink own index y).before args s = true ∧ (Cond.static y).before args s = true
theorem vx_cwSW {own : String} {index maxL mc ms : Nat} {y : MethodName} {bytes : ByteArray} {ret : Option FieldType} {hh : List (Nat × Nat × Nat × Nat)} {Ts ws ws' : List Cond} {rm : Room} (n : Nat) (ht : ∀ w ∈ Ts, w.before args s = true) (hT : GoodIn Ts (va_wsS own index y ws)) (hw : ws = Cond.codeWith y bytes maxL ret hh :: ws') (hrc : rm.cells = mc) (hrs : rm.slots = ms)
    (hd : y.cls ≠ "java/lang/invoke/MethodHandle" ∧ y.cls ≠ "java/lang/invoke/VarHandle" ∧ (parseMethodDescriptor y.desc).map (fun d => d.parameters.length) = some n) (hR : rm.frames + 1 ≤ R.frames ∧ 8 + (maxL + 11) + rm.locals ≤ R.locals) :
    vx_CSW R s args own index y bytes maxL ret hh ws rm mc ms n := by
  have ok : ∀ w ∈ va_wsS own index y ws, w.before args s = true := fun w h => ht w (hT w h).1
  have hG : GoodIn Ts ws := fun w h => hT w (by unfold va_wsS; exact List.mem_append_right _ h)
  have hc : Cond.codeWith y bytes maxL ret hh ∈ ws := by rw [hw]; exact List.mem_cons_self
  refine ⟨⟨hrc, hrs, hR.1, hR.2, pay_in ht hG, hc⟩, ht _ (hG _ hc).1, ok _ (by simp [va_wsS]), ⟨hd.1, hd.2.1⟩, fun sig h => ?_, ok _ (by simp [va_wsS]), ok _ (by simp [va_wsS])⟩
  have h2 := hd.2.2
  rw [h] at h2
  exact (Option.some.inj h2).symm
theorem vx_callSW (X : Stand p l e R s m args below meth c T locs cells slots) (hexec : p.tables.exec = Jvm.exec) {own : String} {index : Nat} {y : MethodName} {bytes : ByteArray} {maxL : Nat} {ret : Option FieldType} {hh : List (Nat × Nat × Nat × Nat)}
    (hown : s.vm.findClass own = some m.cls) (hlink : (Cond.methodLink own index y).before args s = true) (hstat : (Cond.static y).before args s = true) (hinit : (Cond.initialized y.cls).before args s = true)
    (hcode : (Cond.codeWith y bytes maxL ret hh).before args s = true) (hy : y.cls ≠ "java/lang/invoke/MethodHandle" ∧ y.cls ≠ "java/lang/invoke/VarHandle")
    {W9 : Nat} {Pre : Pt → Array Value → Prop} {Post : Pt → Array Value → Option Value → Pt → Prop} (hK : Back l R p e below s args y 3 W9 Pre Post)
    {g : JFrame} (hg : g.method = m) (hsize : g.locals.size = c.maxLocals) {argsL rest : List Value} (hlen : ∀ sig, parseMethodDescriptor y.desc = some sig → argsL.length = sig.parameters.length)
    (hstack : g.stack = argsL.reverse ++ rest) (hW : 2 * g.monitorRoom + (rest.map fun v => v.category).sum ≤ W9) (hdg : decode c.code g.pc = .ok (.invokestatic index, 3))
    (hpre : ∀ vm₁, s.WarmedH vm₁ → Pre ⟨T.setVm vm₁, locs, cells, slots⟩ argsL.toArray) :
    ∃ (v : Option Value) (vm₁ : Vm) (B : Pt), s.WarmedH vm₁ ∧ Stand p l e R s m args below meth c B.U B.locs B.cells B.slots ∧ Post ⟨T.setVm vm₁, locs, cells, slots⟩ argsL.toArray v B ∧
      ∀ target, Steps p.tables e below (B.U.setTop { g with pc := g.pc + 3, stack := v.toList ++ rest }) target → Steps p.tables e below (T.setTop g) target := by
  obtain ⟨mk, methM, cM, hnamed, hmethM, -, -, -, -, -, -, hsigM⟩ := Cond.codeWith_spec hcode
  have hstatic : methM.isStatic = true := Cond.static_spec hnamed hmethM hstat
  obtain ⟨kP, hkP, -⟩ := className_of_methodNamed hnamed
  have hinitP : kP.init = .initialized := Cond.initialized_spec (findClass_of_methodNamed hnamed) hkP hinit
  obtain ⟨vm₁, X₁, hstep₁⟩ := X.invokestatic hexec hown hlink hnamed hmethM hstatic hkP hinitP hy (g := g) hg (argsL := argsL) (rest := rest) (hlen _ hsigM) hstack hdg
  obtain ⟨v, B, X', hpost, hsteps⟩ := hK m meth c ⟨T.setVm vm₁, locs, cells, slots⟩ { g with stack := rest } (.invokestatic index) mk argsL.toArray X₁ hg hsize hdg hW (X₁.named hnamed) (hpre vm₁ X₁.warmed)
  exact ⟨v, vm₁, B, X₁.warmed, X', hpost, fun target h => hstep₁ _ fun acts => by rw [doInvoke_state]; exact hsteps.trans h⟩
theorem vx_runSW {y : MethodName} {bytes cc : ByteArray} {maxL nL mc ms n index : Nat} {ret : Option FieldType} {hh : List (Nat × Nat × Nat × Nat)} {ws : List Cond} {rm : Room} {Pc : Array Value → State → Prop} {Qc : Array Value → State → Outcome → State → Prop} {free : Addr → Prop} {Ts : List Cond} {own : String} {As rest : List Value} {g : JFrame}
    (S : CallFix p m c cc nL s args Ts own) (hM : Met l y ws rm Pc Qc mc ms free) (cw : vx_CSW R s args own index y bytes maxL ret hh ws rm mc ms n) (hp : PreS s H Pc As)
    (hg : g.method = m) (hn : As.length = n) (hsize : g.locals.size = nL) (hstack : g.stack = As.reverse ++ rest) (hW : 2 * g.monitorRoom + (rest.map fun v => v.category).sum ≤ 8) (hdg : decode cc g.pc = .ok (.invokestatic index, 3)) (hf : cells + mc ≤ R.cells ∧ slots + ms ≤ R.slots) :
    va_Run p l e R s m args below meth c H locs cells slots mc ms g rest (Qc As.toArray) (free) := by
  obtain ⟨⟨hrc, hrs, hfr, hlo, hws, hcw⟩, hcode, hini, hy, hlen, hl, hstt⟩ := cw
  have hK : Back l R p e below s args y 3 8 (PreOf R mc ms Pc) (PostOf Qc mc ms free) := va_backW (hh := hh) (bytes := bytes) (maxL := maxL) (ret := ret) hM hp.1 hrc hrs hfr hlo hws hcw (fun a' U hW => word_at hW (Or.inl (by first | rfl | simp [Cond.onTables, Cond.keeps, Cond.steady])) hini)
  obtain ⟨hx, hb, hml, ho, -⟩ := S
  intro T hT X
  obtain ⟨v, vm₁, ⟨U', l2, c2, s2⟩, hW₁, X', ⟨g', mk, t, L, e1, e2, hq, h1, hL, h2, h3⟩, st⟩ := vx_callSW X hx (hh := hh) (bytes := bytes) (maxL := maxL) (ret := ret) ho hl hstt hini hcode hy hK hg (hsize.trans hml.symm) (argsL := As) (rest := rest) (fun sig h => hn.trans (hlen sig h)) hstack hW (by rw [hb]; exact hdg)
    (fun vm₁ hW₁ => ⟨hf.1, hf.2, hp.2 (T.setVm vm₁) hT hW₁⟩)
  dsimp only [Pt.U, Pt.locs, Pt.cells, Pt.slots] at X' e1 e2 h1 h2 h3 st
  subst h1; subst h2; subst h3
  exact ⟨v, (T.setVm vm₁).calling g' mk As.toArray, t, U', L, hT, X', hL, e1, e2, hq, st⟩
/-- not caught here, past rows that name other classes: it goes on to the caller -/
theorem vx_outP {p : Program} {l : Launch} {e : Env} {R : Room} {s : State} {m : MethodId} {args : Array Value} {below : List Frame} {meth : Method} {c : Code} {H : Heap} {locs : List Loc} {cells slots : Nat} {free : Addr → Prop} {ls : Array Slot} {rest : List Value} {Qc : Array Value → State → Outcome → State → Prop} {XC : String → State → State → Prop}
    {pc : Nat} {own E : String} {ce : Cell} {q : Addr} {mc ms : Nat} (hown : s.vm.findClass own = some m.cls) (hlocks : meth.locks = false)
    (hpass : ∀ z ∈ c.exceptionTable.toList, covers z pc = false ∨ (z.catchType ≠ 0 ∧ ∃ nm : String, (Cond.classLink own z.catchType nm).before args s = true ∧ va_Nc E nm s)) (hcell : H[q]? = some ce) (hv : ce.vm = .none) (hcl : s.vm.findClass E = some ce.cls)
    (hx : ∀ t : State, t.heap = H → s.vm.Alike t.vm → XC E s t) (hf : ∀ z ∈ locs, free z.base) (hc : cells ≤ mc) (hs : slots ≤ ms) :
    vx_W p l e R s m args below meth c H locs cells slots (vx_MQ below Qc XC args s mc ms free) (F0 m pc ls rest) q := by
  intro T hT X
  have hpl : e.platform.magicAccessors = ({} : Platform).magicAccessors := by rw [X.admits.platform]
  obtain ⟨vm', hW', X', st⟩ := X.outThrough hlocks q (g := F0 m pc ls rest) rfl rfl rfl (cell := ce) (by rw [hT]; exact hcell) (by rw [hv]; rfl)
    (by obtain ⟨k9, h9, -⟩ := Vm.findClass_spec hcl; exact ⟨k9, h9⟩) (fun z hz => by
      rcases hpass z hz with h | ⟨hz0, nm, hl1, hn1⟩
      · exact Or.inl h
      · obtain ⟨c6, hc6, hcl6⟩ := Cond.classLink_spec hown hl1 e.platform hpl
        obtain ⟨a8, b8, h1, h2, h3⟩ := hn1
        cases Option.some.inj (h1.symm.trans hcl)
        cases Option.some.inj (h2.symm.trans hc6)
        exact Or.inr ⟨hz0, _, hcl6, h3⟩)
  obtain ⟨g₀, hfr⟩ := X'.frames_eq
  have hcell9 : ((T.setVm vm').setFrames (.throwing q :: below)).heap[q]? = some ce := by
    show T.heap[q]? = some ce
    rw [hT]; exact hcell
  have hend : Ended ((T.setVm vm').setFrames (.throwing q :: below)) below (.threw q) := State.frames_setFrames _ (State.cur_lt_of_frames hfr)
  refine ⟨(T.setVm vm').setFrames (.throwing q :: below), ?_, .threw q, X'.here.running, hend, Or.inr ⟨q, rfl, E, ce, locs, hx _ hT (X'.ends _).1.alike, hcell9, hv, hcl, (X'.ends _).1, (X'.ends _).2.mono hc hs, hf⟩⟩
  rw [X.pushThrowing_eq]
  exact st
/-- a thing of a world lies in the heap -/
theorem vx_lt {D : va_G} {cl : List vw_C} {ws : va_W} {H1 : Heap} (h : va_P D cl ws H1) {k : Nat} {q : Nat × va_E} (hk : ws[k]? = some q) : q.1 < H1.size := (h k q hk).lt
end VXS
/-! ===== END ===== -/
/-! ===== BEGIN methods with a table of their own: called by a name, returning or throwing ===== -/
section VXH
/-! vx_backW, vx_callVX, vx_callSX, vx_callVW, vx_runVW, vx_runVX, vx_runSX, vx_ofWH follow the same proofs as their sisters above (Free/Laws.lean, Shelf42/LK1.lean); vx_outP calls Shelf42/NT130.lean (outThrough). -/
section
variable {l : Launch} {R : Room} {p : Program} {e : Env} {below : List Frame} {s : State} {sargs : Array Value} {y : MethodName} {len W9 : Nat}
theorem vx_backW {ws : List Cond} {rm : Room} {Pc : Array Value → State → Prop} {Qc : Array Value → State → Outcome → State → Prop} {XC : String → State → State → Prop} {mc ms : Nat} {free : Addr → Prop} {bytes : ByteArray} {maxL : Nat} {ret : Option FieldType} {hh : List (Nat × Nat × Nat × Nat)}
    (hM : vx_Met l y ws rm Pc Qc XC mc ms free) (hblind : FrameBlind Pc) (hrc : rm.cells = mc) (hrs : rm.slots = ms)
    (hframes : rm.frames + 1 ≤ R.frames) (hlocals : W9 + (maxL + 11) + rm.locals ≤ R.locals)
    (hws : ∀ w ∈ ws, ∀ a' U, s.WarmedH U.vm → w.before a' U = true) (hcode : Cond.codeWith y bytes maxL ret hh ∈ ws) (hinit : ∀ a' U, s.WarmedH U.vm → (Cond.initialized y.cls).before a' U = true) :
    vx_Back l R p e below s sargs y len W9 (PreOf R mc ms Pc) (PostOf Qc mc ms free) (vx_Post XC mc ms free) := by
  intro m meth c A g ig mk a X hg hsize hdg hW hn hp
  have h1 : (headSpec ws rm).pre.before a A.U = true := atoms_intro fun w hw => hws w hw _ _ X.warmed
  have h2 : (Cond.codeWith y bytes maxL ret hh).before a A.U = true := hws _ hcode _ _ X.warmed
  have h3 : (Cond.initialized y.cls).before a A.U = true := hinit _ _ X.warmed
  have h4 : A.cells + (headSpec ws rm).room.cells ≤ R.cells := by rw [show (headSpec ws rm).room.cells = mc from hrc]; exact hp.1
  have h5 : A.slots + (headSpec ws rm).room.slots ≤ R.slots := by rw [show (headSpec ws rm).room.slots = ms from hrs]; exact hp.2.1
  have hPc : Pc a (A.U.calling g mk a) := hblind _ _ _ _ hp.2.2
  obtain ⟨U, Ls, c0, s0⟩ := A
  dsimp only [Pt.U, Pt.locs, Pt.cells, Pt.slots] at h1 h2 h3 h4 h5 X hn hPc ⊢
  obtain ⟨m9, methY, cY, hn9, hmY, hcY, -, hlY, -⟩ := Cond.codeWith_spec h2
  cases Option.some.inj (hn9.symm.trans hn)
  obtain ⟨kY, hkY, -⟩ := className_of_methodNamed hn
  have hinitY : kY.init = .initialized := Cond.initialized_spec (findClass_of_methodNamed hn) hkY h3
  have h : At U g.method c below := by rw [hg]; exact X.here
  have hlocals9 : W9 + (maxL + 11) + (headSpec ws rm).room.locals ≤ R.locals := hlocals
  have happ : (headSpec ws rm).appliesLoose y e.platform (U.calling g mk a) = true :=
    Spec.appliesLoose_calling (g := g) h hdg hn hkY hinitY
      (X.room_calling (g := g) (R' := (headSpec ws rm).room) hsize hmY hcY hframes (by rw [hlY]; omega) h4 h5) h1
  obtain ⟨mid, hmid⟩ := h.above
  have hfr : (U.setTop g).frames = (.java g :: mid) ++ below := by rw [State.frames_setTop' g h.top, hmid]; rfl
  obtain ⟨o, s₂, hsteps, -, hend, hq⟩ := Steps.callFree hM p X.admits X.cas X.clock (acts := []) hfr happ hPc trivial
  have hq' : vx_Q Qc XC mc ms free a (U.calling g mk a) o s₂ := hq
  rw [State.frames_setTop' g h.top] at hend
  obtain ⟨g₀, hg0⟩ := Option.isSome_iff_exists.mp h.top
  obtain ⟨r, hr⟩ := State.topJava?_eq_some.mp hg0
  have hr' : (({ U with heap := s₂.heap, slotsUsed := s₂.slotsUsed } : State).setVm s₂.vm).frames = .java g₀ :: r := hr
  rcases hq' with ⟨hqc, L, hfe, hL⟩ | ⟨q, rfl, E, ce, L, hx, hce, hcv, hcl, hW₂, hsm, hL⟩
  · obtain ⟨⟨v, rfl⟩, hW₂, e2, q2, q3, q4, q5, q6⟩ := id hfe
    have e3 : s₂ = ({ (U.calling g mk a).setFrames s₂.frames with heap := s₂.heap, slotsUsed := s₂.slotsUsed } : State).setVm s₂.vm := by
      have : s₂ = ({ s₂ with vm := (U.calling g mk a).vm } : State).setVm s₂.vm := rfl
      rw [e2] at this
      exact this
    obtain ⟨c₂, i₂, len₂, hc₂, hd₂, hf₂⟩ := hend
    have hW' : U.WarmedH s₂.vm := hW₂
    have hcc : c₂ = c := by
      have h1 : s₂.code? g.method = U.code? g.method := by
        rw [State.code?_eq, State.code?_eq, hW'.alike.method?]
      exact Option.some.inj (hc₂.symm.trans (h1.trans h.code))
    subst hcc
    have hlen : len₂ = len := by rw [hdg] at hd₂; cases hd₂; rfl
    subst hlen
    have hs₂ : s₂ = (({ U with heap := s₂.heap, slotsUsed := s₂.slotsUsed } : State).setVm s₂.vm).setTop { g with pc := g.pc + len₂, stack := v.toList ++ g.stack } := by
      refine e3.trans ?_
      rw [hf₂, State.calling_eq h.top, State.setFrames_setFrames, State.setTop_of_frames _ hr', hr]
      rfl
    have hsame : U.sameButNew ({ U with heap := s₂.heap, slotsUsed := s₂.slotsUsed } : State) L mc ms := by
      refine ⟨?_, q2, q3, q4, q5, q6⟩
      obtain ⟨t, ht, -⟩ := State.frames_cons hr
      show ({ U with heap := s₂.heap, slotsUsed := s₂.slotsUsed } : State) = { U.setFrames U.frames with heap := s₂.heap, slotsUsed := s₂.slotsUsed }
      rw [State.setFrames_self ht]
    subst hg
    refine Or.inl ⟨v, ⟨(({ U with heap := s₂.heap, slotsUsed := s₂.slotsUsed } : State).setVm s₂.vm), Ls ++ L, c0 + mc, s0 + ms⟩,
      ⟨X.admits, X.cas, X.clock, X.frames, X.room, X.hears, X.method, X.code, (X.here.setHeapUsed s₂.heap s₂.slotsUsed).setVm hW'.alike, X.tail, State.WarmedH.trans X.warmed hW', X.limits, X.bytes, X.same.trans (hsame.setVm s.vm)⟩,
      ⟨g, mk, s₂, L, rfl, rfl, hqc, rfl, hL, rfl, rfl⟩, ?_⟩
    show Steps p.tables e below _ ((({ U with heap := s₂.heap, slotsUsed := s₂.slotsUsed } : State).setVm s₂.vm).setTop { g with pc := g.pc + len₂, stack := v.toList ++ g.stack })
    rw [← hs₂]
    exact hsteps
  · obtain ⟨e2, q2, q3, q4, q5, q6⟩ := id hsm
    have e3 : s₂ = ({ (U.calling g mk a).setFrames s₂.frames with heap := s₂.heap, slotsUsed := s₂.slotsUsed } : State).setVm s₂.vm := by
      have : s₂ = ({ s₂ with vm := (U.calling g mk a).vm } : State).setVm s₂.vm := rfl
      rw [e2] at this
      exact this
    have hf₂ : s₂.frames = .throwing q :: .java g :: U.frames.tail := hend
    have hW' : U.WarmedH s₂.vm := hW₂
    have hs₂ : s₂ = ((({ U with heap := s₂.heap, slotsUsed := s₂.slotsUsed } : State).setVm s₂.vm).setTop g).pushFrame (.throwing q) := by
      refine e3.trans ?_
      rw [hf₂, State.calling_eq h.top, State.setFrames_setFrames, State.pushFrame, State.frames_setTop _ hr', State.setTop_of_frames _ hr', State.setFrames_setFrames, hr]
      rfl
    have hsame : U.sameButNew ({ U with heap := s₂.heap, slotsUsed := s₂.slotsUsed } : State) L mc ms := by
      refine ⟨?_, q2, q3, q4, q5, q6⟩
      obtain ⟨t, ht, -⟩ := State.frames_cons hr
      show ({ U with heap := s₂.heap, slotsUsed := s₂.slotsUsed } : State) = { U.setFrames U.frames with heap := s₂.heap, slotsUsed := s₂.slotsUsed }
      rw [State.setFrames_self ht]
    subst hg
    refine Or.inr ⟨q, ⟨(({ U with heap := s₂.heap, slotsUsed := s₂.slotsUsed } : State).setVm s₂.vm), Ls ++ L, c0 + mc, s0 + ms⟩,
      ⟨X.admits, X.cas, X.clock, X.frames, X.room, X.hears, X.method, X.code, (X.here.setHeapUsed s₂.heap s₂.slotsUsed).setVm hW'.alike, X.tail, State.WarmedH.trans X.warmed hW', X.limits, X.bytes, X.same.trans (hsame.setVm s.vm)⟩,
      ⟨g, mk, s₂, L, E, ce, rfl, rfl, hx, hce, hcv, hcl, rfl, hL, rfl, rfl⟩, ?_⟩
    show Steps p.tables e below _ (((({ U with heap := s₂.heap, slotsUsed := s₂.slotsUsed } : State).setVm s₂.vm).setTop g).pushFrame (.throwing q))
    rw [← hs₂]
    exact hsteps
end
variable {p : Program} {l : Launch} {e : Env} {R : Room} {s : State} {m : MethodId} {args : Array Value} {below : List Frame} {meth : Method} {c : Code} {T : State} {H : Heap} {locs : List Loc} {cells slots : Nat}
theorem vx_callVX (X : Stand p l e R s m args below meth c T locs cells slots) (hexec : p.tables.exec = Jvm.exec) {own C : String} {index : Nat} {y : MethodName} {bytes : ByteArray} {maxL : Nat} {ret : Option FieldType} {hh : List (Nat × Nat × Nat × Nat)}
    (hown : s.vm.findClass own = some m.cls) (hlink : (Cond.methodLink own index y).before args s = true) (hinst : (Cond.instanceMethod y).before args s = true) (hsel : (Cond.selects C y y).before args s = true)
    (hcode : (Cond.codeWith y bytes maxL ret hh).before args s = true) (hy : y.cls ≠ "java/lang/invoke/MethodHandle" ∧ y.cls ≠ "java/lang/invoke/VarHandle")
    {W9 : Nat} {Pre : Pt → Array Value → Prop} {Post : Pt → Array Value → Option Value → Pt → Prop} {PostX : Pt → Array Value → Addr → Pt → Prop} (hK : vx_Back l R p e below s args y 3 W9 Pre Post PostX)
    {b : Addr} {cellB : Cell} (hcell : T.heap[b]? = some cellB) (hobj : cellB.vm.isStatics = false) (hcls : s.vm.findClass C = some cellB.cls)
    {g : JFrame} (hg : g.method = m) (hsize : g.locals.size = c.maxLocals) {argsL rest : List Value} (hlen : ∀ sig, parseMethodDescriptor y.desc = some sig → argsL.length = sig.parameters.length)
    (hstack : g.stack = argsL.reverse ++ .ref b :: rest) (hW : 2 * g.monitorRoom + (rest.map fun v => v.category).sum ≤ W9) (hdg : decode c.code g.pc = .ok (.invokevirtual index, 3))
    (hpre : ∀ vm₁, s.WarmedH vm₁ → Pre ⟨T.setVm vm₁, locs, cells, slots⟩ (Value.ref b :: argsL).toArray) :
    (∃ (v : Option Value) (vm₁ : Vm) (B : Pt), s.WarmedH vm₁ ∧ Stand p l e R s m args below meth c B.U B.locs B.cells B.slots ∧ Post ⟨T.setVm vm₁, locs, cells, slots⟩ (Value.ref b :: argsL).toArray v B ∧
      ∀ target, Steps p.tables e below (B.U.setTop { g with pc := g.pc + 3, stack := v.toList ++ rest }) target → Steps p.tables e below (T.setTop g) target) ∨
    (∃ (q : Addr) (vm₁ : Vm) (B : Pt), s.WarmedH vm₁ ∧ Stand p l e R s m args below meth c B.U B.locs B.cells B.slots ∧ PostX ⟨T.setVm vm₁, locs, cells, slots⟩ (Value.ref b :: argsL).toArray q B ∧
      Steps p.tables e below (T.setTop g) ((B.U.setTop { g with stack := rest }).pushFrame (.throwing q))) := by
  obtain ⟨mk, methM, hnamed, hmethM, hstM, habM⟩ := Cond.instanceMethod_spec hinst
  obtain ⟨m8, methM', cM, hn8, hmethM', -, -, -, -, -, -, hsigM⟩ := Cond.codeWith_spec hcode
  cases Option.some.inj (hn8.symm.trans hnamed)
  cases hmethM.symm.trans hmethM'
  obtain ⟨c2, r2, m2, q1, q2, q3, q4, kP, hkP, hkPi⟩ := Cond.selects_spec hsel
  cases hcls.symm.trans q1
  cases (State.methodFound?_of_named hnamed hy).symm.trans q2
  cases hnamed.symm.trans q3
  have hselP : selectMethod e.platform s.vm cellB.cls mk = .method mk := by rw [Launch.admits_selectMethod X.admits]; exact q4
  obtain ⟨vm₁, X₁, hstep₁⟩ := X.invokevirtual hexec hown hlink hnamed hmethM hstM hkP hkPi hy (a := b) (cell := cellB) hcell
    (fun z h => by rw [h] at hobj; cases hobj) hselP hmethM habM hkP hkPi (g := g) hg (argsL := argsL) (rest := rest) (hlen _ hsigM) hstack hdg
  rcases hK m meth c ⟨T.setVm vm₁, locs, cells, slots⟩ { g with stack := rest } (.invokevirtual index) mk (Value.ref b :: argsL).toArray X₁ hg hsize hdg hW (X₁.named hnamed) (hpre vm₁ X₁.warmed) with ⟨v, B, X', hpost, hsteps⟩ | ⟨q, B, X', hpost, hsteps⟩
  · exact Or.inl ⟨v, vm₁, B, X₁.warmed, X', hpost, fun target h => hstep₁ _ fun acts => by rw [doInvoke_state]; exact hsteps.trans h⟩
  · exact Or.inr ⟨q, vm₁, B, X₁.warmed, X', hpost, hstep₁ _ fun acts => by rw [doInvoke_state]; exact hsteps⟩
theorem vx_callSX (X : Stand p l e R s m args below meth c T locs cells slots) (hexec : p.tables.exec = Jvm.exec) {own : String} {index : Nat} {y : MethodName} {bytes : ByteArray} {maxL : Nat} {ret : Option FieldType} {hh : List (Nat × Nat × Nat × Nat)}
    (hown : s.vm.findClass own = some m.cls) (hlink : (Cond.methodLink own index y).before args s = true) (hstat : (Cond.static y).before args s = true) (hinit : (Cond.initialized y.cls).before args s = true)
    (hcode : (Cond.codeWith y bytes maxL ret hh).before args s = true) (hy : y.cls ≠ "java/lang/invoke/MethodHandle" ∧ y.cls ≠ "java/lang/invoke/VarHandle")
    {W9 : Nat} {Pre : Pt → Array Value → Prop} {Post : Pt → Array Value → Option Value → Pt → Prop} {PostX : Pt → Array Value → Addr → Pt → Prop} (hK : vx_Back l R p e below s args y 3 W9 Pre Post PostX)
    {g : JFrame} (hg : g.method = m) (hsize : g.locals.size = c.maxLocals) {argsL rest : List Value} (hlen : ∀ sig, parseMethodDescriptor y.desc = some sig → argsL.length = sig.parameters.length)
    (hstack : g.stack = argsL.reverse ++ rest) (hW : 2 * g.monitorRoom + (rest.map fun v => v.category).sum ≤ W9) (hdg : decode c.code g.pc = .ok (.invokestatic index, 3))
    (hpre : ∀ vm₁, s.WarmedH vm₁ → Pre ⟨T.setVm vm₁, locs, cells, slots⟩ argsL.toArray) :
    (∃ (v : Option Value) (vm₁ : Vm) (B : Pt), s.WarmedH vm₁ ∧ Stand p l e R s m args below meth c B.U B.locs B.cells B.slots ∧ Post ⟨T.setVm vm₁, locs, cells, slots⟩ argsL.toArray v B ∧
      ∀ target, Steps p.tables e below (B.U.setTop { g with pc := g.pc + 3, stack := v.toList ++ rest }) target → Steps p.tables e below (T.setTop g) target) ∨
    (∃ (q : Addr) (vm₁ : Vm) (B : Pt), s.WarmedH vm₁ ∧ Stand p l e R s m args below meth c B.U B.locs B.cells B.slots ∧ PostX ⟨T.setVm vm₁, locs, cells, slots⟩ argsL.toArray q B ∧
      Steps p.tables e below (T.setTop g) ((B.U.setTop { g with stack := rest }).pushFrame (.throwing q))) := by
  obtain ⟨mk, methM, cM, hnamed, hmethM, -, -, -, -, -, -, hsigM⟩ := Cond.codeWith_spec hcode
  have hstatic : methM.isStatic = true := Cond.static_spec hnamed hmethM hstat
  obtain ⟨kP, hkP, -⟩ := className_of_methodNamed hnamed
  have hinitP : kP.init = .initialized := Cond.initialized_spec (findClass_of_methodNamed hnamed) hkP hinit
  obtain ⟨vm₁, X₁, hstep₁⟩ := X.invokestatic hexec hown hlink hnamed hmethM hstatic hkP hinitP hy (g := g) hg (argsL := argsL) (rest := rest) (hlen _ hsigM) hstack hdg
  rcases hK m meth c ⟨T.setVm vm₁, locs, cells, slots⟩ { g with stack := rest } (.invokestatic index) mk argsL.toArray X₁ hg hsize hdg hW (X₁.named hnamed) (hpre vm₁ X₁.warmed) with ⟨v, B, X', hpost, hsteps⟩ | ⟨q, B, X', hpost, hsteps⟩
  · exact Or.inl ⟨v, vm₁, B, X₁.warmed, X', hpost, fun target h => hstep₁ _ fun acts => by rw [doInvoke_state]; exact hsteps.trans h⟩
  · exact Or.inr ⟨q, vm₁, B, X₁.warmed, X', hpost, hstep₁ _ fun acts => by rw [doInvoke_state]; exact hsteps⟩
theorem vx_callVW (X : Stand p l e R s m args below meth c T locs cells slots) (hexec : p.tables.exec = Jvm.exec) {own C : String} {index : Nat} {y : MethodName} {bytes : ByteArray} {maxL : Nat} {ret : Option FieldType} {hh : List (Nat × Nat × Nat × Nat)}
    (hown : s.vm.findClass own = some m.cls) (hlink : (Cond.methodLink own index y).before args s = true) (hinst : (Cond.instanceMethod y).before args s = true) (hsel : (Cond.selects C y y).before args s = true)
    (hcode : (Cond.codeWith y bytes maxL ret hh).before args s = true) (hy : y.cls ≠ "java/lang/invoke/MethodHandle" ∧ y.cls ≠ "java/lang/invoke/VarHandle")
    {W9 : Nat} {Pre : Pt → Array Value → Prop} {Post : Pt → Array Value → Option Value → Pt → Prop} (hK : Back l R p e below s args y 3 W9 Pre Post)
    {b : Addr} {cellB : Cell} (hcell : T.heap[b]? = some cellB) (hobj : cellB.vm.isStatics = false) (hcls : s.vm.findClass C = some cellB.cls)
    {g : JFrame} (hg : g.method = m) (hsize : g.locals.size = c.maxLocals) {argsL rest : List Value} (hlen : ∀ sig, parseMethodDescriptor y.desc = some sig → argsL.length = sig.parameters.length)
    (hstack : g.stack = argsL.reverse ++ .ref b :: rest) (hW : 2 * g.monitorRoom + (rest.map fun v => v.category).sum ≤ W9) (hdg : decode c.code g.pc = .ok (.invokevirtual index, 3))
    (hpre : ∀ vm₁, s.WarmedH vm₁ → Pre ⟨T.setVm vm₁, locs, cells, slots⟩ (Value.ref b :: argsL).toArray) :
    ∃ (v : Option Value) (vm₁ : Vm) (B : Pt), s.WarmedH vm₁ ∧ Stand p l e R s m args below meth c B.U B.locs B.cells B.slots ∧ Post ⟨T.setVm vm₁, locs, cells, slots⟩ (Value.ref b :: argsL).toArray v B ∧
      ∀ target, Steps p.tables e below (B.U.setTop { g with pc := g.pc + 3, stack := v.toList ++ rest }) target → Steps p.tables e below (T.setTop g) target := by
  obtain ⟨mk, methM, hnamed, hmethM, hstM, habM⟩ := Cond.instanceMethod_spec hinst
  obtain ⟨m8, methM', cM, hn8, hmethM', -, -, -, -, -, -, hsigM⟩ := Cond.codeWith_spec hcode
  cases Option.some.inj (hn8.symm.trans hnamed)
  cases hmethM.symm.trans hmethM'
  obtain ⟨c2, r2, m2, q1, q2, q3, q4, kP, hkP, hkPi⟩ := Cond.selects_spec hsel
  cases hcls.symm.trans q1
  cases (State.methodFound?_of_named hnamed hy).symm.trans q2
  cases hnamed.symm.trans q3
  have hselP : selectMethod e.platform s.vm cellB.cls mk = .method mk := by rw [Launch.admits_selectMethod X.admits]; exact q4
  obtain ⟨vm₁, X₁, hstep₁⟩ := X.invokevirtual hexec hown hlink hnamed hmethM hstM hkP hkPi hy (a := b) (cell := cellB) hcell
    (fun z h => by rw [h] at hobj; cases hobj) hselP hmethM habM hkP hkPi (g := g) hg (argsL := argsL) (rest := rest) (hlen _ hsigM) hstack hdg
  obtain ⟨v, B, X', hpost, hsteps⟩ := hK m meth c ⟨T.setVm vm₁, locs, cells, slots⟩ { g with stack := rest } (.invokevirtual index) mk (Value.ref b :: argsL).toArray X₁ hg hsize hdg hW (X₁.named hnamed) (hpre vm₁ X₁.warmed)
  exact ⟨v, vm₁, B, X₁.warmed, X', hpost, fun target h => hstep₁ _ fun acts => by rw [doInvoke_state]; exact hsteps.trans h⟩
abbrev vx_CVW (R : Room) (s : State) (args : Array Value) (own C : String) (index : Nat) (y : MethodName) (bytes : ByteArray) (maxL : Nat) (ret : Option FieldType) (hh : List (Nat × Nat × Nat × Nat)) (ws : List Cond) (rm : Room) (mc ms n : Nat) : Prop :=
  (rm.cells = mc ∧ rm.slots = ms ∧ rm.frames + 1 ≤ R.frames ∧ 8 + (maxL + 11) + rm.locals ≤ R.locals ∧ (∀ w ∈ ws, ∀ (a' : Array Value) (U : State), s.WarmedH U.vm → w.before a' U = true) ∧ Cond.codeWith y bytes maxL ret hh ∈ ws) ∧
  (Cond.codeWith y bytes maxL ret hh).before args s = true ∧ (Cond.initialized y.cls).before args s = true ∧ (y.cls ≠ "java/lang/invoke/MethodHandle" ∧ y.cls ≠ "java/lang/invoke/VarHandle") ∧
  (∀ sig, parseMethodDescriptor y.desc = some sig → n = sig.parameters.length) ∧ (Cond.methodLink own index y).before args s = true ∧ (Cond.instanceMethod y).before args s = true ∧ (Cond.selects C y y).before args s = true
theorem vx_cwVW {own C : String} {index maxL mc ms : Nat} {y : MethodName} {bytes : ByteArray} {ret : Option FieldType} {hh : List (Nat × Nat × Nat × Nat)} {Ts ws ws' : List Cond} {rm : Room} (n : Nat) (ht : ∀ w ∈ Ts, w.before args s = true) (hT : GoodIn Ts (wsV own index C y ws)) (hw : ws = Cond.codeWith y bytes maxL ret hh :: ws') (hrc : rm.cells = mc) (hrs : rm.slots = ms)
    (hd : y.cls = C ∧ y.cls ≠ "java/lang/invoke/MethodHandle" ∧ y.cls ≠ "java/lang/invoke/VarHandle" ∧ (parseMethodDescriptor y.desc).map (fun d => d.parameters.length) = some n) (hR : rm.frames + 1 ≤ R.frames ∧ 8 + (maxL + 11) + rm.locals ≤ R.locals) :
    vx_CVW R s args own C index y bytes maxL ret hh ws rm mc ms n := by
  obtain ⟨hC, hd⟩ := hd
  subst hC
  have ok : ∀ w ∈ wsV own index y.cls y ws, w.before args s = true := fun w h => ht w (hT w h).1
  have hG : GoodIn Ts ws := fun w h => hT w (by unfold wsV; exact List.mem_append_right _ h)
  have hc : Cond.codeWith y bytes maxL ret hh ∈ ws := by rw [hw]; exact List.mem_cons_self
  refine ⟨⟨hrc, hrs, hR.1, hR.2, pay_in ht hG, hc⟩, ht _ (hG _ hc).1, ok _ (by simp [wsV]), ⟨hd.1, hd.2.1⟩, fun sig h => ?_, ok _ (by simp [wsV]), ok _ (by simp [wsV]), ok _ (by simp [wsV])⟩
  have h2 := hd.2.2
  rw [h] at h2
  exact (Option.some.inj h2).symm
theorem vx_runVW {y : MethodName} {bytes cc : ByteArray} {maxL nL mc ms n index : Nat} {ret : Option FieldType} {hh : List (Nat × Nat × Nat × Nat)} {ws : List Cond} {rm : Room} {Pc : Array Value → State → Prop} {Qc : Array Value → State → Outcome → State → Prop} {free : Addr → Prop} {Ts : List Cond} {own C : String} {b : Addr} {As rest : List Value} {g : JFrame}
    (S : CallFix p m c cc nL s args Ts own) (hM : Met l y ws rm Pc Qc mc ms free) (cw : vx_CVW R s args own C index y bytes maxL ret hh ws rm mc ms n) (hp : PreV s H C b Pc As)
    (hg : g.method = m) (hn : As.length = n) (hsize : g.locals.size = nL) (hstack : g.stack = As.reverse ++ .ref b :: rest) (hW : 2 * g.monitorRoom + (rest.map fun v => v.category).sum ≤ 8) (hdg : decode cc g.pc = .ok (.invokevirtual index, 3)) (hf : cells + mc ≤ R.cells ∧ slots + ms ≤ R.slots) :
    va_Run p l e R s m args below meth c H locs cells slots mc ms g rest (Qc (Value.ref b :: As).toArray) free := by
  obtain ⟨⟨hrc, hrs, hfr, hlo, hws, hcw⟩, hcode, hini, hy, hlen, hl, hin, hse⟩ := cw
  have hK : Back l R p e below s args y 3 8 (PreOf R mc ms Pc) (PostOf Qc mc ms free) := va_backW (hh := hh) (bytes := bytes) (maxL := maxL) (ret := ret) hM hp.1 hrc hrs hfr hlo hws hcw (fun a' U hW => word_at hW (Or.inl (by first | rfl | simp [Cond.onTables, Cond.keeps, Cond.steady])) hini)
  obtain ⟨hx, hb, hml, ho, -⟩ := S
  obtain ⟨-, ⟨cellB, hcB, hoB, hclB⟩, hPc⟩ := hp
  intro T hT X
  obtain ⟨v, vm₁, ⟨U', l2, c2, s2⟩, hW₁, X', ⟨g', mk, t, L, e1, e2, hq, h1, hL, h2, h3⟩, st⟩ := vx_callVW X hx (C := C) (hh := hh) (bytes := bytes) (maxL := maxL) (ret := ret) ho hl hin hse hcode hy hK (by rw [hT]; exact hcB) hoB hclB hg (hsize.trans hml.symm) (argsL := As) (rest := rest) (fun sig h => hn.trans (hlen sig h)) hstack hW (by rw [hb]; exact hdg)
    (fun vm₁ hW₁ => ⟨hf.1, hf.2, hPc (T.setVm vm₁) hT hW₁⟩)
  dsimp only [Pt.U, Pt.locs, Pt.cells, Pt.slots] at X' e1 e2 h1 h2 h3 st
  subst h1; subst h2; subst h3
  exact ⟨v, (T.setVm vm₁).calling g' mk (Value.ref b :: As).toArray, t, U', L, hT, X', hL, e1, e2, hq, st⟩
section
variable {y : MethodName} {bytes cc : ByteArray} {maxL nL mc ms n index : Nat} {ret : Option FieldType} {ws : List Cond} {rm : Room} {Pc : Array Value → State → Prop} {Qc : Array Value → State → Outcome → State → Prop} {XC : String → State → State → Prop} {free : Addr → Prop} {Ts : List Cond} {own C : String} {b : Addr} {As rest : List Value} {g : JFrame}
theorem vx_runVX {hh : List (Nat × Nat × Nat × Nat)} (S : CallFix p m c cc nL s args Ts own) (hM : vx_Met l y ws rm Pc Qc XC mc ms free) (cw : vx_CVW R s args own C index y bytes maxL ret hh ws rm mc ms n) (hp : PreV s H C b Pc As)
    (hg : g.method = m) (hn : As.length = n) (hsize : g.locals.size = nL) (hstack : g.stack = As.reverse ++ .ref b :: rest) (hW : 2 * g.monitorRoom + (rest.map fun v => v.category).sum ≤ 8) (hdg : decode cc g.pc = .ok (.invokevirtual index, 3)) (hf : cells + mc ≤ R.cells ∧ slots + ms ≤ R.slots) :
    vx_Run p l e R s m args below meth c H locs cells slots mc ms g rest (Qc (Value.ref b :: As).toArray) XC free := by
  obtain ⟨⟨hrc, hrs, hfr, hlo, hws, hcw⟩, hcode, hini, hy, hlen, hl, hin, hse⟩ := cw
  have hK : vx_Back l R p e below s args y 3 8 (PreOf R mc ms Pc) (PostOf Qc mc ms free) (vx_Post XC mc ms free) := vx_backW (hh := hh) (bytes := bytes) (maxL := maxL) (ret := ret) hM hp.1 hrc hrs hfr hlo hws hcw (fun a' U hW => word_at hW (Or.inl (by first | rfl | simp [Cond.onTables, Cond.keeps, Cond.steady])) hini)
  obtain ⟨hx, hb, hml, ho, -⟩ := S
  obtain ⟨-, ⟨cellB, hcB, hoB, hclB⟩, hPc⟩ := hp
  intro T hT X
  rcases vx_callVX X hx (C := C) (hh := hh) (bytes := bytes) (maxL := maxL) (ret := ret) ho hl hin hse hcode hy hK (by rw [hT]; exact hcB) hoB hclB hg (hsize.trans hml.symm) (argsL := As) (rest := rest) (fun sig h => hn.trans (hlen sig h)) hstack hW (by rw [hb]; exact hdg)
    (fun vm₁ hW₁ => ⟨hf.1, hf.2, hPc (T.setVm vm₁) hT hW₁⟩) with ⟨v, vm₁, ⟨U', l2, c2, s2⟩, hW₁, X', ⟨g', mk, t, L, e1, e2, hq, h1, hL, h2, h3⟩, st⟩ | ⟨q, vm₁, ⟨U', l2, c2, s2⟩, hW₁, X', ⟨g', mk, t, L, E, ce, e1, e2, hq, hce, hcv, hcl, h1, hL, h2, h3⟩, st⟩
  · dsimp only [Pt.U, Pt.locs, Pt.cells, Pt.slots] at X' e1 e2 h1 h2 h3 st
    subst h1; subst h2; subst h3
    exact Or.inl ⟨v, (T.setVm vm₁).calling g' mk (Value.ref b :: As).toArray, t, U', L, hT, X', hL, e1, e2, hq, st⟩
  · dsimp only [Pt.U, Pt.locs, Pt.cells, Pt.slots] at X' e1 e2 h1 h2 h3 st hcl
    subst h1; subst h2; subst h3
    exact Or.inr ⟨q, (T.setVm vm₁).calling g' mk (Value.ref b :: As).toArray, t, U', L, E, ce, hT, X', hL, e1, e2, hq, hce, hcv, vx_cls hW₁ hcl, st⟩
theorem vx_runSX {hh : List (Nat × Nat × Nat × Nat)} (S : CallFix p m c cc nL s args Ts own) (hM : vx_Met l y ws rm Pc Qc XC mc ms free) (cw : vx_CSW R s args own index y bytes maxL ret hh ws rm mc ms n) (hp : PreS s H Pc As)
    (hg : g.method = m) (hn : As.length = n) (hsize : g.locals.size = nL) (hstack : g.stack = As.reverse ++ rest) (hW : 2 * g.monitorRoom + (rest.map fun v => v.category).sum ≤ 8) (hdg : decode cc g.pc = .ok (.invokestatic index, 3)) (hf : cells + mc ≤ R.cells ∧ slots + ms ≤ R.slots) :
    vx_Run p l e R s m args below meth c H locs cells slots mc ms g rest (Qc As.toArray) XC free := by
  obtain ⟨⟨hrc, hrs, hfr, hlo, hws, hcw⟩, hcode, hini, hy, hlen, hl, hstt⟩ := cw
  have hK : vx_Back l R p e below s args y 3 8 (PreOf R mc ms Pc) (PostOf Qc mc ms free) (vx_Post XC mc ms free) := vx_backW (hh := hh) (bytes := bytes) (maxL := maxL) (ret := ret) hM hp.1 hrc hrs hfr hlo hws hcw (fun a' U hW => word_at hW (Or.inl (by first | rfl | simp [Cond.onTables, Cond.keeps, Cond.steady])) hini)
  obtain ⟨hx, hb, hml, ho, -⟩ := S
  intro T hT X
  rcases vx_callSX X hx (hh := hh) (bytes := bytes) (maxL := maxL) (ret := ret) ho hl hstt hini hcode hy hK hg (hsize.trans hml.symm) (argsL := As) (rest := rest) (fun sig h => hn.trans (hlen sig h)) hstack hW (by rw [hb]; exact hdg)
    (fun vm₁ hW₁ => ⟨hf.1, hf.2, hp.2 (T.setVm vm₁) hT hW₁⟩) with ⟨v, vm₁, ⟨U', l2, c2, s2⟩, hW₁, X', ⟨g', mk, t, L, e1, e2, hq, h1, hL, h2, h3⟩, st⟩ | ⟨q, vm₁, ⟨U', l2, c2, s2⟩, hW₁, X', ⟨g', mk, t, L, E, ce, e1, e2, hq, hce, hcv, hcl, h1, hL, h2, h3⟩, st⟩
  · dsimp only [Pt.U, Pt.locs, Pt.cells, Pt.slots] at X' e1 e2 h1 h2 h3 st
    subst h1; subst h2; subst h3
    exact Or.inl ⟨v, (T.setVm vm₁).calling g' mk As.toArray, t, U', L, hT, X', hL, e1, e2, hq, st⟩
  · dsimp only [Pt.U, Pt.locs, Pt.cells, Pt.slots] at X' e1 e2 h1 h2 h3 st hcl
    subst h1; subst h2; subst h3
    exact Or.inr ⟨q, (T.setVm vm₁).calling g' mk As.toArray, t, U', L, E, ce, hT, X', hL, e1, e2, hq, hce, hcv, vx_cls hW₁ hcl, st⟩
end
end VXH
theorem vx_ofWH {l : Launch} {y : MethodName} {ws ws' : List Cond} {rm : Room} {Pc : Array Value → State → Prop} {Qc : Array Value → State → Outcome → State → Prop} {XC : String → State → State → Prop} {mc ms : Nat} {free : Addr → Prop} {cc : ByteArray} {maxL : Nat} {ret : Option FieldType} {hh : List (Nat × Nat × Nat × Nat)}
    (hy : plainName y.cls = true) (hw : ws = Cond.codeWith y cc maxL ret hh :: ws')
    (body : ∀ p e s m args below meth c s₁, BodyLoose p l y (headSpec ws rm) cc maxL ret e s m args below meth c s₁ → c.maxLocals = maxL → Pc args s →
      W p l e (headSpec ws rm).room s m args below meth c s.heap [] 0 0 (vx_MQ below Qc XC args s mc ms free) (entryFrame m args maxL)) : vx_Met l y ws rm Pc Qc XC mc ms free := by
  refine MetFree.of_bodyS (code := cc) (maxLocals := maxL) (ret := ret) hy ?_ ?_
  · intro args s m h hn
    obtain ⟨m9, meth, c, hn9, h1, h2, h3, h4, -, h5, h6, -⟩ := Cond.codeWith_spec (atoms_spec (ws := ws) h _ (by rw [hw]; exact List.mem_cons_self))
    cases hn.symm.trans hn9
    exact ⟨meth, c, h1, h2, h3, h4, h5, h6⟩
  · intro p e s m args below meth c s₁ B hml hP _
    have hh0 : s₁.heap = s.heap := by rw [B.state]; rfl
    obtain ⟨t, a1, o, b1, b2, b3⟩ := body p e s m args below meth c s₁ B hml hP s₁ hh0 (Stand.of_body B)
    exact ⟨t, o, a1, b1, b2, b3⟩
/-! ===== END ===== -/
end
section
def RX0 : String := "Thicket$Forest"
def TX0 : u_T := fun k => match k with
  | 0 => ("Thicket$Forest", "graph", "LThicket$Graph;", true)
  | 1 => ("Thicket$Forest", "edgeBetween", "[[I", true)
  | 2 => ("Thicket$Forest", "weightSum", "I", false)
  | _ => ("Thicket$Forest", "edgeSum", "I", false)
def tyX0 : Nat → FieldType := fun k => match k with
  | 0 => .object "Thicket$Graph"
  | 1 => .array (.array .int)
  | 2 => .int
  | _ => .int
abbrev wsX00 : List Cond := u_ws RX0 TX0 4
theorem nmX0 : ∀ a, a < 4 → ∀ b, b < 4 → a ≠ b → (TX0 a).2.1 ≠ (TX0 b).2.1 := by decide +kernel
theorem tyX0_ok : ∀ k, k < 4 → parseFieldDescriptor (TX0 k).2.2.1 = some (tyX0 k) := by decide +kernel
abbrev cX0_init : ByteArray := prog_2_method_1_code
def yX0_init : MethodName := ⟨RX0, "<init>", "(LThicket$Graph;)V"⟩
abbrev cX0_weightSum : ByteArray := prog_2_method_2_code
def yX0_weightSum : MethodName := ⟨RX0, "weightSum", "()I"⟩
abbrev cX0_edgeSum : ByteArray := prog_2_method_3_code
def yX0_edgeSum : MethodName := ⟨RX0, "edgeSum", "()I"⟩
abbrev cX0_edgeJoining : ByteArray := prog_2_method_4_code
def yX0_edgeJoining : MethodName := ⟨RX0, "edgeJoining", "(II)I"⟩
abbrev cX0_holds : ByteArray := prog_2_method_5_code
def yX0_holds : MethodName := ⟨RX0, "holds", "(I)Z"⟩
abbrev cX0_link : ByteArray := prog_2_method_6_code
def yX0_link : MethodName := ⟨RX0, "link", "(I)V"⟩
abbrev cX0_cut : ByteArray := prog_2_method_7_code
def yX0_cut : MethodName := ⟨RX0, "cut", "(I)V"⟩
abbrev cX0_write : ByteArray := prog_2_method_8_code
def yX0_write : MethodName := ⟨RX0, "write", "(III)V"⟩
abbrev cX0_countNeighbours : ByteArray := prog_2_method_9_code
def yX0_countNeighbours : MethodName := ⟨RX0, "countNeighbours", "(I)I"⟩
abbrev cX0_neighbourAt : ByteArray := prog_2_method_10_code
def yX0_neighbourAt : MethodName := ⟨RX0, "neighbourAt", "(II)I"⟩
def RX1 : String := "Thicket$ForestAnew"
def TX1 : u_T := fun k => match k with
  | 0 => ("Thicket$ForestAnew", "graph", "LThicket$Graph;", true)
  | 1 => ("Thicket$ForestAnew", "sorted", "[I", true)
  | 2 => ("Thicket$ForestAnew", "groups", "[I", true)
  | 3 => ("Thicket$ForestAnew", "chosen", "[Z", true)
  | 4 => ("Thicket$ForestAnew", "sortedCount", "I", false)
  | _ => ("Thicket$ForestAnew", "weightSum", "I", false)
def tyX1 : Nat → FieldType := fun k => match k with
  | 0 => .object "Thicket$Graph"
  | 1 => .array .int
  | 2 => .array .int
  | 3 => .array .boolean
  | 4 => .int
  | _ => .int
abbrev wsX10 : List Cond := u_ws RX1 TX1 6
theorem nmX1 : ∀ a, a < 6 → ∀ b, b < 6 → a ≠ b → (TX1 a).2.1 ≠ (TX1 b).2.1 := by decide +kernel
theorem tyX1_ok : ∀ k, k < 6 → parseFieldDescriptor (TX1 k).2.2.1 = some (tyX1 k) := by decide +kernel
abbrev cX1_init : ByteArray := prog_3_method_1_code
def yX1_init : MethodName := ⟨RX1, "<init>", "(LThicket$Graph;)V"⟩
abbrev cX1_weightSum : ByteArray := prog_3_method_2_code
def yX1_weightSum : MethodName := ⟨RX1, "weightSum", "()I"⟩
abbrev cX1_build : ByteArray := prog_3_method_3_code
def yX1_build : MethodName := ⟨RX1, "build", "(I)V"⟩
abbrev cX1_clear : ByteArray := prog_3_method_4_code
def yX1_clear : MethodName := ⟨RX1, "clear", "()V"⟩
abbrev cX1_sortPresentBut : ByteArray := prog_3_method_5_code
def yX1_sortPresentBut : MethodName := ⟨RX1, "sortPresentBut", "(I)V"⟩
abbrev cX1_insert : ByteArray := prog_3_method_6_code
def yX1_insert : MethodName := ⟨RX1, "insert", "(I)V"⟩
abbrev cX1_chooseIfItJoins : ByteArray := prog_3_method_7_code
def yX1_chooseIfItJoins : MethodName := ⟨RX1, "chooseIfItJoins", "(I)V"⟩
abbrev cX1_groupOf : ByteArray := prog_3_method_8_code
def yX1_groupOf : MethodName := ⟨RX1, "groupOf", "(I)I"⟩
abbrev cX1_firstChosenOutside : ByteArray := prog_3_method_9_code
def yX1_firstChosenOutside : MethodName := ⟨RX1, "firstChosenOutside", "(LThicket$Forest;)I"⟩
def RX2 : String := "Thicket$ForestKeeper"
def TX2 : u_T := fun k => match k with
  | 0 => ("Thicket$ForestKeeper", "graph", "LThicket$Graph;", true)
  | 1 => ("Thicket$ForestKeeper", "forest", "LThicket$Forest;", true)
  | _ => ("Thicket$ForestKeeper", "tree", "LThicket$RootedTree;", true)
def tyX2 : Nat → FieldType := fun k => match k with
  | 0 => .object "Thicket$Graph"
  | 1 => .object "Thicket$Forest"
  | _ => .object "Thicket$RootedTree"
abbrev wsX20 : List Cond := u_ws RX2 TX2 3
theorem nmX2 : ∀ a, a < 3 → ∀ b, b < 3 → a ≠ b → (TX2 a).2.1 ≠ (TX2 b).2.1 := by decide +kernel
theorem tyX2_ok : ∀ k, k < 3 → parseFieldDescriptor (TX2 k).2.2.1 = some (tyX2 k) := by decide +kernel
abbrev cX2_init : ByteArray := prog_4_method_1_code
def yX2_init : MethodName := ⟨RX2, "<init>", "(LThicket$Graph;LThicket$Forest;LThicket$RootedTree;)V"⟩
abbrev cX2_admit : ByteArray := prog_4_method_2_code
def yX2_admit : MethodName := ⟨RX2, "admit", "(I)V"⟩
abbrev cX2_release : ByteArray := prog_4_method_3_code
def yX2_release : MethodName := ⟨RX2, "release", "(I)I"⟩
abbrev cX2_reweigh : ByteArray := prog_4_method_4_code
def yX2_reweigh : MethodName := ⟨RX2, "reweigh", "(II)V"⟩
abbrev cX2_findReplacement : ByteArray := prog_4_method_5_code
def yX2_findReplacement : MethodName := ⟨RX2, "findReplacement", "(I)I"⟩
abbrev cX2_leavesPlanted : ByteArray := prog_4_method_6_code
def yX2_leavesPlanted : MethodName := ⟨RX2, "leavesPlanted", "(I)Z"⟩
def RX3 : String := "Thicket$Graph"
def TX3 : u_T := fun k => match k with
  | 0 => ("Thicket$Graph", "values", "[I", true)
  | 1 => ("Thicket$Graph", "ones", "[I", true)
  | 2 => ("Thicket$Graph", "others", "[I", true)
  | 3 => ("Thicket$Graph", "weights", "[I", true)
  | 4 => ("Thicket$Graph", "present", "[Z", true)
  | 5 => ("Thicket$Graph", "vertexCount", "I", false)
  | _ => ("Thicket$Graph", "edgeCount", "I", false)
def tyX3 : Nat → FieldType := fun k => match k with
  | 0 => .array .int
  | 1 => .array .int
  | 2 => .array .int
  | 3 => .array .int
  | 4 => .array .boolean
  | 5 => .int
  | _ => .int
abbrev wsX30 : List Cond := u_ws RX3 TX3 7
theorem nmX3 : ∀ a, a < 7 → ∀ b, b < 7 → a ≠ b → (TX3 a).2.1 ≠ (TX3 b).2.1 := by decide +kernel
theorem tyX3_ok : ∀ k, k < 7 → parseFieldDescriptor (TX3 k).2.2.1 = some (tyX3 k) := by decide +kernel
abbrev cX3_init : ByteArray := prog_5_method_1_code
def yX3_init : MethodName := ⟨RX3, "<init>", "()V"⟩
abbrev cX3_vertexCount : ByteArray := prog_5_method_2_code
def yX3_vertexCount : MethodName := ⟨RX3, "vertexCount", "()I"⟩
abbrev cX3_edgeCount : ByteArray := prog_5_method_3_code
def yX3_edgeCount : MethodName := ⟨RX3, "edgeCount", "()I"⟩
abbrev cX3_hasVertex : ByteArray := prog_5_method_4_code
def yX3_hasVertex : MethodName := ⟨RX3, "hasVertex", "(I)Z"⟩
abbrev cX3_hasEdge : ByteArray := prog_5_method_5_code
def yX3_hasEdge : MethodName := ⟨RX3, "hasEdge", "(I)Z"⟩
abbrev cX3_appendVertex : ByteArray := prog_5_method_6_code
def yX3_appendVertex : MethodName := ⟨RX3, "appendVertex", "(I)I"⟩
abbrev cX3_appendEdge : ByteArray := prog_5_method_7_code
def yX3_appendEdge : MethodName := ⟨RX3, "appendEdge", "(III)I"⟩
abbrev cX3_valueOf : ByteArray := prog_5_method_8_code
def yX3_valueOf : MethodName := ⟨RX3, "valueOf", "(I)I"⟩
abbrev cX3_putValue : ByteArray := prog_5_method_9_code
def yX3_putValue : MethodName := ⟨RX3, "putValue", "(II)V"⟩
abbrev cX3_weightOf : ByteArray := prog_5_method_10_code
def yX3_weightOf : MethodName := ⟨RX3, "weightOf", "(I)I"⟩
abbrev cX3_putWeight : ByteArray := prog_5_method_11_code
def yX3_putWeight : MethodName := ⟨RX3, "putWeight", "(II)V"⟩
abbrev cX3_isPresent : ByteArray := prog_5_method_12_code
def yX3_isPresent : MethodName := ⟨RX3, "isPresent", "(I)Z"⟩
abbrev cX3_markRemoved : ByteArray := prog_5_method_13_code
def yX3_markRemoved : MethodName := ⟨RX3, "markRemoved", "(I)V"⟩
abbrev cX3_firstEnd : ByteArray := prog_5_method_14_code
def yX3_firstEnd : MethodName := ⟨RX3, "firstEnd", "(I)I"⟩
abbrev cX3_secondEnd : ByteArray := prog_5_method_15_code
def yX3_secondEnd : MethodName := ⟨RX3, "secondEnd", "(I)I"⟩
abbrev cX3_acrossFrom : ByteArray := prog_5_method_16_code
def yX3_acrossFrom : MethodName := ⟨RX3, "acrossFrom", "(II)I"⟩
abbrev cX3_comesBefore : ByteArray := prog_5_method_17_code
def yX3_comesBefore : MethodName := ⟨RX3, "comesBefore", "(II)Z"⟩
abbrev cX3_joins : ByteArray := prog_5_method_18_code
def yX3_joins : MethodName := ⟨RX3, "joins", "(III)Z"⟩
abbrev cX3_countBetween : ByteArray := prog_5_method_19_code
def yX3_countBetween : MethodName := ⟨RX3, "countBetween", "(II)I"⟩
abbrev cX3_firstBetween : ByteArray := prog_5_method_20_code
def yX3_firstBetween : MethodName := ⟨RX3, "firstBetween", "(II)I"⟩
def RX4 : String := "Thicket$GraphWalk"
def TX4 : u_T := fun k => match k with
  | 0 => ("Thicket$GraphWalk", "graph", "LThicket$Graph;", true)
  | 1 => ("Thicket$GraphWalk", "seen", "[Z", true)
  | 2 => ("Thicket$GraphWalk", "queue", "[I", true)
  | _ => ("Thicket$GraphWalk", "queued", "I", false)
def tyX4 : Nat → FieldType := fun k => match k with
  | 0 => .object "Thicket$Graph"
  | 1 => .array .boolean
  | 2 => .array .int
  | _ => .int
abbrev wsX40 : List Cond := u_ws RX4 TX4 4
theorem nmX4 : ∀ a, a < 4 → ∀ b, b < 4 → a ≠ b → (TX4 a).2.1 ≠ (TX4 b).2.1 := by decide +kernel
theorem tyX4_ok : ∀ k, k < 4 → parseFieldDescriptor (TX4 k).2.2.1 = some (tyX4 k) := by decide +kernel
abbrev cX4_init : ByteArray := prog_6_method_1_code
def yX4_init : MethodName := ⟨RX4, "<init>", "(LThicket$Graph;)V"⟩
abbrev cX4_leadsTo : ByteArray := prog_6_method_2_code
def yX4_leadsTo : MethodName := ⟨RX4, "leadsTo", "(II)Z"⟩
abbrev cX4_visitAround : ByteArray := prog_6_method_3_code
def yX4_visitAround : MethodName := ⟨RX4, "visitAround", "(I)V"⟩
abbrev cX4_visit : ByteArray := prog_6_method_4_code
def yX4_visit : MethodName := ⟨RX4, "visit", "(I)V"⟩
def RX5 : String := "Thicket$HeavyPaths"
def TX5 : u_T := fun k => match k with
  | 0 => ("Thicket$HeavyPaths", "graph", "LThicket$Graph;", true)
  | 1 => ("Thicket$HeavyPaths", "tree", "LThicket$RootedTree;", true)
  | 2 => ("Thicket$HeavyPaths", "sizes", "[I", true)
  | 3 => ("Thicket$HeavyPaths", "sums", "[I", true)
  | 4 => ("Thicket$HeavyPaths", "heavyChildren", "[I", true)
  | 5 => ("Thicket$HeavyPaths", "heads", "[I", true)
  | 6 => ("Thicket$HeavyPaths", "sumsToHead", "[I", true)
  | _ => ("Thicket$HeavyPaths", "lights", "[I", true)
def tyX5 : Nat → FieldType := fun k => match k with
  | 0 => .object "Thicket$Graph"
  | 1 => .object "Thicket$RootedTree"
  | 2 => .array .int
  | 3 => .array .int
  | 4 => .array .int
  | 5 => .array .int
  | 6 => .array .int
  | _ => .array .int
abbrev wsX50 : List Cond := u_ws RX5 TX5 8
theorem nmX5 : ∀ a, a < 8 → ∀ b, b < 8 → a ≠ b → (TX5 a).2.1 ≠ (TX5 b).2.1 := by decide +kernel
theorem tyX5_ok : ∀ k, k < 8 → parseFieldDescriptor (TX5 k).2.2.1 = some (tyX5 k) := by decide +kernel
abbrev cX5_init : ByteArray := prog_7_method_1_code
def yX5_init : MethodName := ⟨RX5, "<init>", "(LThicket$Graph;LThicket$RootedTree;)V"⟩
abbrev cX5_build : ByteArray := prog_7_method_2_code
def yX5_build : MethodName := ⟨RX5, "build", "()V"⟩
abbrev cX5_handUp : ByteArray := prog_7_method_3_code
def yX5_handUp : MethodName := ⟨RX5, "handUp", "(I)V"⟩
abbrev cX5_isHeavier : ByteArray := prog_7_method_4_code
def yX5_isHeavier : MethodName := ⟨RX5, "isHeavier", "(II)Z"⟩
abbrev cX5_followDown : ByteArray := prog_7_method_5_code
def yX5_followDown : MethodName := ⟨RX5, "followDown", "(I)V"⟩
abbrev cX5_sizeBelow : ByteArray := prog_7_method_6_code
def yX5_sizeBelow : MethodName := ⟨RX5, "sizeBelow", "(I)I"⟩
abbrev cX5_sumBelow : ByteArray := prog_7_method_7_code
def yX5_sumBelow : MethodName := ⟨RX5, "sumBelow", "(I)I"⟩
abbrev cX5_heavyBelow : ByteArray := prog_7_method_8_code
def yX5_heavyBelow : MethodName := ⟨RX5, "heavyBelow", "(I)I"⟩
abbrev cX5_headOf : ByteArray := prog_7_method_9_code
def yX5_headOf : MethodName := ⟨RX5, "headOf", "(I)I"⟩
abbrev cX5_lightAbove : ByteArray := prog_7_method_10_code
def yX5_lightAbove : MethodName := ⟨RX5, "lightAbove", "(I)I"⟩
abbrev cX5_sumToHead : ByteArray := prog_7_method_11_code
def yX5_sumToHead : MethodName := ⟨RX5, "sumToHead", "(I)I"⟩
abbrev cX5_sumToRoot : ByteArray := prog_7_method_12_code
def yX5_sumToRoot : MethodName := ⟨RX5, "sumToRoot", "(I)I"⟩
abbrev cX5_countPaths : ByteArray := prog_7_method_13_code
def yX5_countPaths : MethodName := ⟨RX5, "countPaths", "()I"⟩
def RX6 : String := "Thicket$Jumps"
def TX6 : u_T := fun k => match k with
  | 0 => ("Thicket$Jumps", "graph", "LThicket$Graph;", true)
  | 1 => ("Thicket$Jumps", "tree", "LThicket$RootedTree;", true)
  | _ => ("Thicket$Jumps", "targets", "[[I", true)
def tyX6 : Nat → FieldType := fun k => match k with
  | 0 => .object "Thicket$Graph"
  | 1 => .object "Thicket$RootedTree"
  | _ => .array (.array .int)
abbrev wsX60 : List Cond := u_ws RX6 TX6 3
theorem nmX6 : ∀ a, a < 3 → ∀ b, b < 3 → a ≠ b → (TX6 a).2.1 ≠ (TX6 b).2.1 := by decide +kernel
theorem tyX6_ok : ∀ k, k < 3 → parseFieldDescriptor (TX6 k).2.2.1 = some (tyX6 k) := by decide +kernel
abbrev cX6_init : ByteArray := prog_8_method_1_code
def yX6_init : MethodName := ⟨RX6, "<init>", "(LThicket$Graph;LThicket$RootedTree;)V"⟩
abbrev cX6_build : ByteArray := prog_8_method_2_code
def yX6_build : MethodName := ⟨RX6, "build", "()V"⟩
abbrev cX6_jump : ByteArray := prog_8_method_3_code
def yX6_jump : MethodName := ⟨RX6, "jump", "(II)I"⟩
abbrev cX6_climb : ByteArray := prog_8_method_4_code
def yX6_climb : MethodName := ⟨RX6, "climb", "(II)I"⟩
abbrev cX6_meet : ByteArray := prog_8_method_5_code
def yX6_meet : MethodName := ⟨RX6, "meet", "(II)I"⟩
def RX7 : String := "Thicket$RootedTree"
def TX7 : u_T := fun k => match k with
  | 0 => ("Thicket$RootedTree", "graph", "LThicket$Graph;", true)
  | 1 => ("Thicket$RootedTree", "forest", "LThicket$Forest;", true)
  | 2 => ("Thicket$RootedTree", "order", "[I", true)
  | 3 => ("Thicket$RootedTree", "depths", "[I", true)
  | 4 => ("Thicket$RootedTree", "parents", "[I", true)
  | 5 => ("Thicket$RootedTree", "sums", "[I", true)
  | 6 => ("Thicket$RootedTree", "lastEdges", "[I", true)
  | _ => ("Thicket$RootedTree", "count", "I", false)
def tyX7 : Nat → FieldType := fun k => match k with
  | 0 => .object "Thicket$Graph"
  | 1 => .object "Thicket$Forest"
  | 2 => .array .int
  | 3 => .array .int
  | 4 => .array .int
  | 5 => .array .int
  | 6 => .array .int
  | _ => .int
abbrev wsX70 : List Cond := u_ws RX7 TX7 8
theorem nmX7 : ∀ a, a < 8 → ∀ b, b < 8 → a ≠ b → (TX7 a).2.1 ≠ (TX7 b).2.1 := by decide +kernel
theorem tyX7_ok : ∀ k, k < 8 → parseFieldDescriptor (TX7 k).2.2.1 = some (tyX7 k) := by decide +kernel
abbrev cX7_init : ByteArray := prog_9_method_1_code
def yX7_init : MethodName := ⟨RX7, "<init>", "(LThicket$Graph;LThicket$Forest;)V"⟩
abbrev cX7_plant : ByteArray := prog_9_method_2_code
def yX7_plant : MethodName := ⟨RX7, "plant", "(II)V"⟩
abbrev cX7_reach : ByteArray := prog_9_method_3_code
def yX7_reach : MethodName := ⟨RX7, "reach", "(III)V"⟩
abbrev cX7_count : ByteArray := prog_9_method_4_code
def yX7_count : MethodName := ⟨RX7, "count", "()I"⟩
abbrev cX7_vertexAt : ByteArray := prog_9_method_5_code
def yX7_vertexAt : MethodName := ⟨RX7, "vertexAt", "(I)I"⟩
abbrev cX7_deepest : ByteArray := prog_9_method_6_code
def yX7_deepest : MethodName := ⟨RX7, "deepest", "()I"⟩
abbrev cX7_holds : ByteArray := prog_9_method_7_code
def yX7_holds : MethodName := ⟨RX7, "holds", "(I)Z"⟩
abbrev cX7_depthOf : ByteArray := prog_9_method_8_code
def yX7_depthOf : MethodName := ⟨RX7, "depthOf", "(I)I"⟩
abbrev cX7_above : ByteArray := prog_9_method_9_code
def yX7_above : MethodName := ⟨RX7, "above", "(I)I"⟩
abbrev cX7_sumFromRoot : ByteArray := prog_9_method_10_code
def yX7_sumFromRoot : MethodName := ⟨RX7, "sumFromRoot", "(I)I"⟩
abbrev cX7_lastFromRoot : ByteArray := prog_9_method_11_code
def yX7_lastFromRoot : MethodName := ⟨RX7, "lastFromRoot", "(I)I"⟩
abbrev cX7_climb : ByteArray := prog_9_method_12_code
def yX7_climb : MethodName := ⟨RX7, "climb", "(II)I"⟩
abbrev cX7_addOnWayToRoot : ByteArray := prog_9_method_13_code
def yX7_addOnWayToRoot : MethodName := ⟨RX7, "addOnWayToRoot", "(II)V"⟩
abbrev cX7_sumByClimbing : ByteArray := prog_9_method_14_code
def yX7_sumByClimbing : MethodName := ⟨RX7, "sumByClimbing", "(I)I"⟩
abbrev cX7_lastByClimbing : ByteArray := prog_9_method_15_code
def yX7_lastByClimbing : MethodName := ⟨RX7, "lastByClimbing", "(I)I"⟩
abbrev cX7_meetByClimbing : ByteArray := prog_9_method_16_code
def yX7_meetByClimbing : MethodName := ⟨RX7, "meetByClimbing", "(II)I"⟩
def RX8 : String := "Thicket"
def TX8 : u_T := fun k => match k with
  | 0 => ("Thicket", "graph", "LThicket$Graph;", true)
  | 1 => ("Thicket", "forest", "LThicket$Forest;", true)
  | 2 => ("Thicket", "tree", "LThicket$RootedTree;", true)
  | 3 => ("Thicket", "keeper", "LThicket$ForestKeeper;", true)
  | 4 => ("Thicket", "anew", "LThicket$ForestAnew;", true)
  | 5 => ("Thicket", "graphWalk", "LThicket$GraphWalk;", true)
  | 6 => ("Thicket", "heavy", "LThicket$HeavyPaths;", true)
  | _ => ("Thicket", "jumps", "LThicket$Jumps;", true)
def tyX8 : Nat → FieldType := fun k => match k with
  | 0 => .object "Thicket$Graph"
  | 1 => .object "Thicket$Forest"
  | 2 => .object "Thicket$RootedTree"
  | 3 => .object "Thicket$ForestKeeper"
  | 4 => .object "Thicket$ForestAnew"
  | 5 => .object "Thicket$GraphWalk"
  | 6 => .object "Thicket$HeavyPaths"
  | _ => .object "Thicket$Jumps"
abbrev wsX80 : List Cond := u_ws RX8 TX8 8
theorem nmX8 : ∀ a, a < 8 → ∀ b, b < 8 → a ≠ b → (TX8 a).2.1 ≠ (TX8 b).2.1 := by decide +kernel
theorem tyX8_ok : ∀ k, k < 8 → parseFieldDescriptor (TX8 k).2.2.1 = some (tyX8 k) := by decide +kernel
abbrev cX8_init : ByteArray := prog_1_method_1_code
def yX8_init : MethodName := ⟨RX8, "<init>", "()V"⟩
abbrev cX8_addVertex : ByteArray := prog_1_method_2_code
def yX8_addVertex : MethodName := ⟨RX8, "addVertex", "(I)I"⟩
abbrev cX8_setValue : ByteArray := prog_1_method_3_code
def yX8_setValue : MethodName := ⟨RX8, "setValue", "(II)I"⟩
abbrev cX8_addEdge : ByteArray := prog_1_method_4_code
def yX8_addEdge : MethodName := ⟨RX8, "addEdge", "(III)I"⟩
abbrev cX8_removeEdge : ByteArray := prog_1_method_5_code
def yX8_removeEdge : MethodName := ⟨RX8, "removeEdge", "(I)I"⟩
abbrev cX8_setWeight : ByteArray := prog_1_method_6_code
def yX8_setWeight : MethodName := ⟨RX8, "setWeight", "(II)I"⟩
abbrev cX8_addOnPath : ByteArray := prog_1_method_7_code
def yX8_addOnPath : MethodName := ⟨RX8, "addOnPath", "(III)I"⟩
abbrev cX8_vertices : ByteArray := prog_1_method_8_code
def yX8_vertices : MethodName := ⟨RX8, "vertices", "()I"⟩
abbrev cX8_edges : ByteArray := prog_1_method_9_code
def yX8_edges : MethodName := ⟨RX8, "edges", "()I"⟩
abbrev cX8_value : ByteArray := prog_1_method_10_code
def yX8_value : MethodName := ⟨RX8, "value", "(I)I"⟩
abbrev cX8_weight : ByteArray := prog_1_method_11_code
def yX8_weight : MethodName := ⟨RX8, "weight", "(I)I"⟩
abbrev cX8_state : ByteArray := prog_1_method_12_code
def yX8_state : MethodName := ⟨RX8, "state", "(I)C"⟩
abbrev cX8_otherEnd : ByteArray := prog_1_method_13_code
def yX8_otherEnd : MethodName := ⟨RX8, "otherEnd", "(II)I"⟩
abbrev cX8_parallel : ByteArray := prog_1_method_14_code
def yX8_parallel : MethodName := ⟨RX8, "parallel", "(II)I"⟩
abbrev cX8_lightest : ByteArray := prog_1_method_15_code
def yX8_lightest : MethodName := ⟨RX8, "lightest", "(II)I"⟩
abbrev cX8_forestWeight : ByteArray := prog_1_method_16_code
def yX8_forestWeight : MethodName := ⟨RX8, "forestWeight", "()I"⟩
abbrev cX8_forestWeightAnew : ByteArray := prog_1_method_17_code
def yX8_forestWeightAnew : MethodName := ⟨RX8, "forestWeightAnew", "()I"⟩
abbrev cX8_trees : ByteArray := prog_1_method_18_code
def yX8_trees : MethodName := ⟨RX8, "trees", "()I"⟩
abbrev cX8_degree : ByteArray := prog_1_method_19_code
def yX8_degree : MethodName := ⟨RX8, "degree", "(I)I"⟩
abbrev cX8_neighbour : ByteArray := prog_1_method_20_code
def yX8_neighbour : MethodName := ⟨RX8, "neighbour", "(II)I"⟩
abbrev cX8_isConnected : ByteArray := prog_1_method_21_code
def yX8_isConnected : MethodName := ⟨RX8, "isConnected", "(II)Z"⟩
abbrev cX8_isConnectedByWalk : ByteArray := prog_1_method_22_code
def yX8_isConnectedByWalk : MethodName := ⟨RX8, "isConnectedByWalk", "(II)Z"⟩
abbrev cX8_replacement : ByteArray := prog_1_method_23_code
def yX8_replacement : MethodName := ⟨RX8, "replacement", "(I)I"⟩
abbrev cX8_replacementAnew : ByteArray := prog_1_method_24_code
def yX8_replacementAnew : MethodName := ⟨RX8, "replacementAnew", "(I)I"⟩
abbrev cX8_pathVertices : ByteArray := prog_1_method_25_code
def yX8_pathVertices : MethodName := ⟨RX8, "pathVertices", "(II)I"⟩
abbrev cX8_pathVertex : ByteArray := prog_1_method_26_code
def yX8_pathVertex : MethodName := ⟨RX8, "pathVertex", "(III)I"⟩
abbrev cX8_pathSum : ByteArray := prog_1_method_27_code
def yX8_pathSum : MethodName := ⟨RX8, "pathSum", "(II)I"⟩
abbrev cX8_pathSumByHeavyPaths : ByteArray := prog_1_method_28_code
def yX8_pathSumByHeavyPaths : MethodName := ⟨RX8, "pathSumByHeavyPaths", "(II)I"⟩
abbrev cX8_pathSumByWalk : ByteArray := prog_1_method_29_code
def yX8_pathSumByWalk : MethodName := ⟨RX8, "pathSumByWalk", "(II)I"⟩
abbrev cX8_last : ByteArray := prog_1_method_30_code
def yX8_last : MethodName := ⟨RX8, "last", "(II)I"⟩
abbrev cX8_lastByWalk : ByteArray := prog_1_method_31_code
def yX8_lastByWalk : MethodName := ⟨RX8, "lastByWalk", "(II)I"⟩
abbrev cX8_mean : ByteArray := prog_1_method_32_code
def yX8_mean : MethodName := ⟨RX8, "mean", "(II)F"⟩
abbrev cX8_parent : ByteArray := prog_1_method_33_code
def yX8_parent : MethodName := ⟨RX8, "parent", "(II)I"⟩
abbrev cX8_depth : ByteArray := prog_1_method_34_code
def yX8_depth : MethodName := ⟨RX8, "depth", "(II)I"⟩
abbrev cX8_ancestor : ByteArray := prog_1_method_35_code
def yX8_ancestor : MethodName := ⟨RX8, "ancestor", "(III)I"⟩
abbrev cX8_ancestorByWalk : ByteArray := prog_1_method_36_code
def yX8_ancestorByWalk : MethodName := ⟨RX8, "ancestorByWalk", "(III)I"⟩
abbrev cX8_common : ByteArray := prog_1_method_37_code
def yX8_common : MethodName := ⟨RX8, "common", "(III)I"⟩
abbrev cX8_commonByWalk : ByteArray := prog_1_method_38_code
def yX8_commonByWalk : MethodName := ⟨RX8, "commonByWalk", "(III)I"⟩
abbrev cX8_subtreeSize : ByteArray := prog_1_method_39_code
def yX8_subtreeSize : MethodName := ⟨RX8, "subtreeSize", "(II)I"⟩
abbrev cX8_subtreeSum : ByteArray := prog_1_method_40_code
def yX8_subtreeSum : MethodName := ⟨RX8, "subtreeSum", "(II)I"⟩
abbrev cX8_heavyChild : ByteArray := prog_1_method_41_code
def yX8_heavyChild : MethodName := ⟨RX8, "heavyChild", "(II)I"⟩
abbrev cX8_head : ByteArray := prog_1_method_42_code
def yX8_head : MethodName := ⟨RX8, "head", "(II)I"⟩
abbrev cX8_heavyPaths : ByteArray := prog_1_method_43_code
def yX8_heavyPaths : MethodName := ⟨RX8, "heavyPaths", "(I)I"⟩
abbrev cX8_lightEdges : ByteArray := prog_1_method_44_code
def yX8_lightEdges : MethodName := ⟨RX8, "lightEdges", "(II)I"⟩
abbrev cX8_diameter : ByteArray := prog_1_method_45_code
def yX8_diameter : MethodName := ⟨RX8, "diameter", "(I)I"⟩
abbrev cX8_diameterByTrying : ByteArray := prog_1_method_46_code
def yX8_diameterByTrying : MethodName := ⟨RX8, "diameterByTrying", "(I)I"⟩
abbrev cX8_isBetween : ByteArray := prog_1_method_47_code
def yX8_isBetween : MethodName := ⟨RX8, "isBetween", "(III)Z"⟩
abbrev cX8_requireValue : ByteArray := prog_1_method_48_code
def yX8_requireValue : MethodName := ⟨RX8, "requireValue", "(I)V"⟩
abbrev cX8_requireWeight : ByteArray := prog_1_method_49_code
def yX8_requireWeight : MethodName := ⟨RX8, "requireWeight", "(I)V"⟩
abbrev cX8_requireDifferent : ByteArray := prog_1_method_50_code
def yX8_requireDifferent : MethodName := ⟨RX8, "requireDifferent", "(II)V"⟩
abbrev cX8_requireVertex : ByteArray := prog_1_method_51_code
def yX8_requireVertex : MethodName := ⟨RX8, "requireVertex", "(I)V"⟩
abbrev cX8_requireVertices : ByteArray := prog_1_method_52_code
def yX8_requireVertices : MethodName := ⟨RX8, "requireVertices", "(II)V"⟩
abbrev cX8_requireEdge : ByteArray := prog_1_method_53_code
def yX8_requireEdge : MethodName := ⟨RX8, "requireEdge", "(I)V"⟩
abbrev cX8_requirePresent : ByteArray := prog_1_method_54_code
def yX8_requirePresent : MethodName := ⟨RX8, "requirePresent", "(I)V"⟩
abbrev cX8_requireInForest : ByteArray := prog_1_method_55_code
def yX8_requireInForest : MethodName := ⟨RX8, "requireInForest", "(I)V"⟩
abbrev cX8_requireReplacement : ByteArray := prog_1_method_56_code
def yX8_requireReplacement : MethodName := ⟨RX8, "requireReplacement", "(I)I"⟩
abbrev cX8_requireInTree : ByteArray := prog_1_method_57_code
def yX8_requireInTree : MethodName := ⟨RX8, "requireInTree", "(I)V"⟩
abbrev cX8_requireDistance : ByteArray := prog_1_method_58_code
def yX8_requireDistance : MethodName := ⟨RX8, "requireDistance", "(II)V"⟩
abbrev cX8_plantHolding : ByteArray := prog_1_method_59_code
def yX8_plantHolding : MethodName := ⟨RX8, "plantHolding", "(II)V"⟩
abbrev cX8_greatestDepth : ByteArray := prog_1_method_60_code
def yX8_greatestDepth : MethodName := ⟨RX8, "greatestDepth", "()I"⟩
abbrev cX8_quotient : ByteArray := prog_1_method_61_code
def yX8_quotient : MethodName := ⟨RX8, "quotient", "(II)F"⟩
def RX9 : String := "ThicketModel"
def TX9 : u_T := fun k => match k with
  | 0 => ("ThicketModel", "thrown", "I", false)
  | 1 => ("ThicketModel", "values", "[I", true)
  | 2 => ("ThicketModel", "ones", "[I", true)
  | 3 => ("ThicketModel", "others", "[I", true)
  | 4 => ("ThicketModel", "weights", "[I", true)
  | 5 => ("ThicketModel", "order", "[I", true)
  | 6 => ("ThicketModel", "labels", "[I", true)
  | 7 => ("ThicketModel", "isPresent", "[Z", true)
  | 8 => ("ThicketModel", "isForest", "[Z", true)
  | 9 => ("ThicketModel", "many", "I", false)
  | 10 => ("ThicketModel", "made", "I", false)
  | 11 => ("ThicketModel", "isThen", "[Z", true)
  | 12 => ("ThicketModel", "parents", "[I", true)
  | 13 => ("ThicketModel", "depths", "[I", true)
  | 14 => ("ThicketModel", "sizes", "[I", true)
  | 15 => ("ThicketModel", "heavies", "[I", true)
  | 16 => ("ThicketModel", "row", "[I", true)
  | _ => ("ThicketModel", "inRow", "I", false)
def tyX9 : Nat → FieldType := fun k => match k with
  | 0 => .int
  | 1 => .array .int
  | 2 => .array .int
  | 3 => .array .int
  | 4 => .array .int
  | 5 => .array .int
  | 6 => .array .int
  | 7 => .array .boolean
  | 8 => .array .boolean
  | 9 => .int
  | 10 => .int
  | 11 => .array .boolean
  | 12 => .array .int
  | 13 => .array .int
  | 14 => .array .int
  | 15 => .array .int
  | 16 => .array .int
  | _ => .int
abbrev wsX90 : List Cond := u_ws RX9 TX9 18
theorem nmX9 : ∀ a, a < 18 → ∀ b, b < 18 → a ≠ b → (TX9 a).2.1 ≠ (TX9 b).2.1 := by decide +kernel
theorem tyX9_ok : ∀ k, k < 18 → parseFieldDescriptor (TX9 k).2.2.1 = some (tyX9 k) := by decide +kernel
abbrev cX9_init : ByteArray := prog_11_method_1_code
def yX9_init : MethodName := ⟨RX9, "<init>", "()V"⟩
abbrev cX9_thrown : ByteArray := prog_11_method_2_code
def yX9_thrown : MethodName := ⟨RX9, "thrown", "()I"⟩
abbrev cX9_fails : ByteArray := prog_11_method_3_code
def yX9_fails : MethodName := ⟨RX9, "fails", "(I)I"⟩
abbrev cX9_isBetween : ByteArray := prog_11_method_4_code
def yX9_isBetween : MethodName := ⟨RX9, "isBetween", "(III)Z"⟩
abbrev cX9_isVertex : ByteArray := prog_11_method_5_code
def yX9_isVertex : MethodName := ⟨RX9, "isVertex", "(I)Z"⟩
abbrev cX9_isEdge : ByteArray := prog_11_method_6_code
def yX9_isEdge : MethodName := ⟨RX9, "isEdge", "(I)Z"⟩
abbrev cX9_comesBefore : ByteArray := prog_11_method_7_code
def yX9_comesBefore : MethodName := ⟨RX9, "comesBefore", "(II)Z"⟩
abbrev cX9_sorts : ByteArray := prog_11_method_8_code
def yX9_sorts : MethodName := ⟨RX9, "sorts", "()V"⟩
abbrev cX9_finds : ByteArray := prog_11_method_9_code
def yX9_finds : MethodName := ⟨RX9, "finds", "(I[Z)V"⟩
abbrev cX9_finds_ : ByteArray := prog_11_method_10_code
def yX9_finds_ : MethodName := ⟨RX9, "finds", "()V"⟩
abbrev cX9_addVertex : ByteArray := prog_11_method_11_code
def yX9_addVertex : MethodName := ⟨RX9, "addVertex", "(I)I"⟩
abbrev cX9_setValue : ByteArray := prog_11_method_12_code
def yX9_setValue : MethodName := ⟨RX9, "setValue", "(II)I"⟩
abbrev cX9_addEdge : ByteArray := prog_11_method_13_code
def yX9_addEdge : MethodName := ⟨RX9, "addEdge", "(III)I"⟩
abbrev cX9_joining : ByteArray := prog_11_method_14_code
def yX9_joining : MethodName := ⟨RX9, "joining", "(I)I"⟩
abbrev cX9_removeEdge : ByteArray := prog_11_method_15_code
def yX9_removeEdge : MethodName := ⟨RX9, "removeEdge", "(I)I"⟩
abbrev cX9_setWeight : ByteArray := prog_11_method_16_code
def yX9_setWeight : MethodName := ⟨RX9, "setWeight", "(II)I"⟩
abbrev cX9_roots : ByteArray := prog_11_method_17_code
def yX9_roots : MethodName := ⟨RX9, "roots", "(I)V"⟩
abbrev cX9_isApart : ByteArray := prog_11_method_18_code
def yX9_isApart : MethodName := ⟨RX9, "isApart", "(II)Z"⟩
abbrev cX9_addOnPath : ByteArray := prog_11_method_19_code
def yX9_addOnPath : MethodName := ⟨RX9, "addOnPath", "(III)I"⟩
abbrev cX9_vertices : ByteArray := prog_11_method_20_code
def yX9_vertices : MethodName := ⟨RX9, "vertices", "()I"⟩
abbrev cX9_edges : ByteArray := prog_11_method_21_code
def yX9_edges : MethodName := ⟨RX9, "edges", "()I"⟩
abbrev cX9_value : ByteArray := prog_11_method_22_code
def yX9_value : MethodName := ⟨RX9, "value", "(I)I"⟩
abbrev cX9_weight : ByteArray := prog_11_method_23_code
def yX9_weight : MethodName := ⟨RX9, "weight", "(I)I"⟩
abbrev cX9_state : ByteArray := prog_11_method_24_code
def yX9_state : MethodName := ⟨RX9, "state", "(I)C"⟩
abbrev cX9_otherEnd : ByteArray := prog_11_method_25_code
def yX9_otherEnd : MethodName := ⟨RX9, "otherEnd", "(II)I"⟩
abbrev cX9_joins : ByteArray := prog_11_method_26_code
def yX9_joins : MethodName := ⟨RX9, "joins", "(III)Z"⟩
abbrev cX9_parallel : ByteArray := prog_11_method_27_code
def yX9_parallel : MethodName := ⟨RX9, "parallel", "(II)I"⟩
abbrev cX9_lightest : ByteArray := prog_11_method_28_code
def yX9_lightest : MethodName := ⟨RX9, "lightest", "(II)I"⟩
abbrev cX9_forestWeight : ByteArray := prog_11_method_29_code
def yX9_forestWeight : MethodName := ⟨RX9, "forestWeight", "()I"⟩
abbrev cX9_forestWeightAnew : ByteArray := prog_11_method_30_code
def yX9_forestWeightAnew : MethodName := ⟨RX9, "forestWeightAnew", "()I"⟩
abbrev cX9_trees : ByteArray := prog_11_method_31_code
def yX9_trees : MethodName := ⟨RX9, "trees", "()I"⟩
abbrev cX9_isNeighbour : ByteArray := prog_11_method_32_code
def yX9_isNeighbour : MethodName := ⟨RX9, "isNeighbour", "(II)Z"⟩
abbrev cX9_degree : ByteArray := prog_11_method_33_code
def yX9_degree : MethodName := ⟨RX9, "degree", "(I)I"⟩
abbrev cX9_neighbour : ByteArray := prog_11_method_34_code
def yX9_neighbour : MethodName := ⟨RX9, "neighbour", "(II)I"⟩
abbrev cX9_isConnected : ByteArray := prog_11_method_35_code
def yX9_isConnected : MethodName := ⟨RX9, "isConnected", "(II)Z"⟩
abbrev cX9_isConnectedByWalk : ByteArray := prog_11_method_36_code
def yX9_isConnectedByWalk : MethodName := ⟨RX9, "isConnectedByWalk", "(II)Z"⟩
abbrev cX9_replacement : ByteArray := prog_11_method_37_code
def yX9_replacement : MethodName := ⟨RX9, "replacement", "(I)I"⟩
abbrev cX9_replacementAnew : ByteArray := prog_11_method_38_code
def yX9_replacementAnew : MethodName := ⟨RX9, "replacementAnew", "(I)I"⟩
abbrev cX9_pathVertices : ByteArray := prog_11_method_39_code
def yX9_pathVertices : MethodName := ⟨RX9, "pathVertices", "(II)I"⟩
abbrev cX9_pathVertex : ByteArray := prog_11_method_40_code
def yX9_pathVertex : MethodName := ⟨RX9, "pathVertex", "(III)I"⟩
abbrev cX9_pathSum : ByteArray := prog_11_method_41_code
def yX9_pathSum : MethodName := ⟨RX9, "pathSum", "(II)I"⟩
abbrev cX9_pathSumByHeavyPaths : ByteArray := prog_11_method_42_code
def yX9_pathSumByHeavyPaths : MethodName := ⟨RX9, "pathSumByHeavyPaths", "(II)I"⟩
abbrev cX9_pathSumByWalk : ByteArray := prog_11_method_43_code
def yX9_pathSumByWalk : MethodName := ⟨RX9, "pathSumByWalk", "(II)I"⟩
abbrev cX9_between : ByteArray := prog_11_method_44_code
def yX9_between : MethodName := ⟨RX9, "between", "(II)I"⟩
abbrev cX9_last : ByteArray := prog_11_method_45_code
def yX9_last : MethodName := ⟨RX9, "last", "(II)I"⟩
abbrev cX9_lastByWalk : ByteArray := prog_11_method_46_code
def yX9_lastByWalk : MethodName := ⟨RX9, "lastByWalk", "(II)I"⟩
abbrev cX9_mean : ByteArray := prog_11_method_47_code
def yX9_mean : MethodName := ⟨RX9, "mean", "(II)F"⟩
abbrev cX9_parent : ByteArray := prog_11_method_48_code
def yX9_parent : MethodName := ⟨RX9, "parent", "(II)I"⟩
abbrev cX9_depth : ByteArray := prog_11_method_49_code
def yX9_depth : MethodName := ⟨RX9, "depth", "(II)I"⟩
abbrev cX9_ancestor : ByteArray := prog_11_method_50_code
def yX9_ancestor : MethodName := ⟨RX9, "ancestor", "(III)I"⟩
abbrev cX9_ancestorByWalk : ByteArray := prog_11_method_51_code
def yX9_ancestorByWalk : MethodName := ⟨RX9, "ancestorByWalk", "(III)I"⟩
abbrev cX9_common : ByteArray := prog_11_method_52_code
def yX9_common : MethodName := ⟨RX9, "common", "(III)I"⟩
abbrev cX9_commonByWalk : ByteArray := prog_11_method_53_code
def yX9_commonByWalk : MethodName := ⟨RX9, "commonByWalk", "(III)I"⟩
abbrev cX9_subtreeSize : ByteArray := prog_11_method_54_code
def yX9_subtreeSize : MethodName := ⟨RX9, "subtreeSize", "(II)I"⟩
abbrev cX9_subtreeSum : ByteArray := prog_11_method_55_code
def yX9_subtreeSum : MethodName := ⟨RX9, "subtreeSum", "(II)I"⟩
abbrev cX9_heavyChild : ByteArray := prog_11_method_56_code
def yX9_heavyChild : MethodName := ⟨RX9, "heavyChild", "(II)I"⟩
abbrev cX9_isHead : ByteArray := prog_11_method_57_code
def yX9_isHead : MethodName := ⟨RX9, "isHead", "(I)Z"⟩
abbrev cX9_head : ByteArray := prog_11_method_58_code
def yX9_head : MethodName := ⟨RX9, "head", "(II)I"⟩
abbrev cX9_heavyPaths : ByteArray := prog_11_method_59_code
def yX9_heavyPaths : MethodName := ⟨RX9, "heavyPaths", "(I)I"⟩
abbrev cX9_lightEdges : ByteArray := prog_11_method_60_code
def yX9_lightEdges : MethodName := ⟨RX9, "lightEdges", "(II)I"⟩
abbrev cX9_diameter : ByteArray := prog_11_method_61_code
def yX9_diameter : MethodName := ⟨RX9, "diameter", "(I)I"⟩
abbrev cX9_diameterByTrying : ByteArray := prog_11_method_62_code
def yX9_diameterByTrying : MethodName := ⟨RX9, "diameterByTrying", "(I)I"⟩
def RJx145de : String := "java/io/Serializable"
def TJx145de : u_T := fun k => match k with
  | _ => ("", "", "", false)
def tyJx145de : Nat → FieldType := fun k => match k with
  | _ => .int
abbrev wsJx145de0 : List Cond := u_ws RJx145de TJx145de 0
theorem nmJx145de : ∀ a, a < 0 → ∀ b, b < 0 → a ≠ b → (TJx145de a).2.1 ≠ (TJx145de b).2.1 := by decide +kernel
theorem tyJx145de_ok : ∀ k, k < 0 → parseFieldDescriptor (TJx145de k).2.2.1 = some (tyJx145de k) := by decide +kernel
def RJ9 : String := "java/lang/Math"
def TJ9 : u_T := fun k => match k with
  | _ => ("", "", "", false)
def tyJ9 : Nat → FieldType := fun k => match k with
  | _ => .int
abbrev wsJ90 : List Cond := u_ws RJ9 TJ9 0
theorem nmJ9 : ∀ a, a < 0 → ∀ b, b < 0 → a ≠ b → (TJ9 a).2.1 ≠ (TJ9 b).2.1 := by decide +kernel
theorem tyJ9_ok : ∀ k, k < 0 → parseFieldDescriptor (TJ9 k).2.2.1 = some (tyJ9 k) := by decide +kernel
abbrev cJ9_max_7cf53 : ByteArray := prog_17_method_65_code
def yJ9_max_7cf53 : MethodName := ⟨RJ9, "max", "(II)I"⟩
def RJ0 : String := "java/lang/String"
def TJ0 : u_T := fun k => match k with
  | _ => ("", "", "", false)
def tyJ0 : Nat → FieldType := fun k => match k with
  | _ => .int
abbrev wsJ00 : List Cond := u_ws RJ0 TJ0 0
theorem nmJ0 : ∀ a, a < 0 → ∀ b, b < 0 → a ≠ b → (TJ0 a).2.1 ≠ (TJ0 b).2.1 := by decide +kernel
theorem tyJ0_ok : ∀ k, k < 0 → parseFieldDescriptor (TJ0 k).2.2.1 = some (tyJ0 k) := by decide +kernel
def RJ7 : String := "java/util/Arrays"
def TJ7 : u_T := fun k => match k with
  | _ => ("", "", "", false)
def tyJ7 : Nat → FieldType := fun k => match k with
  | _ => .int
abbrev wsJ70 : List Cond := u_ws RJ7 TJ7 0
theorem nmJ7 : ∀ a, a < 0 → ∀ b, b < 0 → a ≠ b → (TJ7 a).2.1 ≠ (TJ7 b).2.1 := by decide +kernel
theorem tyJ7_ok : ∀ k, k < 0 → parseFieldDescriptor (TJ7 k).2.2.1 = some (tyJ7 k) := by decide +kernel
abbrev cJ7_fill_53178 : ByteArray := prog_22_method_103_code
def yJ7_fill_53178 : MethodName := ⟨RJ7, "fill", "([II)V"⟩
def RL : String := "ThicketLaw"
abbrev cL_addVertex : ByteArray := method_3_code
def yL_addVertex : MethodName := ⟨RL, "addVertex", "(LThicket;I[J)I"⟩
abbrev cL_setValue : ByteArray := method_4_code
def yL_setValue : MethodName := ⟨RL, "setValue", "(LThicket;II[J)I"⟩
abbrev cL_addEdge : ByteArray := method_5_code
def yL_addEdge : MethodName := ⟨RL, "addEdge", "(LThicket;III[J)I"⟩
abbrev cL_removeEdge : ByteArray := method_6_code
def yL_removeEdge : MethodName := ⟨RL, "removeEdge", "(LThicket;I[J)I"⟩
abbrev cL_setWeight : ByteArray := method_7_code
def yL_setWeight : MethodName := ⟨RL, "setWeight", "(LThicket;II[J)I"⟩
abbrev cL_addOnPath : ByteArray := method_8_code
def yL_addOnPath : MethodName := ⟨RL, "addOnPath", "(LThicket;III[J)I"⟩
abbrev cL_value : ByteArray := method_9_code
def yL_value : MethodName := ⟨RL, "value", "(LThicket;I[J)I"⟩
abbrev cL_weight : ByteArray := method_10_code
def yL_weight : MethodName := ⟨RL, "weight", "(LThicket;I[J)I"⟩
abbrev cL_state : ByteArray := method_11_code
def yL_state : MethodName := ⟨RL, "state", "(LThicket;I[J)I"⟩
abbrev cL_otherEnd : ByteArray := method_12_code
def yL_otherEnd : MethodName := ⟨RL, "otherEnd", "(LThicket;II[J)I"⟩
abbrev cL_parallel : ByteArray := method_13_code
def yL_parallel : MethodName := ⟨RL, "parallel", "(LThicket;II[J)I"⟩
abbrev cL_lightest : ByteArray := method_14_code
def yL_lightest : MethodName := ⟨RL, "lightest", "(LThicket;II[J)I"⟩
abbrev cL_degree : ByteArray := method_15_code
def yL_degree : MethodName := ⟨RL, "degree", "(LThicket;I[J)I"⟩
abbrev cL_neighbour : ByteArray := method_16_code
def yL_neighbour : MethodName := ⟨RL, "neighbour", "(LThicket;II[J)I"⟩
abbrev cL_isConnected : ByteArray := method_17_code
def yL_isConnected : MethodName := ⟨RL, "isConnected", "(LThicket;II[J)I"⟩
abbrev cL_isConnectedByWalk : ByteArray := method_18_code
def yL_isConnectedByWalk : MethodName := ⟨RL, "isConnectedByWalk", "(LThicket;II[J)I"⟩
abbrev cL_replacement : ByteArray := method_19_code
def yL_replacement : MethodName := ⟨RL, "replacement", "(LThicket;I[J)I"⟩
abbrev cL_replacementAnew : ByteArray := method_20_code
def yL_replacementAnew : MethodName := ⟨RL, "replacementAnew", "(LThicket;I[J)I"⟩
abbrev cL_pathVertices : ByteArray := method_21_code
def yL_pathVertices : MethodName := ⟨RL, "pathVertices", "(LThicket;II[J)I"⟩
abbrev cL_pathVertex : ByteArray := method_22_code
def yL_pathVertex : MethodName := ⟨RL, "pathVertex", "(LThicket;III[J)I"⟩
abbrev cL_pathSum : ByteArray := method_23_code
def yL_pathSum : MethodName := ⟨RL, "pathSum", "(LThicket;II[J)I"⟩
abbrev cL_pathSumByHeavyPaths : ByteArray := method_24_code
def yL_pathSumByHeavyPaths : MethodName := ⟨RL, "pathSumByHeavyPaths", "(LThicket;II[J)I"⟩
abbrev cL_pathSumByWalk : ByteArray := method_25_code
def yL_pathSumByWalk : MethodName := ⟨RL, "pathSumByWalk", "(LThicket;II[J)I"⟩
abbrev cL_last : ByteArray := method_26_code
def yL_last : MethodName := ⟨RL, "last", "(LThicket;II[J)I"⟩
abbrev cL_lastByWalk : ByteArray := method_27_code
def yL_lastByWalk : MethodName := ⟨RL, "lastByWalk", "(LThicket;II[J)I"⟩
abbrev cL_mean : ByteArray := method_28_code
def yL_mean : MethodName := ⟨RL, "mean", "(LThicket;II[D)I"⟩
abbrev cL_parent : ByteArray := method_29_code
def yL_parent : MethodName := ⟨RL, "parent", "(LThicket;II[J)I"⟩
abbrev cL_depth : ByteArray := method_30_code
def yL_depth : MethodName := ⟨RL, "depth", "(LThicket;II[J)I"⟩
abbrev cL_ancestor : ByteArray := method_31_code
def yL_ancestor : MethodName := ⟨RL, "ancestor", "(LThicket;III[J)I"⟩
abbrev cL_ancestorByWalk : ByteArray := method_32_code
def yL_ancestorByWalk : MethodName := ⟨RL, "ancestorByWalk", "(LThicket;III[J)I"⟩
abbrev cL_common : ByteArray := method_33_code
def yL_common : MethodName := ⟨RL, "common", "(LThicket;III[J)I"⟩
abbrev cL_commonByWalk : ByteArray := method_34_code
def yL_commonByWalk : MethodName := ⟨RL, "commonByWalk", "(LThicket;III[J)I"⟩
abbrev cL_subtreeSize : ByteArray := method_35_code
def yL_subtreeSize : MethodName := ⟨RL, "subtreeSize", "(LThicket;II[J)I"⟩
abbrev cL_subtreeSum : ByteArray := method_36_code
def yL_subtreeSum : MethodName := ⟨RL, "subtreeSum", "(LThicket;II[J)I"⟩
abbrev cL_heavyChild : ByteArray := method_37_code
def yL_heavyChild : MethodName := ⟨RL, "heavyChild", "(LThicket;II[J)I"⟩
abbrev cL_head : ByteArray := method_38_code
def yL_head : MethodName := ⟨RL, "head", "(LThicket;II[J)I"⟩
abbrev cL_heavyPaths : ByteArray := method_39_code
def yL_heavyPaths : MethodName := ⟨RL, "heavyPaths", "(LThicket;I[J)I"⟩
abbrev cL_lightEdges : ByteArray := method_40_code
def yL_lightEdges : MethodName := ⟨RL, "lightEdges", "(LThicket;II[J)I"⟩
abbrev cL_diameter : ByteArray := method_41_code
def yL_diameter : MethodName := ⟨RL, "diameter", "(LThicket;I[J)I"⟩
abbrev cL_diameterByTrying : ByteArray := method_42_code
def yL_diameterByTrying : MethodName := ⟨RL, "diameterByTrying", "(LThicket;I[J)I"⟩
abbrev cL_law : ByteArray := code
def yL_law : MethodName := ⟨RL, "law", "([I)Z"⟩
theorem inJx145de : ∀ w ∈ wsJx145de0, w ∈ lw_tbl := by decide +kernel
theorem inJ9 : ∀ w ∈ wsJ90, w ∈ lw_tbl := by decide +kernel
theorem inJ0 : ∀ w ∈ wsJ00, w ∈ lw_tbl := by decide +kernel
theorem inJ7 : ∀ w ∈ wsJ70, w ∈ lw_tbl := by decide +kernel
abbrev vwCl : List vw_C := [(RX0, TX0, 4), (RX1, TX1, 6), (RX2, TX2, 3), (RX3, TX3, 7), (RX4, TX4, 4), (RX5, TX5, 8), (RX6, TX6, 3), (RX7, TX7, 8), (RX8, TX8, 8), (RX9, TX9, 18)]
end
section
theorem dX0_init_0 : decode cX0_init 0 = .ok (.aload_n 0, 1) := by decide +kernel
theorem dX0_init_1 : decode cX0_init 1 = .ok (.invokespecial 3, 3) := by decide +kernel
theorem dX0_init_4 : decode cX0_init 4 = .ok (.aload_n 0, 1) := by decide +kernel
theorem dX0_init_5 : decode cX0_init 5 = .ok (.bipush 20, 2) := by decide +kernel
theorem dX0_init_7 : decode cX0_init 7 = .ok (.bipush 20, 2) := by decide +kernel
theorem dX0_init_9 : decode cX0_init 9 = .ok (.multianewarray 9 2, 4) := by decide +kernel
theorem dX0_init_13 : decode cX0_init 13 = .ok (.putfield 11, 3) := by decide +kernel
theorem dX0_init_16 : decode cX0_init 16 = .ok (.aload_n 0, 1) := by decide +kernel
theorem dX0_init_17 : decode cX0_init 17 = .ok (.iconst 0, 1) := by decide +kernel
theorem dX0_init_18 : decode cX0_init 18 = .ok (.putfield 16, 3) := by decide +kernel
theorem dX0_init_21 : decode cX0_init 21 = .ok (.aload_n 0, 1) := by decide +kernel
theorem dX0_init_22 : decode cX0_init 22 = .ok (.iconst 0, 1) := by decide +kernel
theorem dX0_init_23 : decode cX0_init 23 = .ok (.putfield 20, 3) := by decide +kernel
theorem dX0_init_26 : decode cX0_init 26 = .ok (.aload_n 0, 1) := by decide +kernel
theorem dX0_init_27 : decode cX0_init 27 = .ok (.aload_n 1, 1) := by decide +kernel
theorem dX0_init_28 : decode cX0_init 28 = .ok (.putfield 23, 3) := by decide +kernel
theorem dX0_init_31 : decode cX0_init 31 = .ok (.iconst 0, 1) := by decide +kernel
theorem dX0_init_32 : decode cX0_init 32 = .ok (.istore_n 2, 1) := by decide +kernel
theorem dX0_init_33 : decode cX0_init 33 = .ok (.iload_n 2, 1) := by decide +kernel
theorem dX0_init_34 : decode cX0_init 34 = .ok (.bipush 20, 2) := by decide +kernel
theorem dX0_init_36 : decode cX0_init 36 = .ok (.if_icmp .ge 19, 3) := by decide +kernel
theorem dX0_init_39 : decode cX0_init 39 = .ok (.aload_n 0, 1) := by decide +kernel
theorem dX0_init_40 : decode cX0_init 40 = .ok (.getfield 11, 3) := by decide +kernel
theorem dX0_init_43 : decode cX0_init 43 = .ok (.iload_n 2, 1) := by decide +kernel
theorem dX0_init_44 : decode cX0_init 44 = .ok (.aaload, 1) := by decide +kernel
theorem dX0_init_45 : decode cX0_init 45 = .ok (.iconst (-1), 1) := by decide +kernel
theorem dX0_init_46 : decode cX0_init 46 = .ok (.invokestatic 27, 3) := by decide +kernel
theorem dX0_init_49 : decode cX0_init 49 = .ok (.iinc 2 1, 3) := by decide +kernel
theorem dX0_init_52 : decode cX0_init 52 = .ok (.goto (-19), 3) := by decide +kernel
theorem dX0_init_55 : decode cX0_init 55 = .ok (.return_, 1) := by decide +kernel
theorem dX0_weightSum_0 : decode cX0_weightSum 0 = .ok (.aload_n 0, 1) := by decide +kernel
theorem dX0_weightSum_1 : decode cX0_weightSum 1 = .ok (.getfield 16, 3) := by decide +kernel
theorem dX0_weightSum_4 : decode cX0_weightSum 4 = .ok (.ireturn, 1) := by decide +kernel
theorem dX0_edgeSum_0 : decode cX0_edgeSum 0 = .ok (.aload_n 0, 1) := by decide +kernel
theorem dX0_edgeSum_1 : decode cX0_edgeSum 1 = .ok (.getfield 20, 3) := by decide +kernel
theorem dX0_edgeSum_4 : decode cX0_edgeSum 4 = .ok (.ireturn, 1) := by decide +kernel
theorem dX0_edgeJoining_0 : decode cX0_edgeJoining 0 = .ok (.aload_n 0, 1) := by decide +kernel
theorem dX0_edgeJoining_1 : decode cX0_edgeJoining 1 = .ok (.getfield 23, 3) := by decide +kernel
theorem dX0_edgeJoining_4 : decode cX0_edgeJoining 4 = .ok (.iload_n 1, 1) := by decide +kernel
theorem dX0_edgeJoining_5 : decode cX0_edgeJoining 5 = .ok (.invokevirtual 33, 3) := by decide +kernel
theorem dX0_edgeJoining_8 : decode cX0_edgeJoining 8 = .ok (.ifCond .eq 14, 3) := by decide +kernel
theorem dX0_edgeJoining_11 : decode cX0_edgeJoining 11 = .ok (.aload_n 0, 1) := by decide +kernel
theorem dX0_edgeJoining_12 : decode cX0_edgeJoining 12 = .ok (.getfield 23, 3) := by decide +kernel
theorem dX0_edgeJoining_15 : decode cX0_edgeJoining 15 = .ok (.iload_n 2, 1) := by decide +kernel
theorem dX0_edgeJoining_16 : decode cX0_edgeJoining 16 = .ok (.invokevirtual 33, 3) := by decide +kernel
theorem dX0_edgeJoining_19 : decode cX0_edgeJoining 19 = .ok (.ifCond .ne 5, 3) := by decide +kernel
theorem dX0_edgeJoining_22 : decode cX0_edgeJoining 22 = .ok (.iconst (-1), 1) := by decide +kernel
theorem dX0_edgeJoining_23 : decode cX0_edgeJoining 23 = .ok (.ireturn, 1) := by decide +kernel
theorem dX0_edgeJoining_24 : decode cX0_edgeJoining 24 = .ok (.aload_n 0, 1) := by decide +kernel
theorem dX0_edgeJoining_25 : decode cX0_edgeJoining 25 = .ok (.getfield 11, 3) := by decide +kernel
theorem dX0_edgeJoining_28 : decode cX0_edgeJoining 28 = .ok (.iload_n 1, 1) := by decide +kernel
theorem dX0_edgeJoining_29 : decode cX0_edgeJoining 29 = .ok (.aaload, 1) := by decide +kernel
theorem dX0_edgeJoining_30 : decode cX0_edgeJoining 30 = .ok (.iload_n 2, 1) := by decide +kernel
theorem dX0_edgeJoining_31 : decode cX0_edgeJoining 31 = .ok (.iaload, 1) := by decide +kernel
theorem dX0_edgeJoining_32 : decode cX0_edgeJoining 32 = .ok (.ireturn, 1) := by decide +kernel
theorem dX0_holds_0 : decode cX0_holds 0 = .ok (.aload_n 0, 1) := by decide +kernel
theorem dX0_holds_1 : decode cX0_holds 1 = .ok (.getfield 23, 3) := by decide +kernel
theorem dX0_holds_4 : decode cX0_holds 4 = .ok (.iload_n 1, 1) := by decide +kernel
theorem dX0_holds_5 : decode cX0_holds 5 = .ok (.invokevirtual 39, 3) := by decide +kernel
theorem dX0_holds_8 : decode cX0_holds 8 = .ok (.ifCond .eq 31, 3) := by decide +kernel
theorem dX0_holds_11 : decode cX0_holds 11 = .ok (.aload_n 0, 1) := by decide +kernel
theorem dX0_holds_12 : decode cX0_holds 12 = .ok (.aload_n 0, 1) := by decide +kernel
theorem dX0_holds_13 : decode cX0_holds 13 = .ok (.getfield 23, 3) := by decide +kernel
theorem dX0_holds_16 : decode cX0_holds 16 = .ok (.iload_n 1, 1) := by decide +kernel
theorem dX0_holds_17 : decode cX0_holds 17 = .ok (.invokevirtual 42, 3) := by decide +kernel
theorem dX0_holds_20 : decode cX0_holds 20 = .ok (.aload_n 0, 1) := by decide +kernel
theorem dX0_holds_21 : decode cX0_holds 21 = .ok (.getfield 23, 3) := by decide +kernel
theorem dX0_holds_24 : decode cX0_holds 24 = .ok (.iload_n 1, 1) := by decide +kernel
theorem dX0_holds_25 : decode cX0_holds 25 = .ok (.invokevirtual 46, 3) := by decide +kernel
theorem dX0_holds_28 : decode cX0_holds 28 = .ok (.invokevirtual 49, 3) := by decide +kernel
theorem dX0_holds_31 : decode cX0_holds 31 = .ok (.iload_n 1, 1) := by decide +kernel
theorem dX0_holds_32 : decode cX0_holds 32 = .ok (.if_icmp .ne 7, 3) := by decide +kernel
theorem dX0_holds_35 : decode cX0_holds 35 = .ok (.iconst 1, 1) := by decide +kernel
theorem dX0_holds_36 : decode cX0_holds 36 = .ok (.goto 4, 3) := by decide +kernel
theorem dX0_holds_39 : decode cX0_holds 39 = .ok (.iconst 0, 1) := by decide +kernel
theorem dX0_holds_40 : decode cX0_holds 40 = .ok (.ireturn, 1) := by decide +kernel
theorem dX0_link_0 : decode cX0_link 0 = .ok (.aload_n 0, 1) := by decide +kernel
theorem dX0_link_1 : decode cX0_link 1 = .ok (.aload_n 0, 1) := by decide +kernel
theorem dX0_link_2 : decode cX0_link 2 = .ok (.getfield 23, 3) := by decide +kernel
theorem dX0_link_5 : decode cX0_link 5 = .ok (.iload_n 1, 1) := by decide +kernel
theorem dX0_link_6 : decode cX0_link 6 = .ok (.invokevirtual 42, 3) := by decide +kernel
theorem dX0_link_9 : decode cX0_link 9 = .ok (.aload_n 0, 1) := by decide +kernel
theorem dX0_link_10 : decode cX0_link 10 = .ok (.getfield 23, 3) := by decide +kernel
theorem dX0_link_13 : decode cX0_link 13 = .ok (.iload_n 1, 1) := by decide +kernel
theorem dX0_link_14 : decode cX0_link 14 = .ok (.invokevirtual 46, 3) := by decide +kernel
theorem dX0_link_17 : decode cX0_link 17 = .ok (.iload_n 1, 1) := by decide +kernel
theorem dX0_link_18 : decode cX0_link 18 = .ok (.invokevirtual 53, 3) := by decide +kernel
theorem dX0_link_21 : decode cX0_link 21 = .ok (.aload_n 0, 1) := by decide +kernel
theorem dX0_link_22 : decode cX0_link 22 = .ok (.dup, 1) := by decide +kernel
theorem dX0_link_23 : decode cX0_link 23 = .ok (.getfield 16, 3) := by decide +kernel
theorem dX0_link_26 : decode cX0_link 26 = .ok (.aload_n 0, 1) := by decide +kernel
theorem dX0_link_27 : decode cX0_link 27 = .ok (.getfield 23, 3) := by decide +kernel
theorem dX0_link_30 : decode cX0_link 30 = .ok (.iload_n 1, 1) := by decide +kernel
theorem dX0_link_31 : decode cX0_link 31 = .ok (.invokevirtual 57, 3) := by decide +kernel
theorem dX0_link_34 : decode cX0_link 34 = .ok (.iadd, 1) := by decide +kernel
theorem dX0_link_35 : decode cX0_link 35 = .ok (.putfield 16, 3) := by decide +kernel
theorem dX0_link_38 : decode cX0_link 38 = .ok (.aload_n 0, 1) := by decide +kernel
theorem dX0_link_39 : decode cX0_link 39 = .ok (.dup, 1) := by decide +kernel
theorem dX0_link_40 : decode cX0_link 40 = .ok (.getfield 20, 3) := by decide +kernel
theorem dX0_link_43 : decode cX0_link 43 = .ok (.iconst 1, 1) := by decide +kernel
theorem dX0_link_44 : decode cX0_link 44 = .ok (.iadd, 1) := by decide +kernel
theorem dX0_link_45 : decode cX0_link 45 = .ok (.putfield 20, 3) := by decide +kernel
theorem dX0_link_48 : decode cX0_link 48 = .ok (.return_, 1) := by decide +kernel
theorem dX0_cut_0 : decode cX0_cut 0 = .ok (.aload_n 0, 1) := by decide +kernel
theorem dX0_cut_1 : decode cX0_cut 1 = .ok (.aload_n 0, 1) := by decide +kernel
theorem dX0_cut_2 : decode cX0_cut 2 = .ok (.getfield 23, 3) := by decide +kernel
theorem dX0_cut_5 : decode cX0_cut 5 = .ok (.iload_n 1, 1) := by decide +kernel
theorem dX0_cut_6 : decode cX0_cut 6 = .ok (.invokevirtual 42, 3) := by decide +kernel
theorem dX0_cut_9 : decode cX0_cut 9 = .ok (.aload_n 0, 1) := by decide +kernel
theorem dX0_cut_10 : decode cX0_cut 10 = .ok (.getfield 23, 3) := by decide +kernel
theorem dX0_cut_13 : decode cX0_cut 13 = .ok (.iload_n 1, 1) := by decide +kernel
theorem dX0_cut_14 : decode cX0_cut 14 = .ok (.invokevirtual 46, 3) := by decide +kernel
theorem dX0_cut_17 : decode cX0_cut 17 = .ok (.iconst (-1), 1) := by decide +kernel
theorem dX0_cut_18 : decode cX0_cut 18 = .ok (.invokevirtual 53, 3) := by decide +kernel
theorem dX0_cut_21 : decode cX0_cut 21 = .ok (.aload_n 0, 1) := by decide +kernel
theorem dX0_cut_22 : decode cX0_cut 22 = .ok (.dup, 1) := by decide +kernel
theorem dX0_cut_23 : decode cX0_cut 23 = .ok (.getfield 16, 3) := by decide +kernel
theorem dX0_cut_26 : decode cX0_cut 26 = .ok (.aload_n 0, 1) := by decide +kernel
theorem dX0_cut_27 : decode cX0_cut 27 = .ok (.getfield 23, 3) := by decide +kernel
theorem dX0_cut_30 : decode cX0_cut 30 = .ok (.iload_n 1, 1) := by decide +kernel
theorem dX0_cut_31 : decode cX0_cut 31 = .ok (.invokevirtual 57, 3) := by decide +kernel
theorem dX0_cut_34 : decode cX0_cut 34 = .ok (.isub, 1) := by decide +kernel
theorem dX0_cut_35 : decode cX0_cut 35 = .ok (.putfield 16, 3) := by decide +kernel
theorem dX0_cut_38 : decode cX0_cut 38 = .ok (.aload_n 0, 1) := by decide +kernel
theorem dX0_cut_39 : decode cX0_cut 39 = .ok (.dup, 1) := by decide +kernel
theorem dX0_cut_40 : decode cX0_cut 40 = .ok (.getfield 20, 3) := by decide +kernel
theorem dX0_cut_43 : decode cX0_cut 43 = .ok (.iconst 1, 1) := by decide +kernel
theorem dX0_cut_44 : decode cX0_cut 44 = .ok (.isub, 1) := by decide +kernel
theorem dX0_cut_45 : decode cX0_cut 45 = .ok (.putfield 20, 3) := by decide +kernel
theorem dX0_cut_48 : decode cX0_cut 48 = .ok (.return_, 1) := by decide +kernel
theorem dX0_write_0 : decode cX0_write 0 = .ok (.aload_n 0, 1) := by decide +kernel
theorem dX0_write_1 : decode cX0_write 1 = .ok (.getfield 23, 3) := by decide +kernel
theorem dX0_write_4 : decode cX0_write 4 = .ok (.iload_n 1, 1) := by decide +kernel
theorem dX0_write_5 : decode cX0_write 5 = .ok (.invokevirtual 33, 3) := by decide +kernel
theorem dX0_write_8 : decode cX0_write 8 = .ok (.ifCond .eq 32, 3) := by decide +kernel
theorem dX0_write_11 : decode cX0_write 11 = .ok (.aload_n 0, 1) := by decide +kernel
theorem dX0_write_12 : decode cX0_write 12 = .ok (.getfield 23, 3) := by decide +kernel
theorem dX0_write_15 : decode cX0_write 15 = .ok (.iload_n 2, 1) := by decide +kernel
theorem dX0_write_16 : decode cX0_write 16 = .ok (.invokevirtual 33, 3) := by decide +kernel
theorem dX0_write_19 : decode cX0_write 19 = .ok (.ifCond .eq 21, 3) := by decide +kernel
theorem dX0_write_22 : decode cX0_write 22 = .ok (.aload_n 0, 1) := by decide +kernel
theorem dX0_write_23 : decode cX0_write 23 = .ok (.getfield 11, 3) := by decide +kernel
theorem dX0_write_26 : decode cX0_write 26 = .ok (.iload_n 1, 1) := by decide +kernel
theorem dX0_write_27 : decode cX0_write 27 = .ok (.aaload, 1) := by decide +kernel
theorem dX0_write_28 : decode cX0_write 28 = .ok (.iload_n 2, 1) := by decide +kernel
theorem dX0_write_29 : decode cX0_write 29 = .ok (.iload_n 3, 1) := by decide +kernel
theorem dX0_write_30 : decode cX0_write 30 = .ok (.iastore, 1) := by decide +kernel
theorem dX0_write_31 : decode cX0_write 31 = .ok (.aload_n 0, 1) := by decide +kernel
theorem dX0_write_32 : decode cX0_write 32 = .ok (.getfield 11, 3) := by decide +kernel
theorem dX0_write_35 : decode cX0_write 35 = .ok (.iload_n 2, 1) := by decide +kernel
theorem dX0_write_36 : decode cX0_write 36 = .ok (.aaload, 1) := by decide +kernel
theorem dX0_write_37 : decode cX0_write 37 = .ok (.iload_n 1, 1) := by decide +kernel
theorem dX0_write_38 : decode cX0_write 38 = .ok (.iload_n 3, 1) := by decide +kernel
theorem dX0_write_39 : decode cX0_write 39 = .ok (.iastore, 1) := by decide +kernel
theorem dX0_write_40 : decode cX0_write 40 = .ok (.return_, 1) := by decide +kernel
theorem dX0_countNeighbours_0 : decode cX0_countNeighbours 0 = .ok (.iconst 0, 1) := by decide +kernel
theorem dX0_countNeighbours_1 : decode cX0_countNeighbours 1 = .ok (.istore_n 2, 1) := by decide +kernel
theorem dX0_countNeighbours_2 : decode cX0_countNeighbours 2 = .ok (.iconst 0, 1) := by decide +kernel
theorem dX0_countNeighbours_3 : decode cX0_countNeighbours 3 = .ok (.istore_n 3, 1) := by decide +kernel
theorem dX0_countNeighbours_4 : decode cX0_countNeighbours 4 = .ok (.iload_n 3, 1) := by decide +kernel
theorem dX0_countNeighbours_5 : decode cX0_countNeighbours 5 = .ok (.aload_n 0, 1) := by decide +kernel
theorem dX0_countNeighbours_6 : decode cX0_countNeighbours 6 = .ok (.getfield 23, 3) := by decide +kernel
theorem dX0_countNeighbours_9 : decode cX0_countNeighbours 9 = .ok (.invokevirtual 60, 3) := by decide +kernel
theorem dX0_countNeighbours_12 : decode cX0_countNeighbours 12 = .ok (.if_icmp .ge 22, 3) := by decide +kernel
theorem dX0_countNeighbours_15 : decode cX0_countNeighbours 15 = .ok (.aload_n 0, 1) := by decide +kernel
theorem dX0_countNeighbours_16 : decode cX0_countNeighbours 16 = .ok (.iload_n 1, 1) := by decide +kernel
theorem dX0_countNeighbours_17 : decode cX0_countNeighbours 17 = .ok (.iload_n 3, 1) := by decide +kernel
theorem dX0_countNeighbours_18 : decode cX0_countNeighbours 18 = .ok (.invokevirtual 49, 3) := by decide +kernel
theorem dX0_countNeighbours_21 : decode cX0_countNeighbours 21 = .ok (.iconst (-1), 1) := by decide +kernel
theorem dX0_countNeighbours_22 : decode cX0_countNeighbours 22 = .ok (.if_icmp .eq 6, 3) := by decide +kernel
theorem dX0_countNeighbours_25 : decode cX0_countNeighbours 25 = .ok (.iinc 2 1, 3) := by decide +kernel
theorem dX0_countNeighbours_28 : decode cX0_countNeighbours 28 = .ok (.iinc 3 1, 3) := by decide +kernel
theorem dX0_countNeighbours_31 : decode cX0_countNeighbours 31 = .ok (.goto (-27), 3) := by decide +kernel
theorem dX0_countNeighbours_34 : decode cX0_countNeighbours 34 = .ok (.iload_n 2, 1) := by decide +kernel
theorem dX0_countNeighbours_35 : decode cX0_countNeighbours 35 = .ok (.ireturn, 1) := by decide +kernel
theorem dX0_neighbourAt_0 : decode cX0_neighbourAt 0 = .ok (.iconst 0, 1) := by decide +kernel
theorem dX0_neighbourAt_1 : decode cX0_neighbourAt 1 = .ok (.istore_n 3, 1) := by decide +kernel
theorem dX0_neighbourAt_2 : decode cX0_neighbourAt 2 = .ok (.iconst 0, 1) := by decide +kernel
theorem dX0_neighbourAt_3 : decode cX0_neighbourAt 3 = .ok (.istore 4, 2) := by decide +kernel
theorem dX0_neighbourAt_5 : decode cX0_neighbourAt 5 = .ok (.iload 4, 2) := by decide +kernel
theorem dX0_neighbourAt_7 : decode cX0_neighbourAt 7 = .ok (.aload_n 0, 1) := by decide +kernel
theorem dX0_neighbourAt_8 : decode cX0_neighbourAt 8 = .ok (.getfield 23, 3) := by decide +kernel
theorem dX0_neighbourAt_11 : decode cX0_neighbourAt 11 = .ok (.invokevirtual 60, 3) := by decide +kernel
theorem dX0_neighbourAt_14 : decode cX0_neighbourAt 14 = .ok (.if_icmp .ge 31, 3) := by decide +kernel
theorem dX0_neighbourAt_17 : decode cX0_neighbourAt 17 = .ok (.aload_n 0, 1) := by decide +kernel
theorem dX0_neighbourAt_18 : decode cX0_neighbourAt 18 = .ok (.iload_n 1, 1) := by decide +kernel
theorem dX0_neighbourAt_19 : decode cX0_neighbourAt 19 = .ok (.iload 4, 2) := by decide +kernel
theorem dX0_neighbourAt_21 : decode cX0_neighbourAt 21 = .ok (.invokevirtual 49, 3) := by decide +kernel
theorem dX0_neighbourAt_24 : decode cX0_neighbourAt 24 = .ok (.iconst (-1), 1) := by decide +kernel
theorem dX0_neighbourAt_25 : decode cX0_neighbourAt 25 = .ok (.if_icmp .eq 14, 3) := by decide +kernel
theorem dX0_neighbourAt_28 : decode cX0_neighbourAt 28 = .ok (.iload_n 3, 1) := by decide +kernel
theorem dX0_neighbourAt_29 : decode cX0_neighbourAt 29 = .ok (.iload_n 2, 1) := by decide +kernel
theorem dX0_neighbourAt_30 : decode cX0_neighbourAt 30 = .ok (.if_icmp .ne 6, 3) := by decide +kernel
theorem dX0_neighbourAt_33 : decode cX0_neighbourAt 33 = .ok (.iload 4, 2) := by decide +kernel
theorem dX0_neighbourAt_35 : decode cX0_neighbourAt 35 = .ok (.ireturn, 1) := by decide +kernel
theorem dX0_neighbourAt_36 : decode cX0_neighbourAt 36 = .ok (.iinc 3 1, 3) := by decide +kernel
theorem dX0_neighbourAt_39 : decode cX0_neighbourAt 39 = .ok (.iinc 4 1, 3) := by decide +kernel
theorem dX0_neighbourAt_42 : decode cX0_neighbourAt 42 = .ok (.goto (-37), 3) := by decide +kernel
theorem dX0_neighbourAt_45 : decode cX0_neighbourAt 45 = .ok (.iconst (-1), 1) := by decide +kernel
theorem dX0_neighbourAt_46 : decode cX0_neighbourAt 46 = .ok (.ireturn, 1) := by decide +kernel
theorem dX1_init_0 : decode cX1_init 0 = .ok (.aload_n 0, 1) := by decide +kernel
theorem dX1_init_1 : decode cX1_init 1 = .ok (.invokespecial 3, 3) := by decide +kernel
theorem dX1_init_4 : decode cX1_init 4 = .ok (.aload_n 0, 1) := by decide +kernel
theorem dX1_init_5 : decode cX1_init 5 = .ok (.bipush 60, 2) := by decide +kernel
theorem dX1_init_7 : decode cX1_init 7 = .ok (.newarray .int, 2) := by decide +kernel
theorem dX1_init_9 : decode cX1_init 9 = .ok (.putfield 9, 3) := by decide +kernel
theorem dX1_init_12 : decode cX1_init 12 = .ok (.aload_n 0, 1) := by decide +kernel
theorem dX1_init_13 : decode cX1_init 13 = .ok (.bipush 20, 2) := by decide +kernel
theorem dX1_init_15 : decode cX1_init 15 = .ok (.newarray .int, 2) := by decide +kernel
theorem dX1_init_17 : decode cX1_init 17 = .ok (.putfield 15, 3) := by decide +kernel
theorem dX1_init_20 : decode cX1_init 20 = .ok (.aload_n 0, 1) := by decide +kernel
theorem dX1_init_21 : decode cX1_init 21 = .ok (.bipush 60, 2) := by decide +kernel
theorem dX1_init_23 : decode cX1_init 23 = .ok (.newarray .boolean, 2) := by decide +kernel
theorem dX1_init_25 : decode cX1_init 25 = .ok (.putfield 18, 3) := by decide +kernel
theorem dX1_init_28 : decode cX1_init 28 = .ok (.aload_n 0, 1) := by decide +kernel
theorem dX1_init_29 : decode cX1_init 29 = .ok (.iconst 0, 1) := by decide +kernel
theorem dX1_init_30 : decode cX1_init 30 = .ok (.putfield 22, 3) := by decide +kernel
theorem dX1_init_33 : decode cX1_init 33 = .ok (.aload_n 0, 1) := by decide +kernel
theorem dX1_init_34 : decode cX1_init 34 = .ok (.iconst 0, 1) := by decide +kernel
theorem dX1_init_35 : decode cX1_init 35 = .ok (.putfield 26, 3) := by decide +kernel
theorem dX1_init_38 : decode cX1_init 38 = .ok (.aload_n 0, 1) := by decide +kernel
theorem dX1_init_39 : decode cX1_init 39 = .ok (.aload_n 1, 1) := by decide +kernel
theorem dX1_init_40 : decode cX1_init 40 = .ok (.putfield 29, 3) := by decide +kernel
theorem dX1_init_43 : decode cX1_init 43 = .ok (.return_, 1) := by decide +kernel
theorem dX1_weightSum_0 : decode cX1_weightSum 0 = .ok (.aload_n 0, 1) := by decide +kernel
theorem dX1_weightSum_1 : decode cX1_weightSum 1 = .ok (.getfield 26, 3) := by decide +kernel
theorem dX1_weightSum_4 : decode cX1_weightSum 4 = .ok (.ireturn, 1) := by decide +kernel
theorem dX1_build_0 : decode cX1_build 0 = .ok (.aload_n 0, 1) := by decide +kernel
theorem dX1_build_1 : decode cX1_build 1 = .ok (.invokevirtual 33, 3) := by decide +kernel
theorem dX1_build_4 : decode cX1_build 4 = .ok (.aload_n 0, 1) := by decide +kernel
theorem dX1_build_5 : decode cX1_build 5 = .ok (.iload_n 1, 1) := by decide +kernel
theorem dX1_build_6 : decode cX1_build 6 = .ok (.invokevirtual 36, 3) := by decide +kernel
theorem dX1_build_9 : decode cX1_build 9 = .ok (.iconst 0, 1) := by decide +kernel
theorem dX1_build_10 : decode cX1_build 10 = .ok (.istore_n 2, 1) := by decide +kernel
theorem dX1_build_11 : decode cX1_build 11 = .ok (.iload_n 2, 1) := by decide +kernel
theorem dX1_build_12 : decode cX1_build 12 = .ok (.aload_n 0, 1) := by decide +kernel
theorem dX1_build_13 : decode cX1_build 13 = .ok (.getfield 22, 3) := by decide +kernel
theorem dX1_build_16 : decode cX1_build 16 = .ok (.if_icmp .ge 25, 3) := by decide +kernel
theorem dX1_build_19 : decode cX1_build 19 = .ok (.iload_n 2, 1) := by decide +kernel
theorem dX1_build_20 : decode cX1_build 20 = .ok (.bipush 60, 2) := by decide +kernel
theorem dX1_build_22 : decode cX1_build 22 = .ok (.if_icmp .ge 19, 3) := by decide +kernel
theorem dX1_build_25 : decode cX1_build 25 = .ok (.aload_n 0, 1) := by decide +kernel
theorem dX1_build_26 : decode cX1_build 26 = .ok (.aload_n 0, 1) := by decide +kernel
theorem dX1_build_27 : decode cX1_build 27 = .ok (.getfield 9, 3) := by decide +kernel
theorem dX1_build_30 : decode cX1_build 30 = .ok (.iload_n 2, 1) := by decide +kernel
theorem dX1_build_31 : decode cX1_build 31 = .ok (.iaload, 1) := by decide +kernel
theorem dX1_build_32 : decode cX1_build 32 = .ok (.invokevirtual 40, 3) := by decide +kernel
theorem dX1_build_35 : decode cX1_build 35 = .ok (.iinc 2 1, 3) := by decide +kernel
theorem dX1_build_38 : decode cX1_build 38 = .ok (.goto (-27), 3) := by decide +kernel
theorem dX1_build_41 : decode cX1_build 41 = .ok (.return_, 1) := by decide +kernel
theorem dX1_clear_0 : decode cX1_clear 0 = .ok (.aload_n 0, 1) := by decide +kernel
theorem dX1_clear_1 : decode cX1_clear 1 = .ok (.iconst 0, 1) := by decide +kernel
theorem dX1_clear_2 : decode cX1_clear 2 = .ok (.putfield 22, 3) := by decide +kernel
theorem dX1_clear_5 : decode cX1_clear 5 = .ok (.aload_n 0, 1) := by decide +kernel
theorem dX1_clear_6 : decode cX1_clear 6 = .ok (.iconst 0, 1) := by decide +kernel
theorem dX1_clear_7 : decode cX1_clear 7 = .ok (.putfield 26, 3) := by decide +kernel
theorem dX1_clear_10 : decode cX1_clear 10 = .ok (.iconst 0, 1) := by decide +kernel
theorem dX1_clear_11 : decode cX1_clear 11 = .ok (.istore_n 1, 1) := by decide +kernel
theorem dX1_clear_12 : decode cX1_clear 12 = .ok (.iload_n 1, 1) := by decide +kernel
theorem dX1_clear_13 : decode cX1_clear 13 = .ok (.bipush 20, 2) := by decide +kernel
theorem dX1_clear_15 : decode cX1_clear 15 = .ok (.if_icmp .ge 16, 3) := by decide +kernel
theorem dX1_clear_18 : decode cX1_clear 18 = .ok (.aload_n 0, 1) := by decide +kernel
theorem dX1_clear_19 : decode cX1_clear 19 = .ok (.getfield 15, 3) := by decide +kernel
theorem dX1_clear_22 : decode cX1_clear 22 = .ok (.iload_n 1, 1) := by decide +kernel
theorem dX1_clear_23 : decode cX1_clear 23 = .ok (.iload_n 1, 1) := by decide +kernel
theorem dX1_clear_24 : decode cX1_clear 24 = .ok (.iastore, 1) := by decide +kernel
theorem dX1_clear_25 : decode cX1_clear 25 = .ok (.iinc 1 1, 3) := by decide +kernel
theorem dX1_clear_28 : decode cX1_clear 28 = .ok (.goto (-16), 3) := by decide +kernel
theorem dX1_clear_31 : decode cX1_clear 31 = .ok (.iconst 0, 1) := by decide +kernel
theorem dX1_clear_32 : decode cX1_clear 32 = .ok (.istore_n 1, 1) := by decide +kernel
theorem dX1_clear_33 : decode cX1_clear 33 = .ok (.iload_n 1, 1) := by decide +kernel
theorem dX1_clear_34 : decode cX1_clear 34 = .ok (.bipush 60, 2) := by decide +kernel
theorem dX1_clear_36 : decode cX1_clear 36 = .ok (.if_icmp .ge 16, 3) := by decide +kernel
theorem dX1_clear_39 : decode cX1_clear 39 = .ok (.aload_n 0, 1) := by decide +kernel
theorem dX1_clear_40 : decode cX1_clear 40 = .ok (.getfield 18, 3) := by decide +kernel
theorem dX1_clear_43 : decode cX1_clear 43 = .ok (.iload_n 1, 1) := by decide +kernel
theorem dX1_clear_44 : decode cX1_clear 44 = .ok (.iconst 0, 1) := by decide +kernel
theorem dX1_clear_45 : decode cX1_clear 45 = .ok (.bastore, 1) := by decide +kernel
theorem dX1_clear_46 : decode cX1_clear 46 = .ok (.iinc 1 1, 3) := by decide +kernel
theorem dX1_clear_49 : decode cX1_clear 49 = .ok (.goto (-16), 3) := by decide +kernel
theorem dX1_clear_52 : decode cX1_clear 52 = .ok (.return_, 1) := by decide +kernel
theorem dX1_sortPresentBut_0 : decode cX1_sortPresentBut 0 = .ok (.iconst 0, 1) := by decide +kernel
theorem dX1_sortPresentBut_1 : decode cX1_sortPresentBut 1 = .ok (.istore_n 2, 1) := by decide +kernel
theorem dX1_sortPresentBut_2 : decode cX1_sortPresentBut 2 = .ok (.iload_n 2, 1) := by decide +kernel
theorem dX1_sortPresentBut_3 : decode cX1_sortPresentBut 3 = .ok (.aload_n 0, 1) := by decide +kernel
theorem dX1_sortPresentBut_4 : decode cX1_sortPresentBut 4 = .ok (.getfield 29, 3) := by decide +kernel
theorem dX1_sortPresentBut_7 : decode cX1_sortPresentBut 7 = .ok (.invokevirtual 43, 3) := by decide +kernel
theorem dX1_sortPresentBut_10 : decode cX1_sortPresentBut 10 = .ok (.if_icmp .ge 30, 3) := by decide +kernel
theorem dX1_sortPresentBut_13 : decode cX1_sortPresentBut 13 = .ok (.iload_n 2, 1) := by decide +kernel
theorem dX1_sortPresentBut_14 : decode cX1_sortPresentBut 14 = .ok (.iload_n 1, 1) := by decide +kernel
theorem dX1_sortPresentBut_15 : decode cX1_sortPresentBut 15 = .ok (.if_icmp .eq 19, 3) := by decide +kernel
theorem dX1_sortPresentBut_18 : decode cX1_sortPresentBut 18 = .ok (.aload_n 0, 1) := by decide +kernel
theorem dX1_sortPresentBut_19 : decode cX1_sortPresentBut 19 = .ok (.getfield 29, 3) := by decide +kernel
theorem dX1_sortPresentBut_22 : decode cX1_sortPresentBut 22 = .ok (.iload_n 2, 1) := by decide +kernel
theorem dX1_sortPresentBut_23 : decode cX1_sortPresentBut 23 = .ok (.invokevirtual 49, 3) := by decide +kernel
theorem dX1_sortPresentBut_26 : decode cX1_sortPresentBut 26 = .ok (.ifCond .eq 8, 3) := by decide +kernel
theorem dX1_sortPresentBut_29 : decode cX1_sortPresentBut 29 = .ok (.aload_n 0, 1) := by decide +kernel
theorem dX1_sortPresentBut_30 : decode cX1_sortPresentBut 30 = .ok (.iload_n 2, 1) := by decide +kernel
theorem dX1_sortPresentBut_31 : decode cX1_sortPresentBut 31 = .ok (.invokevirtual 53, 3) := by decide +kernel
theorem dX1_sortPresentBut_34 : decode cX1_sortPresentBut 34 = .ok (.iinc 2 1, 3) := by decide +kernel
theorem dX1_sortPresentBut_37 : decode cX1_sortPresentBut 37 = .ok (.goto (-35), 3) := by decide +kernel
theorem dX1_sortPresentBut_40 : decode cX1_sortPresentBut 40 = .ok (.return_, 1) := by decide +kernel
theorem dX1_insert_0 : decode cX1_insert 0 = .ok (.aload_n 0, 1) := by decide +kernel
theorem dX1_insert_1 : decode cX1_insert 1 = .ok (.getfield 22, 3) := by decide +kernel
theorem dX1_insert_4 : decode cX1_insert 4 = .ok (.bipush 60, 2) := by decide +kernel
theorem dX1_insert_6 : decode cX1_insert 6 = .ok (.if_icmp .lt 4, 3) := by decide +kernel
theorem dX1_insert_9 : decode cX1_insert 9 = .ok (.return_, 1) := by decide +kernel
theorem dX1_insert_10 : decode cX1_insert 10 = .ok (.aload_n 0, 1) := by decide +kernel
theorem dX1_insert_11 : decode cX1_insert 11 = .ok (.getfield 22, 3) := by decide +kernel
theorem dX1_insert_14 : decode cX1_insert 14 = .ok (.istore_n 2, 1) := by decide +kernel
theorem dX1_insert_15 : decode cX1_insert 15 = .ok (.iload_n 2, 1) := by decide +kernel
theorem dX1_insert_16 : decode cX1_insert 16 = .ok (.ifCond .le 42, 3) := by decide +kernel
theorem dX1_insert_19 : decode cX1_insert 19 = .ok (.aload_n 0, 1) := by decide +kernel
theorem dX1_insert_20 : decode cX1_insert 20 = .ok (.getfield 29, 3) := by decide +kernel
theorem dX1_insert_23 : decode cX1_insert 23 = .ok (.iload_n 1, 1) := by decide +kernel
theorem dX1_insert_24 : decode cX1_insert 24 = .ok (.aload_n 0, 1) := by decide +kernel
theorem dX1_insert_25 : decode cX1_insert 25 = .ok (.getfield 9, 3) := by decide +kernel
theorem dX1_insert_28 : decode cX1_insert 28 = .ok (.iload_n 2, 1) := by decide +kernel
theorem dX1_insert_29 : decode cX1_insert 29 = .ok (.iconst 1, 1) := by decide +kernel
theorem dX1_insert_30 : decode cX1_insert 30 = .ok (.isub, 1) := by decide +kernel
theorem dX1_insert_31 : decode cX1_insert 31 = .ok (.iaload, 1) := by decide +kernel
theorem dX1_insert_32 : decode cX1_insert 32 = .ok (.invokevirtual 56, 3) := by decide +kernel
theorem dX1_insert_35 : decode cX1_insert 35 = .ok (.ifCond .eq 23, 3) := by decide +kernel
theorem dX1_insert_38 : decode cX1_insert 38 = .ok (.aload_n 0, 1) := by decide +kernel
theorem dX1_insert_39 : decode cX1_insert 39 = .ok (.getfield 9, 3) := by decide +kernel
theorem dX1_insert_42 : decode cX1_insert 42 = .ok (.iload_n 2, 1) := by decide +kernel
theorem dX1_insert_43 : decode cX1_insert 43 = .ok (.aload_n 0, 1) := by decide +kernel
theorem dX1_insert_44 : decode cX1_insert 44 = .ok (.getfield 9, 3) := by decide +kernel
theorem dX1_insert_47 : decode cX1_insert 47 = .ok (.iload_n 2, 1) := by decide +kernel
theorem dX1_insert_48 : decode cX1_insert 48 = .ok (.iconst 1, 1) := by decide +kernel
theorem dX1_insert_49 : decode cX1_insert 49 = .ok (.isub, 1) := by decide +kernel
theorem dX1_insert_50 : decode cX1_insert 50 = .ok (.iaload, 1) := by decide +kernel
theorem dX1_insert_51 : decode cX1_insert 51 = .ok (.iastore, 1) := by decide +kernel
theorem dX1_insert_52 : decode cX1_insert 52 = .ok (.iinc 2 (-1), 3) := by decide +kernel
theorem dX1_insert_55 : decode cX1_insert 55 = .ok (.goto (-40), 3) := by decide +kernel
theorem dX1_insert_58 : decode cX1_insert 58 = .ok (.aload_n 0, 1) := by decide +kernel
theorem dX1_insert_59 : decode cX1_insert 59 = .ok (.getfield 9, 3) := by decide +kernel
theorem dX1_insert_62 : decode cX1_insert 62 = .ok (.iload_n 2, 1) := by decide +kernel
theorem dX1_insert_63 : decode cX1_insert 63 = .ok (.iload_n 1, 1) := by decide +kernel
theorem dX1_insert_64 : decode cX1_insert 64 = .ok (.iastore, 1) := by decide +kernel
theorem dX1_insert_65 : decode cX1_insert 65 = .ok (.aload_n 0, 1) := by decide +kernel
theorem dX1_insert_66 : decode cX1_insert 66 = .ok (.dup, 1) := by decide +kernel
theorem dX1_insert_67 : decode cX1_insert 67 = .ok (.getfield 22, 3) := by decide +kernel
theorem dX1_insert_70 : decode cX1_insert 70 = .ok (.iconst 1, 1) := by decide +kernel
theorem dX1_insert_71 : decode cX1_insert 71 = .ok (.iadd, 1) := by decide +kernel
theorem dX1_insert_72 : decode cX1_insert 72 = .ok (.putfield 22, 3) := by decide +kernel
theorem dX1_insert_75 : decode cX1_insert 75 = .ok (.return_, 1) := by decide +kernel
theorem dX1_chooseIfItJoins_0 : decode cX1_chooseIfItJoins 0 = .ok (.aload_n 0, 1) := by decide +kernel
theorem dX1_chooseIfItJoins_1 : decode cX1_chooseIfItJoins 1 = .ok (.aload_n 0, 1) := by decide +kernel
theorem dX1_chooseIfItJoins_2 : decode cX1_chooseIfItJoins 2 = .ok (.getfield 29, 3) := by decide +kernel
theorem dX1_chooseIfItJoins_5 : decode cX1_chooseIfItJoins 5 = .ok (.iload_n 1, 1) := by decide +kernel
theorem dX1_chooseIfItJoins_6 : decode cX1_chooseIfItJoins 6 = .ok (.invokevirtual 60, 3) := by decide +kernel
theorem dX1_chooseIfItJoins_9 : decode cX1_chooseIfItJoins 9 = .ok (.invokevirtual 64, 3) := by decide +kernel
theorem dX1_chooseIfItJoins_12 : decode cX1_chooseIfItJoins 12 = .ok (.istore_n 2, 1) := by decide +kernel
theorem dX1_chooseIfItJoins_13 : decode cX1_chooseIfItJoins 13 = .ok (.aload_n 0, 1) := by decide +kernel
theorem dX1_chooseIfItJoins_14 : decode cX1_chooseIfItJoins 14 = .ok (.aload_n 0, 1) := by decide +kernel
theorem dX1_chooseIfItJoins_15 : decode cX1_chooseIfItJoins 15 = .ok (.getfield 29, 3) := by decide +kernel
theorem dX1_chooseIfItJoins_18 : decode cX1_chooseIfItJoins 18 = .ok (.iload_n 1, 1) := by decide +kernel
theorem dX1_chooseIfItJoins_19 : decode cX1_chooseIfItJoins 19 = .ok (.invokevirtual 67, 3) := by decide +kernel
theorem dX1_chooseIfItJoins_22 : decode cX1_chooseIfItJoins 22 = .ok (.invokevirtual 64, 3) := by decide +kernel
theorem dX1_chooseIfItJoins_25 : decode cX1_chooseIfItJoins 25 = .ok (.istore_n 3, 1) := by decide +kernel
theorem dX1_chooseIfItJoins_26 : decode cX1_chooseIfItJoins 26 = .ok (.aload_n 0, 1) := by decide +kernel
theorem dX1_chooseIfItJoins_27 : decode cX1_chooseIfItJoins 27 = .ok (.getfield 29, 3) := by decide +kernel
theorem dX1_chooseIfItJoins_30 : decode cX1_chooseIfItJoins 30 = .ok (.iload_n 1, 1) := by decide +kernel
theorem dX1_chooseIfItJoins_31 : decode cX1_chooseIfItJoins 31 = .ok (.invokevirtual 70, 3) := by decide +kernel
theorem dX1_chooseIfItJoins_34 : decode cX1_chooseIfItJoins 34 = .ok (.ifCond .eq 8, 3) := by decide +kernel
theorem dX1_chooseIfItJoins_37 : decode cX1_chooseIfItJoins 37 = .ok (.iload_n 2, 1) := by decide +kernel
theorem dX1_chooseIfItJoins_38 : decode cX1_chooseIfItJoins 38 = .ok (.iload_n 3, 1) := by decide +kernel
theorem dX1_chooseIfItJoins_39 : decode cX1_chooseIfItJoins 39 = .ok (.if_icmp .ne 4, 3) := by decide +kernel
theorem dX1_chooseIfItJoins_42 : decode cX1_chooseIfItJoins 42 = .ok (.return_, 1) := by decide +kernel
theorem dX1_chooseIfItJoins_43 : decode cX1_chooseIfItJoins 43 = .ok (.aload_n 0, 1) := by decide +kernel
theorem dX1_chooseIfItJoins_44 : decode cX1_chooseIfItJoins 44 = .ok (.getfield 18, 3) := by decide +kernel
theorem dX1_chooseIfItJoins_47 : decode cX1_chooseIfItJoins 47 = .ok (.iload_n 1, 1) := by decide +kernel
theorem dX1_chooseIfItJoins_48 : decode cX1_chooseIfItJoins 48 = .ok (.iconst 1, 1) := by decide +kernel
theorem dX1_chooseIfItJoins_49 : decode cX1_chooseIfItJoins 49 = .ok (.bastore, 1) := by decide +kernel
theorem dX1_chooseIfItJoins_50 : decode cX1_chooseIfItJoins 50 = .ok (.aload_n 0, 1) := by decide +kernel
theorem dX1_chooseIfItJoins_51 : decode cX1_chooseIfItJoins 51 = .ok (.dup, 1) := by decide +kernel
theorem dX1_chooseIfItJoins_52 : decode cX1_chooseIfItJoins 52 = .ok (.getfield 26, 3) := by decide +kernel
theorem dX1_chooseIfItJoins_55 : decode cX1_chooseIfItJoins 55 = .ok (.aload_n 0, 1) := by decide +kernel
theorem dX1_chooseIfItJoins_56 : decode cX1_chooseIfItJoins 56 = .ok (.getfield 29, 3) := by decide +kernel
theorem dX1_chooseIfItJoins_59 : decode cX1_chooseIfItJoins 59 = .ok (.iload_n 1, 1) := by decide +kernel
theorem dX1_chooseIfItJoins_60 : decode cX1_chooseIfItJoins 60 = .ok (.invokevirtual 73, 3) := by decide +kernel
theorem dX1_chooseIfItJoins_63 : decode cX1_chooseIfItJoins 63 = .ok (.iadd, 1) := by decide +kernel
theorem dX1_chooseIfItJoins_64 : decode cX1_chooseIfItJoins 64 = .ok (.putfield 26, 3) := by decide +kernel
theorem dX1_chooseIfItJoins_67 : decode cX1_chooseIfItJoins 67 = .ok (.iconst 0, 1) := by decide +kernel
theorem dX1_chooseIfItJoins_68 : decode cX1_chooseIfItJoins 68 = .ok (.istore 4, 2) := by decide +kernel
theorem dX1_chooseIfItJoins_70 : decode cX1_chooseIfItJoins 70 = .ok (.iload 4, 2) := by decide +kernel
theorem dX1_chooseIfItJoins_72 : decode cX1_chooseIfItJoins 72 = .ok (.bipush 20, 2) := by decide +kernel
theorem dX1_chooseIfItJoins_74 : decode cX1_chooseIfItJoins 74 = .ok (.if_icmp .ge 28, 3) := by decide +kernel
theorem dX1_chooseIfItJoins_77 : decode cX1_chooseIfItJoins 77 = .ok (.aload_n 0, 1) := by decide +kernel
theorem dX1_chooseIfItJoins_78 : decode cX1_chooseIfItJoins 78 = .ok (.getfield 15, 3) := by decide +kernel
theorem dX1_chooseIfItJoins_81 : decode cX1_chooseIfItJoins 81 = .ok (.iload 4, 2) := by decide +kernel
theorem dX1_chooseIfItJoins_83 : decode cX1_chooseIfItJoins 83 = .ok (.iaload, 1) := by decide +kernel
theorem dX1_chooseIfItJoins_84 : decode cX1_chooseIfItJoins 84 = .ok (.iload_n 2, 1) := by decide +kernel
theorem dX1_chooseIfItJoins_85 : decode cX1_chooseIfItJoins 85 = .ok (.if_icmp .ne 11, 3) := by decide +kernel
theorem dX1_chooseIfItJoins_88 : decode cX1_chooseIfItJoins 88 = .ok (.aload_n 0, 1) := by decide +kernel
theorem dX1_chooseIfItJoins_89 : decode cX1_chooseIfItJoins 89 = .ok (.getfield 15, 3) := by decide +kernel
theorem dX1_chooseIfItJoins_92 : decode cX1_chooseIfItJoins 92 = .ok (.iload 4, 2) := by decide +kernel
theorem dX1_chooseIfItJoins_94 : decode cX1_chooseIfItJoins 94 = .ok (.iload_n 3, 1) := by decide +kernel
theorem dX1_chooseIfItJoins_95 : decode cX1_chooseIfItJoins 95 = .ok (.iastore, 1) := by decide +kernel
theorem dX1_chooseIfItJoins_96 : decode cX1_chooseIfItJoins 96 = .ok (.iinc 4 1, 3) := by decide +kernel
theorem dX1_chooseIfItJoins_99 : decode cX1_chooseIfItJoins 99 = .ok (.goto (-29), 3) := by decide +kernel
theorem dX1_chooseIfItJoins_102 : decode cX1_chooseIfItJoins 102 = .ok (.return_, 1) := by decide +kernel
theorem dX1_groupOf_0 : decode cX1_groupOf 0 = .ok (.aload_n 0, 1) := by decide +kernel
theorem dX1_groupOf_1 : decode cX1_groupOf 1 = .ok (.getfield 29, 3) := by decide +kernel
theorem dX1_groupOf_4 : decode cX1_groupOf 4 = .ok (.iload_n 1, 1) := by decide +kernel
theorem dX1_groupOf_5 : decode cX1_groupOf 5 = .ok (.invokevirtual 76, 3) := by decide +kernel
theorem dX1_groupOf_8 : decode cX1_groupOf 8 = .ok (.ifCond .eq 12, 3) := by decide +kernel
theorem dX1_groupOf_11 : decode cX1_groupOf 11 = .ok (.aload_n 0, 1) := by decide +kernel
theorem dX1_groupOf_12 : decode cX1_groupOf 12 = .ok (.getfield 15, 3) := by decide +kernel
theorem dX1_groupOf_15 : decode cX1_groupOf 15 = .ok (.iload_n 1, 1) := by decide +kernel
theorem dX1_groupOf_16 : decode cX1_groupOf 16 = .ok (.iaload, 1) := by decide +kernel
theorem dX1_groupOf_17 : decode cX1_groupOf 17 = .ok (.goto 4, 3) := by decide +kernel
theorem dX1_groupOf_20 : decode cX1_groupOf 20 = .ok (.iconst (-1), 1) := by decide +kernel
theorem dX1_groupOf_21 : decode cX1_groupOf 21 = .ok (.ireturn, 1) := by decide +kernel
theorem dX1_firstChosenOutside_0 : decode cX1_firstChosenOutside 0 = .ok (.iconst (-1), 1) := by decide +kernel
theorem dX1_firstChosenOutside_1 : decode cX1_firstChosenOutside 1 = .ok (.istore_n 2, 1) := by decide +kernel
theorem dX1_firstChosenOutside_2 : decode cX1_firstChosenOutside 2 = .ok (.iconst 0, 1) := by decide +kernel
theorem dX1_firstChosenOutside_3 : decode cX1_firstChosenOutside 3 = .ok (.istore_n 3, 1) := by decide +kernel
theorem dX1_firstChosenOutside_4 : decode cX1_firstChosenOutside 4 = .ok (.iload_n 3, 1) := by decide +kernel
theorem dX1_firstChosenOutside_5 : decode cX1_firstChosenOutside 5 = .ok (.bipush 60, 2) := by decide +kernel
theorem dX1_firstChosenOutside_7 : decode cX1_firstChosenOutside 7 = .ok (.if_icmp .ge 40, 3) := by decide +kernel
theorem dX1_firstChosenOutside_10 : decode cX1_firstChosenOutside 10 = .ok (.aload_n 0, 1) := by decide +kernel
theorem dX1_firstChosenOutside_11 : decode cX1_firstChosenOutside 11 = .ok (.getfield 18, 3) := by decide +kernel
theorem dX1_firstChosenOutside_14 : decode cX1_firstChosenOutside 14 = .ok (.iload_n 3, 1) := by decide +kernel
theorem dX1_firstChosenOutside_15 : decode cX1_firstChosenOutside 15 = .ok (.baload, 1) := by decide +kernel
theorem dX1_firstChosenOutside_16 : decode cX1_firstChosenOutside 16 = .ok (.ifCond .eq 25, 3) := by decide +kernel
theorem dX1_firstChosenOutside_19 : decode cX1_firstChosenOutside 19 = .ok (.aload_n 1, 1) := by decide +kernel
theorem dX1_firstChosenOutside_20 : decode cX1_firstChosenOutside 20 = .ok (.iload_n 3, 1) := by decide +kernel
theorem dX1_firstChosenOutside_21 : decode cX1_firstChosenOutside 21 = .ok (.invokevirtual 79, 3) := by decide +kernel
theorem dX1_firstChosenOutside_24 : decode cX1_firstChosenOutside 24 = .ok (.ifCond .ne 17, 3) := by decide +kernel
theorem dX1_firstChosenOutside_27 : decode cX1_firstChosenOutside 27 = .ok (.aload_n 0, 1) := by decide +kernel
theorem dX1_firstChosenOutside_28 : decode cX1_firstChosenOutside 28 = .ok (.getfield 29, 3) := by decide +kernel
theorem dX1_firstChosenOutside_31 : decode cX1_firstChosenOutside 31 = .ok (.iload_n 3, 1) := by decide +kernel
theorem dX1_firstChosenOutside_32 : decode cX1_firstChosenOutside 32 = .ok (.iload_n 2, 1) := by decide +kernel
theorem dX1_firstChosenOutside_33 : decode cX1_firstChosenOutside 33 = .ok (.invokevirtual 56, 3) := by decide +kernel
theorem dX1_firstChosenOutside_36 : decode cX1_firstChosenOutside 36 = .ok (.ifCond .eq 5, 3) := by decide +kernel
theorem dX1_firstChosenOutside_39 : decode cX1_firstChosenOutside 39 = .ok (.iload_n 3, 1) := by decide +kernel
theorem dX1_firstChosenOutside_40 : decode cX1_firstChosenOutside 40 = .ok (.istore_n 2, 1) := by decide +kernel
theorem dX1_firstChosenOutside_41 : decode cX1_firstChosenOutside 41 = .ok (.iinc 3 1, 3) := by decide +kernel
theorem dX1_firstChosenOutside_44 : decode cX1_firstChosenOutside 44 = .ok (.goto (-40), 3) := by decide +kernel
theorem dX1_firstChosenOutside_47 : decode cX1_firstChosenOutside 47 = .ok (.iload_n 2, 1) := by decide +kernel
theorem dX1_firstChosenOutside_48 : decode cX1_firstChosenOutside 48 = .ok (.ireturn, 1) := by decide +kernel
theorem dX2_init_0 : decode cX2_init 0 = .ok (.aload_n 0, 1) := by decide +kernel
theorem dX2_init_1 : decode cX2_init 1 = .ok (.invokespecial 3, 3) := by decide +kernel
theorem dX2_init_4 : decode cX2_init 4 = .ok (.aload_n 0, 1) := by decide +kernel
theorem dX2_init_5 : decode cX2_init 5 = .ok (.aload_n 1, 1) := by decide +kernel
theorem dX2_init_6 : decode cX2_init 6 = .ok (.putfield 9, 3) := by decide +kernel
theorem dX2_init_9 : decode cX2_init 9 = .ok (.aload_n 0, 1) := by decide +kernel
theorem dX2_init_10 : decode cX2_init 10 = .ok (.aload_n 2, 1) := by decide +kernel
theorem dX2_init_11 : decode cX2_init 11 = .ok (.putfield 15, 3) := by decide +kernel
theorem dX2_init_14 : decode cX2_init 14 = .ok (.aload_n 0, 1) := by decide +kernel
theorem dX2_init_15 : decode cX2_init 15 = .ok (.aload_n 3, 1) := by decide +kernel
theorem dX2_init_16 : decode cX2_init 16 = .ok (.putfield 19, 3) := by decide +kernel
theorem dX2_init_19 : decode cX2_init 19 = .ok (.return_, 1) := by decide +kernel
theorem dX2_admit_0 : decode cX2_admit 0 = .ok (.aload_n 0, 1) := by decide +kernel
theorem dX2_admit_1 : decode cX2_admit 1 = .ok (.getfield 19, 3) := by decide +kernel
theorem dX2_admit_4 : decode cX2_admit 4 = .ok (.aload_n 0, 1) := by decide +kernel
theorem dX2_admit_5 : decode cX2_admit 5 = .ok (.getfield 9, 3) := by decide +kernel
theorem dX2_admit_8 : decode cX2_admit 8 = .ok (.iload_n 1, 1) := by decide +kernel
theorem dX2_admit_9 : decode cX2_admit 9 = .ok (.invokevirtual 23, 3) := by decide +kernel
theorem dX2_admit_12 : decode cX2_admit 12 = .ok (.iconst (-1), 1) := by decide +kernel
theorem dX2_admit_13 : decode cX2_admit 13 = .ok (.invokevirtual 29, 3) := by decide +kernel
theorem dX2_admit_16 : decode cX2_admit 16 = .ok (.aload_n 0, 1) := by decide +kernel
theorem dX2_admit_17 : decode cX2_admit 17 = .ok (.getfield 19, 3) := by decide +kernel
theorem dX2_admit_20 : decode cX2_admit 20 = .ok (.aload_n 0, 1) := by decide +kernel
theorem dX2_admit_21 : decode cX2_admit 21 = .ok (.getfield 9, 3) := by decide +kernel
theorem dX2_admit_24 : decode cX2_admit 24 = .ok (.iload_n 1, 1) := by decide +kernel
theorem dX2_admit_25 : decode cX2_admit 25 = .ok (.invokevirtual 35, 3) := by decide +kernel
theorem dX2_admit_28 : decode cX2_admit 28 = .ok (.invokevirtual 38, 3) := by decide +kernel
theorem dX2_admit_31 : decode cX2_admit 31 = .ok (.ifCond .ne 12, 3) := by decide +kernel
theorem dX2_admit_34 : decode cX2_admit 34 = .ok (.aload_n 0, 1) := by decide +kernel
theorem dX2_admit_35 : decode cX2_admit 35 = .ok (.getfield 15, 3) := by decide +kernel
theorem dX2_admit_38 : decode cX2_admit 38 = .ok (.iload_n 1, 1) := by decide +kernel
theorem dX2_admit_39 : decode cX2_admit 39 = .ok (.invokevirtual 42, 3) := by decide +kernel
theorem dX2_admit_42 : decode cX2_admit 42 = .ok (.return_, 1) := by decide +kernel
theorem dX2_admit_43 : decode cX2_admit 43 = .ok (.aload_n 0, 1) := by decide +kernel
theorem dX2_admit_44 : decode cX2_admit 44 = .ok (.getfield 19, 3) := by decide +kernel
theorem dX2_admit_47 : decode cX2_admit 47 = .ok (.aload_n 0, 1) := by decide +kernel
theorem dX2_admit_48 : decode cX2_admit 48 = .ok (.getfield 9, 3) := by decide +kernel
theorem dX2_admit_51 : decode cX2_admit 51 = .ok (.iload_n 1, 1) := by decide +kernel
theorem dX2_admit_52 : decode cX2_admit 52 = .ok (.invokevirtual 35, 3) := by decide +kernel
theorem dX2_admit_55 : decode cX2_admit 55 = .ok (.invokevirtual 48, 3) := by decide +kernel
theorem dX2_admit_58 : decode cX2_admit 58 = .ok (.istore_n 2, 1) := by decide +kernel
theorem dX2_admit_59 : decode cX2_admit 59 = .ok (.iload_n 2, 1) := by decide +kernel
theorem dX2_admit_60 : decode cX2_admit 60 = .ok (.iconst (-1), 1) := by decide +kernel
theorem dX2_admit_61 : decode cX2_admit 61 = .ok (.if_icmp .eq 31, 3) := by decide +kernel
theorem dX2_admit_64 : decode cX2_admit 64 = .ok (.aload_n 0, 1) := by decide +kernel
theorem dX2_admit_65 : decode cX2_admit 65 = .ok (.getfield 9, 3) := by decide +kernel
theorem dX2_admit_68 : decode cX2_admit 68 = .ok (.iload_n 1, 1) := by decide +kernel
theorem dX2_admit_69 : decode cX2_admit 69 = .ok (.iload_n 2, 1) := by decide +kernel
theorem dX2_admit_70 : decode cX2_admit 70 = .ok (.invokevirtual 51, 3) := by decide +kernel
theorem dX2_admit_73 : decode cX2_admit 73 = .ok (.ifCond .eq 19, 3) := by decide +kernel
theorem dX2_admit_76 : decode cX2_admit 76 = .ok (.aload_n 0, 1) := by decide +kernel
theorem dX2_admit_77 : decode cX2_admit 77 = .ok (.getfield 15, 3) := by decide +kernel
theorem dX2_admit_80 : decode cX2_admit 80 = .ok (.iload_n 2, 1) := by decide +kernel
theorem dX2_admit_81 : decode cX2_admit 81 = .ok (.invokevirtual 55, 3) := by decide +kernel
theorem dX2_admit_84 : decode cX2_admit 84 = .ok (.aload_n 0, 1) := by decide +kernel
theorem dX2_admit_85 : decode cX2_admit 85 = .ok (.getfield 15, 3) := by decide +kernel
theorem dX2_admit_88 : decode cX2_admit 88 = .ok (.iload_n 1, 1) := by decide +kernel
theorem dX2_admit_89 : decode cX2_admit 89 = .ok (.invokevirtual 42, 3) := by decide +kernel
theorem dX2_admit_92 : decode cX2_admit 92 = .ok (.return_, 1) := by decide +kernel
theorem dX2_release_0 : decode cX2_release 0 = .ok (.aload_n 0, 1) := by decide +kernel
theorem dX2_release_1 : decode cX2_release 1 = .ok (.getfield 15, 3) := by decide +kernel
theorem dX2_release_4 : decode cX2_release 4 = .ok (.iload_n 1, 1) := by decide +kernel
theorem dX2_release_5 : decode cX2_release 5 = .ok (.invokevirtual 58, 3) := by decide +kernel
theorem dX2_release_8 : decode cX2_release 8 = .ok (.ifCond .ne 13, 3) := by decide +kernel
theorem dX2_release_11 : decode cX2_release 11 = .ok (.aload_n 0, 1) := by decide +kernel
theorem dX2_release_12 : decode cX2_release 12 = .ok (.getfield 9, 3) := by decide +kernel
theorem dX2_release_15 : decode cX2_release 15 = .ok (.iload_n 1, 1) := by decide +kernel
theorem dX2_release_16 : decode cX2_release 16 = .ok (.invokevirtual 59, 3) := by decide +kernel
theorem dX2_release_19 : decode cX2_release 19 = .ok (.iconst (-1), 1) := by decide +kernel
theorem dX2_release_20 : decode cX2_release 20 = .ok (.ireturn, 1) := by decide +kernel
theorem dX2_release_21 : decode cX2_release 21 = .ok (.aload_n 0, 1) := by decide +kernel
theorem dX2_release_22 : decode cX2_release 22 = .ok (.iload_n 1, 1) := by decide +kernel
theorem dX2_release_23 : decode cX2_release 23 = .ok (.invokevirtual 62, 3) := by decide +kernel
theorem dX2_release_26 : decode cX2_release 26 = .ok (.istore_n 2, 1) := by decide +kernel
theorem dX2_release_27 : decode cX2_release 27 = .ok (.aload_n 0, 1) := by decide +kernel
theorem dX2_release_28 : decode cX2_release 28 = .ok (.getfield 15, 3) := by decide +kernel
theorem dX2_release_31 : decode cX2_release 31 = .ok (.iload_n 1, 1) := by decide +kernel
theorem dX2_release_32 : decode cX2_release 32 = .ok (.invokevirtual 55, 3) := by decide +kernel
theorem dX2_release_35 : decode cX2_release 35 = .ok (.aload_n 0, 1) := by decide +kernel
theorem dX2_release_36 : decode cX2_release 36 = .ok (.getfield 9, 3) := by decide +kernel
theorem dX2_release_39 : decode cX2_release 39 = .ok (.iload_n 1, 1) := by decide +kernel
theorem dX2_release_40 : decode cX2_release 40 = .ok (.invokevirtual 59, 3) := by decide +kernel
theorem dX2_release_43 : decode cX2_release 43 = .ok (.iload_n 2, 1) := by decide +kernel
theorem dX2_release_44 : decode cX2_release 44 = .ok (.iconst (-1), 1) := by decide +kernel
theorem dX2_release_45 : decode cX2_release 45 = .ok (.if_icmp .eq 11, 3) := by decide +kernel
theorem dX2_release_48 : decode cX2_release 48 = .ok (.aload_n 0, 1) := by decide +kernel
theorem dX2_release_49 : decode cX2_release 49 = .ok (.getfield 15, 3) := by decide +kernel
theorem dX2_release_52 : decode cX2_release 52 = .ok (.iload_n 2, 1) := by decide +kernel
theorem dX2_release_53 : decode cX2_release 53 = .ok (.invokevirtual 42, 3) := by decide +kernel
theorem dX2_release_56 : decode cX2_release 56 = .ok (.iload_n 2, 1) := by decide +kernel
theorem dX2_release_57 : decode cX2_release 57 = .ok (.ireturn, 1) := by decide +kernel
theorem dX2_reweigh_0 : decode cX2_reweigh 0 = .ok (.aload_n 0, 1) := by decide +kernel
theorem dX2_reweigh_1 : decode cX2_reweigh 1 = .ok (.getfield 15, 3) := by decide +kernel
theorem dX2_reweigh_4 : decode cX2_reweigh 4 = .ok (.iload_n 1, 1) := by decide +kernel
theorem dX2_reweigh_5 : decode cX2_reweigh 5 = .ok (.invokevirtual 58, 3) := by decide +kernel
theorem dX2_reweigh_8 : decode cX2_reweigh 8 = .ok (.ifCond .ne 18, 3) := by decide +kernel
theorem dX2_reweigh_11 : decode cX2_reweigh 11 = .ok (.aload_n 0, 1) := by decide +kernel
theorem dX2_reweigh_12 : decode cX2_reweigh 12 = .ok (.getfield 9, 3) := by decide +kernel
theorem dX2_reweigh_15 : decode cX2_reweigh 15 = .ok (.iload_n 1, 1) := by decide +kernel
theorem dX2_reweigh_16 : decode cX2_reweigh 16 = .ok (.iload_n 2, 1) := by decide +kernel
theorem dX2_reweigh_17 : decode cX2_reweigh 17 = .ok (.invokevirtual 65, 3) := by decide +kernel
theorem dX2_reweigh_20 : decode cX2_reweigh 20 = .ok (.aload_n 0, 1) := by decide +kernel
theorem dX2_reweigh_21 : decode cX2_reweigh 21 = .ok (.iload_n 1, 1) := by decide +kernel
theorem dX2_reweigh_22 : decode cX2_reweigh 22 = .ok (.invokevirtual 68, 3) := by decide +kernel
theorem dX2_reweigh_25 : decode cX2_reweigh 25 = .ok (.return_, 1) := by decide +kernel
theorem dX2_reweigh_26 : decode cX2_reweigh 26 = .ok (.aload_n 0, 1) := by decide +kernel
theorem dX2_reweigh_27 : decode cX2_reweigh 27 = .ok (.iload_n 1, 1) := by decide +kernel
theorem dX2_reweigh_28 : decode cX2_reweigh 28 = .ok (.invokevirtual 62, 3) := by decide +kernel
theorem dX2_reweigh_31 : decode cX2_reweigh 31 = .ok (.istore_n 3, 1) := by decide +kernel
theorem dX2_reweigh_32 : decode cX2_reweigh 32 = .ok (.aload_n 0, 1) := by decide +kernel
theorem dX2_reweigh_33 : decode cX2_reweigh 33 = .ok (.getfield 15, 3) := by decide +kernel
theorem dX2_reweigh_36 : decode cX2_reweigh 36 = .ok (.iload_n 1, 1) := by decide +kernel
theorem dX2_reweigh_37 : decode cX2_reweigh 37 = .ok (.invokevirtual 55, 3) := by decide +kernel
theorem dX2_reweigh_40 : decode cX2_reweigh 40 = .ok (.aload_n 0, 1) := by decide +kernel
theorem dX2_reweigh_41 : decode cX2_reweigh 41 = .ok (.getfield 9, 3) := by decide +kernel
theorem dX2_reweigh_44 : decode cX2_reweigh 44 = .ok (.iload_n 1, 1) := by decide +kernel
theorem dX2_reweigh_45 : decode cX2_reweigh 45 = .ok (.iload_n 2, 1) := by decide +kernel
theorem dX2_reweigh_46 : decode cX2_reweigh 46 = .ok (.invokevirtual 65, 3) := by decide +kernel
theorem dX2_reweigh_49 : decode cX2_reweigh 49 = .ok (.aload_n 0, 1) := by decide +kernel
theorem dX2_reweigh_50 : decode cX2_reweigh 50 = .ok (.getfield 15, 3) := by decide +kernel
theorem dX2_reweigh_53 : decode cX2_reweigh 53 = .ok (.aload_n 0, 1) := by decide +kernel
theorem dX2_reweigh_54 : decode cX2_reweigh 54 = .ok (.getfield 9, 3) := by decide +kernel
theorem dX2_reweigh_57 : decode cX2_reweigh 57 = .ok (.iload_n 1, 1) := by decide +kernel
theorem dX2_reweigh_58 : decode cX2_reweigh 58 = .ok (.iload_n 3, 1) := by decide +kernel
theorem dX2_reweigh_59 : decode cX2_reweigh 59 = .ok (.invokevirtual 51, 3) := by decide +kernel
theorem dX2_reweigh_62 : decode cX2_reweigh 62 = .ok (.ifCond .eq 7, 3) := by decide +kernel
theorem dX2_reweigh_65 : decode cX2_reweigh 65 = .ok (.iload_n 1, 1) := by decide +kernel
theorem dX2_reweigh_66 : decode cX2_reweigh 66 = .ok (.goto 4, 3) := by decide +kernel
theorem dX2_reweigh_69 : decode cX2_reweigh 69 = .ok (.iload_n 3, 1) := by decide +kernel
theorem dX2_reweigh_70 : decode cX2_reweigh 70 = .ok (.invokevirtual 42, 3) := by decide +kernel
theorem dX2_reweigh_73 : decode cX2_reweigh 73 = .ok (.return_, 1) := by decide +kernel
theorem dX2_findReplacement_0 : decode cX2_findReplacement 0 = .ok (.aload_n 0, 1) := by decide +kernel
theorem dX2_findReplacement_1 : decode cX2_findReplacement 1 = .ok (.getfield 19, 3) := by decide +kernel
theorem dX2_findReplacement_4 : decode cX2_findReplacement 4 = .ok (.aload_n 0, 1) := by decide +kernel
theorem dX2_findReplacement_5 : decode cX2_findReplacement 5 = .ok (.getfield 9, 3) := by decide +kernel
theorem dX2_findReplacement_8 : decode cX2_findReplacement 8 = .ok (.iload_n 1, 1) := by decide +kernel
theorem dX2_findReplacement_9 : decode cX2_findReplacement 9 = .ok (.invokevirtual 23, 3) := by decide +kernel
theorem dX2_findReplacement_12 : decode cX2_findReplacement 12 = .ok (.iload_n 1, 1) := by decide +kernel
theorem dX2_findReplacement_13 : decode cX2_findReplacement 13 = .ok (.invokevirtual 29, 3) := by decide +kernel
theorem dX2_findReplacement_16 : decode cX2_findReplacement 16 = .ok (.iconst (-1), 1) := by decide +kernel
theorem dX2_findReplacement_17 : decode cX2_findReplacement 17 = .ok (.istore_n 2, 1) := by decide +kernel
theorem dX2_findReplacement_18 : decode cX2_findReplacement 18 = .ok (.iconst 0, 1) := by decide +kernel
theorem dX2_findReplacement_19 : decode cX2_findReplacement 19 = .ok (.istore_n 3, 1) := by decide +kernel
theorem dX2_findReplacement_20 : decode cX2_findReplacement 20 = .ok (.iload_n 3, 1) := by decide +kernel
theorem dX2_findReplacement_21 : decode cX2_findReplacement 21 = .ok (.aload_n 0, 1) := by decide +kernel
theorem dX2_findReplacement_22 : decode cX2_findReplacement 22 = .ok (.getfield 9, 3) := by decide +kernel
theorem dX2_findReplacement_25 : decode cX2_findReplacement 25 = .ok (.invokevirtual 71, 3) := by decide +kernel
theorem dX2_findReplacement_28 : decode cX2_findReplacement 28 = .ok (.if_icmp .ge 36, 3) := by decide +kernel
theorem dX2_findReplacement_31 : decode cX2_findReplacement 31 = .ok (.iload_n 3, 1) := by decide +kernel
theorem dX2_findReplacement_32 : decode cX2_findReplacement 32 = .ok (.iload_n 1, 1) := by decide +kernel
theorem dX2_findReplacement_33 : decode cX2_findReplacement 33 = .ok (.if_icmp .eq 25, 3) := by decide +kernel
theorem dX2_findReplacement_36 : decode cX2_findReplacement 36 = .ok (.aload_n 0, 1) := by decide +kernel
theorem dX2_findReplacement_37 : decode cX2_findReplacement 37 = .ok (.iload_n 3, 1) := by decide +kernel
theorem dX2_findReplacement_38 : decode cX2_findReplacement 38 = .ok (.invokevirtual 75, 3) := by decide +kernel
theorem dX2_findReplacement_41 : decode cX2_findReplacement 41 = .ok (.ifCond .eq 17, 3) := by decide +kernel
theorem dX2_findReplacement_44 : decode cX2_findReplacement 44 = .ok (.aload_n 0, 1) := by decide +kernel
theorem dX2_findReplacement_45 : decode cX2_findReplacement 45 = .ok (.getfield 9, 3) := by decide +kernel
theorem dX2_findReplacement_48 : decode cX2_findReplacement 48 = .ok (.iload_n 3, 1) := by decide +kernel
theorem dX2_findReplacement_49 : decode cX2_findReplacement 49 = .ok (.iload_n 2, 1) := by decide +kernel
theorem dX2_findReplacement_50 : decode cX2_findReplacement 50 = .ok (.invokevirtual 51, 3) := by decide +kernel
theorem dX2_findReplacement_53 : decode cX2_findReplacement 53 = .ok (.ifCond .eq 5, 3) := by decide +kernel
theorem dX2_findReplacement_56 : decode cX2_findReplacement 56 = .ok (.iload_n 3, 1) := by decide +kernel
theorem dX2_findReplacement_57 : decode cX2_findReplacement 57 = .ok (.istore_n 2, 1) := by decide +kernel
theorem dX2_findReplacement_58 : decode cX2_findReplacement 58 = .ok (.iinc 3 1, 3) := by decide +kernel
theorem dX2_findReplacement_61 : decode cX2_findReplacement 61 = .ok (.goto (-41), 3) := by decide +kernel
theorem dX2_findReplacement_64 : decode cX2_findReplacement 64 = .ok (.iload_n 2, 1) := by decide +kernel
theorem dX2_findReplacement_65 : decode cX2_findReplacement 65 = .ok (.ireturn, 1) := by decide +kernel
theorem dX2_leavesPlanted_0 : decode cX2_leavesPlanted 0 = .ok (.aload_n 0, 1) := by decide +kernel
theorem dX2_leavesPlanted_1 : decode cX2_leavesPlanted 1 = .ok (.getfield 9, 3) := by decide +kernel
theorem dX2_leavesPlanted_4 : decode cX2_leavesPlanted 4 = .ok (.iload_n 1, 1) := by decide +kernel
theorem dX2_leavesPlanted_5 : decode cX2_leavesPlanted 5 = .ok (.invokevirtual 78, 3) := by decide +kernel
theorem dX2_leavesPlanted_8 : decode cX2_leavesPlanted 8 = .ok (.ifCond .eq 40, 3) := by decide +kernel
theorem dX2_leavesPlanted_11 : decode cX2_leavesPlanted 11 = .ok (.aload_n 0, 1) := by decide +kernel
theorem dX2_leavesPlanted_12 : decode cX2_leavesPlanted 12 = .ok (.getfield 19, 3) := by decide +kernel
theorem dX2_leavesPlanted_15 : decode cX2_leavesPlanted 15 = .ok (.aload_n 0, 1) := by decide +kernel
theorem dX2_leavesPlanted_16 : decode cX2_leavesPlanted 16 = .ok (.getfield 9, 3) := by decide +kernel
theorem dX2_leavesPlanted_19 : decode cX2_leavesPlanted 19 = .ok (.iload_n 1, 1) := by decide +kernel
theorem dX2_leavesPlanted_20 : decode cX2_leavesPlanted 20 = .ok (.invokevirtual 23, 3) := by decide +kernel
theorem dX2_leavesPlanted_23 : decode cX2_leavesPlanted 23 = .ok (.invokevirtual 38, 3) := by decide +kernel
theorem dX2_leavesPlanted_26 : decode cX2_leavesPlanted 26 = .ok (.aload_n 0, 1) := by decide +kernel
theorem dX2_leavesPlanted_27 : decode cX2_leavesPlanted 27 = .ok (.getfield 19, 3) := by decide +kernel
theorem dX2_leavesPlanted_30 : decode cX2_leavesPlanted 30 = .ok (.aload_n 0, 1) := by decide +kernel
theorem dX2_leavesPlanted_31 : decode cX2_leavesPlanted 31 = .ok (.getfield 9, 3) := by decide +kernel
theorem dX2_leavesPlanted_34 : decode cX2_leavesPlanted 34 = .ok (.iload_n 1, 1) := by decide +kernel
theorem dX2_leavesPlanted_35 : decode cX2_leavesPlanted 35 = .ok (.invokevirtual 35, 3) := by decide +kernel
theorem dX2_leavesPlanted_38 : decode cX2_leavesPlanted 38 = .ok (.invokevirtual 38, 3) := by decide +kernel
theorem dX2_leavesPlanted_41 : decode cX2_leavesPlanted 41 = .ok (.if_icmp .eq 7, 3) := by decide +kernel
theorem dX2_leavesPlanted_44 : decode cX2_leavesPlanted 44 = .ok (.iconst 1, 1) := by decide +kernel
theorem dX2_leavesPlanted_45 : decode cX2_leavesPlanted 45 = .ok (.goto 4, 3) := by decide +kernel
theorem dX2_leavesPlanted_48 : decode cX2_leavesPlanted 48 = .ok (.iconst 0, 1) := by decide +kernel
theorem dX2_leavesPlanted_49 : decode cX2_leavesPlanted 49 = .ok (.ireturn, 1) := by decide +kernel
theorem dX3_init_0 : decode cX3_init 0 = .ok (.aload_n 0, 1) := by decide +kernel
theorem dX3_init_1 : decode cX3_init 1 = .ok (.invokespecial 3, 3) := by decide +kernel
theorem dX3_init_4 : decode cX3_init 4 = .ok (.aload_n 0, 1) := by decide +kernel
theorem dX3_init_5 : decode cX3_init 5 = .ok (.bipush 20, 2) := by decide +kernel
theorem dX3_init_7 : decode cX3_init 7 = .ok (.newarray .int, 2) := by decide +kernel
theorem dX3_init_9 : decode cX3_init 9 = .ok (.putfield 9, 3) := by decide +kernel
theorem dX3_init_12 : decode cX3_init 12 = .ok (.aload_n 0, 1) := by decide +kernel
theorem dX3_init_13 : decode cX3_init 13 = .ok (.bipush 60, 2) := by decide +kernel
theorem dX3_init_15 : decode cX3_init 15 = .ok (.newarray .int, 2) := by decide +kernel
theorem dX3_init_17 : decode cX3_init 17 = .ok (.putfield 15, 3) := by decide +kernel
theorem dX3_init_20 : decode cX3_init 20 = .ok (.aload_n 0, 1) := by decide +kernel
theorem dX3_init_21 : decode cX3_init 21 = .ok (.bipush 60, 2) := by decide +kernel
theorem dX3_init_23 : decode cX3_init 23 = .ok (.newarray .int, 2) := by decide +kernel
theorem dX3_init_25 : decode cX3_init 25 = .ok (.putfield 18, 3) := by decide +kernel
theorem dX3_init_28 : decode cX3_init 28 = .ok (.aload_n 0, 1) := by decide +kernel
theorem dX3_init_29 : decode cX3_init 29 = .ok (.bipush 60, 2) := by decide +kernel
theorem dX3_init_31 : decode cX3_init 31 = .ok (.newarray .int, 2) := by decide +kernel
theorem dX3_init_33 : decode cX3_init 33 = .ok (.putfield 21, 3) := by decide +kernel
theorem dX3_init_36 : decode cX3_init 36 = .ok (.aload_n 0, 1) := by decide +kernel
theorem dX3_init_37 : decode cX3_init 37 = .ok (.bipush 60, 2) := by decide +kernel
theorem dX3_init_39 : decode cX3_init 39 = .ok (.newarray .boolean, 2) := by decide +kernel
theorem dX3_init_41 : decode cX3_init 41 = .ok (.putfield 24, 3) := by decide +kernel
theorem dX3_init_44 : decode cX3_init 44 = .ok (.aload_n 0, 1) := by decide +kernel
theorem dX3_init_45 : decode cX3_init 45 = .ok (.iconst 0, 1) := by decide +kernel
theorem dX3_init_46 : decode cX3_init 46 = .ok (.putfield 28, 3) := by decide +kernel
theorem dX3_init_49 : decode cX3_init 49 = .ok (.aload_n 0, 1) := by decide +kernel
theorem dX3_init_50 : decode cX3_init 50 = .ok (.iconst 0, 1) := by decide +kernel
theorem dX3_init_51 : decode cX3_init 51 = .ok (.putfield 32, 3) := by decide +kernel
theorem dX3_init_54 : decode cX3_init 54 = .ok (.return_, 1) := by decide +kernel
theorem dX3_vertexCount_0 : decode cX3_vertexCount 0 = .ok (.aload_n 0, 1) := by decide +kernel
theorem dX3_vertexCount_1 : decode cX3_vertexCount 1 = .ok (.getfield 28, 3) := by decide +kernel
theorem dX3_vertexCount_4 : decode cX3_vertexCount 4 = .ok (.ireturn, 1) := by decide +kernel
theorem dX3_edgeCount_0 : decode cX3_edgeCount 0 = .ok (.aload_n 0, 1) := by decide +kernel
theorem dX3_edgeCount_1 : decode cX3_edgeCount 1 = .ok (.getfield 32, 3) := by decide +kernel
theorem dX3_edgeCount_4 : decode cX3_edgeCount 4 = .ok (.ireturn, 1) := by decide +kernel
theorem dX3_hasVertex_0 : decode cX3_hasVertex 0 = .ok (.iload_n 1, 1) := by decide +kernel
theorem dX3_hasVertex_1 : decode cX3_hasVertex 1 = .ok (.ifCond .lt 15, 3) := by decide +kernel
theorem dX3_hasVertex_4 : decode cX3_hasVertex 4 = .ok (.iload_n 1, 1) := by decide +kernel
theorem dX3_hasVertex_5 : decode cX3_hasVertex 5 = .ok (.aload_n 0, 1) := by decide +kernel
theorem dX3_hasVertex_6 : decode cX3_hasVertex 6 = .ok (.getfield 28, 3) := by decide +kernel
theorem dX3_hasVertex_9 : decode cX3_hasVertex 9 = .ok (.if_icmp .ge 7, 3) := by decide +kernel
theorem dX3_hasVertex_12 : decode cX3_hasVertex 12 = .ok (.iconst 1, 1) := by decide +kernel
theorem dX3_hasVertex_13 : decode cX3_hasVertex 13 = .ok (.goto 4, 3) := by decide +kernel
theorem dX3_hasVertex_16 : decode cX3_hasVertex 16 = .ok (.iconst 0, 1) := by decide +kernel
theorem dX3_hasVertex_17 : decode cX3_hasVertex 17 = .ok (.ireturn, 1) := by decide +kernel
theorem dX3_hasEdge_0 : decode cX3_hasEdge 0 = .ok (.iload_n 1, 1) := by decide +kernel
theorem dX3_hasEdge_1 : decode cX3_hasEdge 1 = .ok (.ifCond .lt 15, 3) := by decide +kernel
theorem dX3_hasEdge_4 : decode cX3_hasEdge 4 = .ok (.iload_n 1, 1) := by decide +kernel
theorem dX3_hasEdge_5 : decode cX3_hasEdge 5 = .ok (.aload_n 0, 1) := by decide +kernel
theorem dX3_hasEdge_6 : decode cX3_hasEdge 6 = .ok (.getfield 32, 3) := by decide +kernel
theorem dX3_hasEdge_9 : decode cX3_hasEdge 9 = .ok (.if_icmp .ge 7, 3) := by decide +kernel
theorem dX3_hasEdge_12 : decode cX3_hasEdge 12 = .ok (.iconst 1, 1) := by decide +kernel
theorem dX3_hasEdge_13 : decode cX3_hasEdge 13 = .ok (.goto 4, 3) := by decide +kernel
theorem dX3_hasEdge_16 : decode cX3_hasEdge 16 = .ok (.iconst 0, 1) := by decide +kernel
theorem dX3_hasEdge_17 : decode cX3_hasEdge 17 = .ok (.ireturn, 1) := by decide +kernel
theorem dX3_appendVertex_0 : decode cX3_appendVertex 0 = .ok (.aload_n 0, 1) := by decide +kernel
theorem dX3_appendVertex_1 : decode cX3_appendVertex 1 = .ok (.getfield 28, 3) := by decide +kernel
theorem dX3_appendVertex_4 : decode cX3_appendVertex 4 = .ok (.bipush 20, 2) := by decide +kernel
theorem dX3_appendVertex_6 : decode cX3_appendVertex 6 = .ok (.if_icmp .lt 5, 3) := by decide +kernel
theorem dX3_appendVertex_9 : decode cX3_appendVertex 9 = .ok (.iconst (-1), 1) := by decide +kernel
theorem dX3_appendVertex_10 : decode cX3_appendVertex 10 = .ok (.ireturn, 1) := by decide +kernel
theorem dX3_appendVertex_11 : decode cX3_appendVertex 11 = .ok (.aload_n 0, 1) := by decide +kernel
theorem dX3_appendVertex_12 : decode cX3_appendVertex 12 = .ok (.getfield 9, 3) := by decide +kernel
theorem dX3_appendVertex_15 : decode cX3_appendVertex 15 = .ok (.aload_n 0, 1) := by decide +kernel
theorem dX3_appendVertex_16 : decode cX3_appendVertex 16 = .ok (.getfield 28, 3) := by decide +kernel
theorem dX3_appendVertex_19 : decode cX3_appendVertex 19 = .ok (.iload_n 1, 1) := by decide +kernel
theorem dX3_appendVertex_20 : decode cX3_appendVertex 20 = .ok (.iastore, 1) := by decide +kernel
theorem dX3_appendVertex_21 : decode cX3_appendVertex 21 = .ok (.aload_n 0, 1) := by decide +kernel
theorem dX3_appendVertex_22 : decode cX3_appendVertex 22 = .ok (.dup, 1) := by decide +kernel
theorem dX3_appendVertex_23 : decode cX3_appendVertex 23 = .ok (.getfield 28, 3) := by decide +kernel
theorem dX3_appendVertex_26 : decode cX3_appendVertex 26 = .ok (.iconst 1, 1) := by decide +kernel
theorem dX3_appendVertex_27 : decode cX3_appendVertex 27 = .ok (.iadd, 1) := by decide +kernel
theorem dX3_appendVertex_28 : decode cX3_appendVertex 28 = .ok (.putfield 28, 3) := by decide +kernel
theorem dX3_appendVertex_31 : decode cX3_appendVertex 31 = .ok (.aload_n 0, 1) := by decide +kernel
theorem dX3_appendVertex_32 : decode cX3_appendVertex 32 = .ok (.getfield 28, 3) := by decide +kernel
theorem dX3_appendVertex_35 : decode cX3_appendVertex 35 = .ok (.iconst 1, 1) := by decide +kernel
theorem dX3_appendVertex_36 : decode cX3_appendVertex 36 = .ok (.isub, 1) := by decide +kernel
theorem dX3_appendVertex_37 : decode cX3_appendVertex 37 = .ok (.ireturn, 1) := by decide +kernel
theorem dX3_appendEdge_0 : decode cX3_appendEdge 0 = .ok (.aload_n 0, 1) := by decide +kernel
theorem dX3_appendEdge_1 : decode cX3_appendEdge 1 = .ok (.getfield 32, 3) := by decide +kernel
theorem dX3_appendEdge_4 : decode cX3_appendEdge 4 = .ok (.bipush 60, 2) := by decide +kernel
theorem dX3_appendEdge_6 : decode cX3_appendEdge 6 = .ok (.if_icmp .lt 5, 3) := by decide +kernel
theorem dX3_appendEdge_9 : decode cX3_appendEdge 9 = .ok (.iconst (-1), 1) := by decide +kernel
theorem dX3_appendEdge_10 : decode cX3_appendEdge 10 = .ok (.ireturn, 1) := by decide +kernel
theorem dX3_appendEdge_11 : decode cX3_appendEdge 11 = .ok (.aload_n 0, 1) := by decide +kernel
theorem dX3_appendEdge_12 : decode cX3_appendEdge 12 = .ok (.getfield 15, 3) := by decide +kernel
theorem dX3_appendEdge_15 : decode cX3_appendEdge 15 = .ok (.aload_n 0, 1) := by decide +kernel
theorem dX3_appendEdge_16 : decode cX3_appendEdge 16 = .ok (.getfield 32, 3) := by decide +kernel
theorem dX3_appendEdge_19 : decode cX3_appendEdge 19 = .ok (.iload_n 1, 1) := by decide +kernel
theorem dX3_appendEdge_20 : decode cX3_appendEdge 20 = .ok (.iastore, 1) := by decide +kernel
theorem dX3_appendEdge_21 : decode cX3_appendEdge 21 = .ok (.aload_n 0, 1) := by decide +kernel
theorem dX3_appendEdge_22 : decode cX3_appendEdge 22 = .ok (.getfield 18, 3) := by decide +kernel
theorem dX3_appendEdge_25 : decode cX3_appendEdge 25 = .ok (.aload_n 0, 1) := by decide +kernel
theorem dX3_appendEdge_26 : decode cX3_appendEdge 26 = .ok (.getfield 32, 3) := by decide +kernel
theorem dX3_appendEdge_29 : decode cX3_appendEdge 29 = .ok (.iload_n 2, 1) := by decide +kernel
theorem dX3_appendEdge_30 : decode cX3_appendEdge 30 = .ok (.iastore, 1) := by decide +kernel
theorem dX3_appendEdge_31 : decode cX3_appendEdge 31 = .ok (.aload_n 0, 1) := by decide +kernel
theorem dX3_appendEdge_32 : decode cX3_appendEdge 32 = .ok (.getfield 21, 3) := by decide +kernel
theorem dX3_appendEdge_35 : decode cX3_appendEdge 35 = .ok (.aload_n 0, 1) := by decide +kernel
theorem dX3_appendEdge_36 : decode cX3_appendEdge 36 = .ok (.getfield 32, 3) := by decide +kernel
theorem dX3_appendEdge_39 : decode cX3_appendEdge 39 = .ok (.iload_n 3, 1) := by decide +kernel
theorem dX3_appendEdge_40 : decode cX3_appendEdge 40 = .ok (.iastore, 1) := by decide +kernel
theorem dX3_appendEdge_41 : decode cX3_appendEdge 41 = .ok (.aload_n 0, 1) := by decide +kernel
theorem dX3_appendEdge_42 : decode cX3_appendEdge 42 = .ok (.getfield 24, 3) := by decide +kernel
theorem dX3_appendEdge_45 : decode cX3_appendEdge 45 = .ok (.aload_n 0, 1) := by decide +kernel
theorem dX3_appendEdge_46 : decode cX3_appendEdge 46 = .ok (.getfield 32, 3) := by decide +kernel
theorem dX3_appendEdge_49 : decode cX3_appendEdge 49 = .ok (.iconst 1, 1) := by decide +kernel
theorem dX3_appendEdge_50 : decode cX3_appendEdge 50 = .ok (.bastore, 1) := by decide +kernel
theorem dX3_appendEdge_51 : decode cX3_appendEdge 51 = .ok (.aload_n 0, 1) := by decide +kernel
theorem dX3_appendEdge_52 : decode cX3_appendEdge 52 = .ok (.dup, 1) := by decide +kernel
theorem dX3_appendEdge_53 : decode cX3_appendEdge 53 = .ok (.getfield 32, 3) := by decide +kernel
theorem dX3_appendEdge_56 : decode cX3_appendEdge 56 = .ok (.iconst 1, 1) := by decide +kernel
theorem dX3_appendEdge_57 : decode cX3_appendEdge 57 = .ok (.iadd, 1) := by decide +kernel
theorem dX3_appendEdge_58 : decode cX3_appendEdge 58 = .ok (.putfield 32, 3) := by decide +kernel
theorem dX3_appendEdge_61 : decode cX3_appendEdge 61 = .ok (.aload_n 0, 1) := by decide +kernel
theorem dX3_appendEdge_62 : decode cX3_appendEdge 62 = .ok (.getfield 32, 3) := by decide +kernel
theorem dX3_appendEdge_65 : decode cX3_appendEdge 65 = .ok (.iconst 1, 1) := by decide +kernel
theorem dX3_appendEdge_66 : decode cX3_appendEdge 66 = .ok (.isub, 1) := by decide +kernel
theorem dX3_appendEdge_67 : decode cX3_appendEdge 67 = .ok (.ireturn, 1) := by decide +kernel
theorem dX3_valueOf_0 : decode cX3_valueOf 0 = .ok (.aload_n 0, 1) := by decide +kernel
theorem dX3_valueOf_1 : decode cX3_valueOf 1 = .ok (.iload_n 1, 1) := by decide +kernel
theorem dX3_valueOf_2 : decode cX3_valueOf 2 = .ok (.invokevirtual 35, 3) := by decide +kernel
theorem dX3_valueOf_5 : decode cX3_valueOf 5 = .ok (.ifCond .eq 12, 3) := by decide +kernel
theorem dX3_valueOf_8 : decode cX3_valueOf 8 = .ok (.aload_n 0, 1) := by decide +kernel
theorem dX3_valueOf_9 : decode cX3_valueOf 9 = .ok (.getfield 9, 3) := by decide +kernel
theorem dX3_valueOf_12 : decode cX3_valueOf 12 = .ok (.iload_n 1, 1) := by decide +kernel
theorem dX3_valueOf_13 : decode cX3_valueOf 13 = .ok (.iaload, 1) := by decide +kernel
theorem dX3_valueOf_14 : decode cX3_valueOf 14 = .ok (.goto 4, 3) := by decide +kernel
theorem dX3_valueOf_17 : decode cX3_valueOf 17 = .ok (.iconst 0, 1) := by decide +kernel
theorem dX3_valueOf_18 : decode cX3_valueOf 18 = .ok (.ireturn, 1) := by decide +kernel
theorem dX3_putValue_0 : decode cX3_putValue 0 = .ok (.aload_n 0, 1) := by decide +kernel
theorem dX3_putValue_1 : decode cX3_putValue 1 = .ok (.iload_n 1, 1) := by decide +kernel
theorem dX3_putValue_2 : decode cX3_putValue 2 = .ok (.invokevirtual 35, 3) := by decide +kernel
theorem dX3_putValue_5 : decode cX3_putValue 5 = .ok (.ifCond .eq 10, 3) := by decide +kernel
theorem dX3_putValue_8 : decode cX3_putValue 8 = .ok (.aload_n 0, 1) := by decide +kernel
theorem dX3_putValue_9 : decode cX3_putValue 9 = .ok (.getfield 9, 3) := by decide +kernel
theorem dX3_putValue_12 : decode cX3_putValue 12 = .ok (.iload_n 1, 1) := by decide +kernel
theorem dX3_putValue_13 : decode cX3_putValue 13 = .ok (.iload_n 2, 1) := by decide +kernel
theorem dX3_putValue_14 : decode cX3_putValue 14 = .ok (.iastore, 1) := by decide +kernel
theorem dX3_putValue_15 : decode cX3_putValue 15 = .ok (.return_, 1) := by decide +kernel
theorem dX3_weightOf_0 : decode cX3_weightOf 0 = .ok (.aload_n 0, 1) := by decide +kernel
theorem dX3_weightOf_1 : decode cX3_weightOf 1 = .ok (.iload_n 1, 1) := by decide +kernel
theorem dX3_weightOf_2 : decode cX3_weightOf 2 = .ok (.invokevirtual 39, 3) := by decide +kernel
theorem dX3_weightOf_5 : decode cX3_weightOf 5 = .ok (.ifCond .eq 12, 3) := by decide +kernel
theorem dX3_weightOf_8 : decode cX3_weightOf 8 = .ok (.aload_n 0, 1) := by decide +kernel
theorem dX3_weightOf_9 : decode cX3_weightOf 9 = .ok (.getfield 21, 3) := by decide +kernel
theorem dX3_weightOf_12 : decode cX3_weightOf 12 = .ok (.iload_n 1, 1) := by decide +kernel
theorem dX3_weightOf_13 : decode cX3_weightOf 13 = .ok (.iaload, 1) := by decide +kernel
theorem dX3_weightOf_14 : decode cX3_weightOf 14 = .ok (.goto 4, 3) := by decide +kernel
theorem dX3_weightOf_17 : decode cX3_weightOf 17 = .ok (.iconst 0, 1) := by decide +kernel
theorem dX3_weightOf_18 : decode cX3_weightOf 18 = .ok (.ireturn, 1) := by decide +kernel
theorem dX3_putWeight_0 : decode cX3_putWeight 0 = .ok (.aload_n 0, 1) := by decide +kernel
theorem dX3_putWeight_1 : decode cX3_putWeight 1 = .ok (.iload_n 1, 1) := by decide +kernel
theorem dX3_putWeight_2 : decode cX3_putWeight 2 = .ok (.invokevirtual 39, 3) := by decide +kernel
theorem dX3_putWeight_5 : decode cX3_putWeight 5 = .ok (.ifCond .eq 10, 3) := by decide +kernel
theorem dX3_putWeight_8 : decode cX3_putWeight 8 = .ok (.aload_n 0, 1) := by decide +kernel
theorem dX3_putWeight_9 : decode cX3_putWeight 9 = .ok (.getfield 21, 3) := by decide +kernel
theorem dX3_putWeight_12 : decode cX3_putWeight 12 = .ok (.iload_n 1, 1) := by decide +kernel
theorem dX3_putWeight_13 : decode cX3_putWeight 13 = .ok (.iload_n 2, 1) := by decide +kernel
theorem dX3_putWeight_14 : decode cX3_putWeight 14 = .ok (.iastore, 1) := by decide +kernel
theorem dX3_putWeight_15 : decode cX3_putWeight 15 = .ok (.return_, 1) := by decide +kernel
theorem dX3_isPresent_0 : decode cX3_isPresent 0 = .ok (.aload_n 0, 1) := by decide +kernel
theorem dX3_isPresent_1 : decode cX3_isPresent 1 = .ok (.iload_n 1, 1) := by decide +kernel
theorem dX3_isPresent_2 : decode cX3_isPresent 2 = .ok (.invokevirtual 39, 3) := by decide +kernel
theorem dX3_isPresent_5 : decode cX3_isPresent 5 = .ok (.ifCond .eq 16, 3) := by decide +kernel
theorem dX3_isPresent_8 : decode cX3_isPresent 8 = .ok (.aload_n 0, 1) := by decide +kernel
theorem dX3_isPresent_9 : decode cX3_isPresent 9 = .ok (.getfield 24, 3) := by decide +kernel
theorem dX3_isPresent_12 : decode cX3_isPresent 12 = .ok (.iload_n 1, 1) := by decide +kernel
theorem dX3_isPresent_13 : decode cX3_isPresent 13 = .ok (.baload, 1) := by decide +kernel
theorem dX3_isPresent_14 : decode cX3_isPresent 14 = .ok (.ifCond .eq 7, 3) := by decide +kernel
theorem dX3_isPresent_17 : decode cX3_isPresent 17 = .ok (.iconst 1, 1) := by decide +kernel
theorem dX3_isPresent_18 : decode cX3_isPresent 18 = .ok (.goto 4, 3) := by decide +kernel
theorem dX3_isPresent_21 : decode cX3_isPresent 21 = .ok (.iconst 0, 1) := by decide +kernel
theorem dX3_isPresent_22 : decode cX3_isPresent 22 = .ok (.ireturn, 1) := by decide +kernel
theorem dX3_markRemoved_0 : decode cX3_markRemoved 0 = .ok (.aload_n 0, 1) := by decide +kernel
theorem dX3_markRemoved_1 : decode cX3_markRemoved 1 = .ok (.iload_n 1, 1) := by decide +kernel
theorem dX3_markRemoved_2 : decode cX3_markRemoved 2 = .ok (.invokevirtual 39, 3) := by decide +kernel
theorem dX3_markRemoved_5 : decode cX3_markRemoved 5 = .ok (.ifCond .eq 10, 3) := by decide +kernel
theorem dX3_markRemoved_8 : decode cX3_markRemoved 8 = .ok (.aload_n 0, 1) := by decide +kernel
theorem dX3_markRemoved_9 : decode cX3_markRemoved 9 = .ok (.getfield 24, 3) := by decide +kernel
theorem dX3_markRemoved_12 : decode cX3_markRemoved 12 = .ok (.iload_n 1, 1) := by decide +kernel
theorem dX3_markRemoved_13 : decode cX3_markRemoved 13 = .ok (.iconst 0, 1) := by decide +kernel
theorem dX3_markRemoved_14 : decode cX3_markRemoved 14 = .ok (.bastore, 1) := by decide +kernel
theorem dX3_markRemoved_15 : decode cX3_markRemoved 15 = .ok (.return_, 1) := by decide +kernel
theorem dX3_firstEnd_0 : decode cX3_firstEnd 0 = .ok (.aload_n 0, 1) := by decide +kernel
theorem dX3_firstEnd_1 : decode cX3_firstEnd 1 = .ok (.iload_n 1, 1) := by decide +kernel
theorem dX3_firstEnd_2 : decode cX3_firstEnd 2 = .ok (.invokevirtual 39, 3) := by decide +kernel
theorem dX3_firstEnd_5 : decode cX3_firstEnd 5 = .ok (.ifCond .eq 12, 3) := by decide +kernel
theorem dX3_firstEnd_8 : decode cX3_firstEnd 8 = .ok (.aload_n 0, 1) := by decide +kernel
theorem dX3_firstEnd_9 : decode cX3_firstEnd 9 = .ok (.getfield 15, 3) := by decide +kernel
theorem dX3_firstEnd_12 : decode cX3_firstEnd 12 = .ok (.iload_n 1, 1) := by decide +kernel
theorem dX3_firstEnd_13 : decode cX3_firstEnd 13 = .ok (.iaload, 1) := by decide +kernel
theorem dX3_firstEnd_14 : decode cX3_firstEnd 14 = .ok (.goto 4, 3) := by decide +kernel
theorem dX3_firstEnd_17 : decode cX3_firstEnd 17 = .ok (.iconst (-1), 1) := by decide +kernel
theorem dX3_firstEnd_18 : decode cX3_firstEnd 18 = .ok (.ireturn, 1) := by decide +kernel
theorem dX3_secondEnd_0 : decode cX3_secondEnd 0 = .ok (.aload_n 0, 1) := by decide +kernel
theorem dX3_secondEnd_1 : decode cX3_secondEnd 1 = .ok (.iload_n 1, 1) := by decide +kernel
theorem dX3_secondEnd_2 : decode cX3_secondEnd 2 = .ok (.invokevirtual 39, 3) := by decide +kernel
theorem dX3_secondEnd_5 : decode cX3_secondEnd 5 = .ok (.ifCond .eq 12, 3) := by decide +kernel
theorem dX3_secondEnd_8 : decode cX3_secondEnd 8 = .ok (.aload_n 0, 1) := by decide +kernel
theorem dX3_secondEnd_9 : decode cX3_secondEnd 9 = .ok (.getfield 18, 3) := by decide +kernel
theorem dX3_secondEnd_12 : decode cX3_secondEnd 12 = .ok (.iload_n 1, 1) := by decide +kernel
theorem dX3_secondEnd_13 : decode cX3_secondEnd 13 = .ok (.iaload, 1) := by decide +kernel
theorem dX3_secondEnd_14 : decode cX3_secondEnd 14 = .ok (.goto 4, 3) := by decide +kernel
theorem dX3_secondEnd_17 : decode cX3_secondEnd 17 = .ok (.iconst (-1), 1) := by decide +kernel
theorem dX3_secondEnd_18 : decode cX3_secondEnd 18 = .ok (.ireturn, 1) := by decide +kernel
theorem dX3_acrossFrom_0 : decode cX3_acrossFrom 0 = .ok (.aload_n 0, 1) := by decide +kernel
theorem dX3_acrossFrom_1 : decode cX3_acrossFrom 1 = .ok (.iload_n 1, 1) := by decide +kernel
theorem dX3_acrossFrom_2 : decode cX3_acrossFrom 2 = .ok (.invokevirtual 42, 3) := by decide +kernel
theorem dX3_acrossFrom_5 : decode cX3_acrossFrom 5 = .ok (.iload_n 2, 1) := by decide +kernel
theorem dX3_acrossFrom_6 : decode cX3_acrossFrom 6 = .ok (.if_icmp .ne 9, 3) := by decide +kernel
theorem dX3_acrossFrom_9 : decode cX3_acrossFrom 9 = .ok (.aload_n 0, 1) := by decide +kernel
theorem dX3_acrossFrom_10 : decode cX3_acrossFrom 10 = .ok (.iload_n 1, 1) := by decide +kernel
theorem dX3_acrossFrom_11 : decode cX3_acrossFrom 11 = .ok (.invokevirtual 46, 3) := by decide +kernel
theorem dX3_acrossFrom_14 : decode cX3_acrossFrom 14 = .ok (.ireturn, 1) := by decide +kernel
theorem dX3_acrossFrom_15 : decode cX3_acrossFrom 15 = .ok (.aload_n 0, 1) := by decide +kernel
theorem dX3_acrossFrom_16 : decode cX3_acrossFrom 16 = .ok (.iload_n 1, 1) := by decide +kernel
theorem dX3_acrossFrom_17 : decode cX3_acrossFrom 17 = .ok (.invokevirtual 46, 3) := by decide +kernel
theorem dX3_acrossFrom_20 : decode cX3_acrossFrom 20 = .ok (.iload_n 2, 1) := by decide +kernel
theorem dX3_acrossFrom_21 : decode cX3_acrossFrom 21 = .ok (.if_icmp .ne 11, 3) := by decide +kernel
theorem dX3_acrossFrom_24 : decode cX3_acrossFrom 24 = .ok (.aload_n 0, 1) := by decide +kernel
theorem dX3_acrossFrom_25 : decode cX3_acrossFrom 25 = .ok (.iload_n 1, 1) := by decide +kernel
theorem dX3_acrossFrom_26 : decode cX3_acrossFrom 26 = .ok (.invokevirtual 42, 3) := by decide +kernel
theorem dX3_acrossFrom_29 : decode cX3_acrossFrom 29 = .ok (.goto 4, 3) := by decide +kernel
theorem dX3_acrossFrom_32 : decode cX3_acrossFrom 32 = .ok (.iconst (-1), 1) := by decide +kernel
theorem dX3_acrossFrom_33 : decode cX3_acrossFrom 33 = .ok (.ireturn, 1) := by decide +kernel
theorem dX3_comesBefore_0 : decode cX3_comesBefore 0 = .ok (.aload_n 0, 1) := by decide +kernel
theorem dX3_comesBefore_1 : decode cX3_comesBefore 1 = .ok (.iload_n 1, 1) := by decide +kernel
theorem dX3_comesBefore_2 : decode cX3_comesBefore 2 = .ok (.invokevirtual 39, 3) := by decide +kernel
theorem dX3_comesBefore_5 : decode cX3_comesBefore 5 = .ok (.ifCond .eq 11, 3) := by decide +kernel
theorem dX3_comesBefore_8 : decode cX3_comesBefore 8 = .ok (.aload_n 0, 1) := by decide +kernel
theorem dX3_comesBefore_9 : decode cX3_comesBefore 9 = .ok (.iload_n 2, 1) := by decide +kernel
theorem dX3_comesBefore_10 : decode cX3_comesBefore 10 = .ok (.invokevirtual 39, 3) := by decide +kernel
theorem dX3_comesBefore_13 : decode cX3_comesBefore 13 = .ok (.ifCond .ne 9, 3) := by decide +kernel
theorem dX3_comesBefore_16 : decode cX3_comesBefore 16 = .ok (.aload_n 0, 1) := by decide +kernel
theorem dX3_comesBefore_17 : decode cX3_comesBefore 17 = .ok (.iload_n 1, 1) := by decide +kernel
theorem dX3_comesBefore_18 : decode cX3_comesBefore 18 = .ok (.invokevirtual 39, 3) := by decide +kernel
theorem dX3_comesBefore_21 : decode cX3_comesBefore 21 = .ok (.ireturn, 1) := by decide +kernel
theorem dX3_comesBefore_22 : decode cX3_comesBefore 22 = .ok (.aload_n 0, 1) := by decide +kernel
theorem dX3_comesBefore_23 : decode cX3_comesBefore 23 = .ok (.getfield 21, 3) := by decide +kernel
theorem dX3_comesBefore_26 : decode cX3_comesBefore 26 = .ok (.iload_n 1, 1) := by decide +kernel
theorem dX3_comesBefore_27 : decode cX3_comesBefore 27 = .ok (.iaload, 1) := by decide +kernel
theorem dX3_comesBefore_28 : decode cX3_comesBefore 28 = .ok (.aload_n 0, 1) := by decide +kernel
theorem dX3_comesBefore_29 : decode cX3_comesBefore 29 = .ok (.getfield 21, 3) := by decide +kernel
theorem dX3_comesBefore_32 : decode cX3_comesBefore 32 = .ok (.iload_n 2, 1) := by decide +kernel
theorem dX3_comesBefore_33 : decode cX3_comesBefore 33 = .ok (.iaload, 1) := by decide +kernel
theorem dX3_comesBefore_34 : decode cX3_comesBefore 34 = .ok (.if_icmp .eq 24, 3) := by decide +kernel
theorem dX3_comesBefore_37 : decode cX3_comesBefore 37 = .ok (.aload_n 0, 1) := by decide +kernel
theorem dX3_comesBefore_38 : decode cX3_comesBefore 38 = .ok (.getfield 21, 3) := by decide +kernel
theorem dX3_comesBefore_41 : decode cX3_comesBefore 41 = .ok (.iload_n 1, 1) := by decide +kernel
theorem dX3_comesBefore_42 : decode cX3_comesBefore 42 = .ok (.iaload, 1) := by decide +kernel
theorem dX3_comesBefore_43 : decode cX3_comesBefore 43 = .ok (.aload_n 0, 1) := by decide +kernel
theorem dX3_comesBefore_44 : decode cX3_comesBefore 44 = .ok (.getfield 21, 3) := by decide +kernel
theorem dX3_comesBefore_47 : decode cX3_comesBefore 47 = .ok (.iload_n 2, 1) := by decide +kernel
theorem dX3_comesBefore_48 : decode cX3_comesBefore 48 = .ok (.iaload, 1) := by decide +kernel
theorem dX3_comesBefore_49 : decode cX3_comesBefore 49 = .ok (.if_icmp .ge 7, 3) := by decide +kernel
theorem dX3_comesBefore_52 : decode cX3_comesBefore 52 = .ok (.iconst 1, 1) := by decide +kernel
theorem dX3_comesBefore_53 : decode cX3_comesBefore 53 = .ok (.goto 4, 3) := by decide +kernel
theorem dX3_comesBefore_56 : decode cX3_comesBefore 56 = .ok (.iconst 0, 1) := by decide +kernel
theorem dX3_comesBefore_57 : decode cX3_comesBefore 57 = .ok (.ireturn, 1) := by decide +kernel
theorem dX3_comesBefore_58 : decode cX3_comesBefore 58 = .ok (.iload_n 1, 1) := by decide +kernel
theorem dX3_comesBefore_59 : decode cX3_comesBefore 59 = .ok (.iload_n 2, 1) := by decide +kernel
theorem dX3_comesBefore_60 : decode cX3_comesBefore 60 = .ok (.if_icmp .ge 7, 3) := by decide +kernel
theorem dX3_comesBefore_63 : decode cX3_comesBefore 63 = .ok (.iconst 1, 1) := by decide +kernel
theorem dX3_comesBefore_64 : decode cX3_comesBefore 64 = .ok (.goto 4, 3) := by decide +kernel
theorem dX3_comesBefore_67 : decode cX3_comesBefore 67 = .ok (.iconst 0, 1) := by decide +kernel
theorem dX3_comesBefore_68 : decode cX3_comesBefore 68 = .ok (.ireturn, 1) := by decide +kernel
theorem dX3_joins_0 : decode cX3_joins 0 = .ok (.aload_n 0, 1) := by decide +kernel
theorem dX3_joins_1 : decode cX3_joins 1 = .ok (.iload_n 1, 1) := by decide +kernel
theorem dX3_joins_2 : decode cX3_joins 2 = .ok (.invokevirtual 49, 3) := by decide +kernel
theorem dX3_joins_5 : decode cX3_joins 5 = .ok (.ifCond .eq 17, 3) := by decide +kernel
theorem dX3_joins_8 : decode cX3_joins 8 = .ok (.aload_n 0, 1) := by decide +kernel
theorem dX3_joins_9 : decode cX3_joins 9 = .ok (.iload_n 1, 1) := by decide +kernel
theorem dX3_joins_10 : decode cX3_joins 10 = .ok (.iload_n 2, 1) := by decide +kernel
theorem dX3_joins_11 : decode cX3_joins 11 = .ok (.invokevirtual 52, 3) := by decide +kernel
theorem dX3_joins_14 : decode cX3_joins 14 = .ok (.iload_n 3, 1) := by decide +kernel
theorem dX3_joins_15 : decode cX3_joins 15 = .ok (.if_icmp .ne 7, 3) := by decide +kernel
theorem dX3_joins_18 : decode cX3_joins 18 = .ok (.iconst 1, 1) := by decide +kernel
theorem dX3_joins_19 : decode cX3_joins 19 = .ok (.goto 4, 3) := by decide +kernel
theorem dX3_joins_22 : decode cX3_joins 22 = .ok (.iconst 0, 1) := by decide +kernel
theorem dX3_joins_23 : decode cX3_joins 23 = .ok (.ireturn, 1) := by decide +kernel
theorem dX3_countBetween_0 : decode cX3_countBetween 0 = .ok (.iconst 0, 1) := by decide +kernel
theorem dX3_countBetween_1 : decode cX3_countBetween 1 = .ok (.istore_n 3, 1) := by decide +kernel
theorem dX3_countBetween_2 : decode cX3_countBetween 2 = .ok (.iconst 0, 1) := by decide +kernel
theorem dX3_countBetween_3 : decode cX3_countBetween 3 = .ok (.istore 4, 2) := by decide +kernel
theorem dX3_countBetween_5 : decode cX3_countBetween 5 = .ok (.iload 4, 2) := by decide +kernel
theorem dX3_countBetween_7 : decode cX3_countBetween 7 = .ok (.aload_n 0, 1) := by decide +kernel
theorem dX3_countBetween_8 : decode cX3_countBetween 8 = .ok (.getfield 32, 3) := by decide +kernel
theorem dX3_countBetween_11 : decode cX3_countBetween 11 = .ok (.if_icmp .ge 23, 3) := by decide +kernel
theorem dX3_countBetween_14 : decode cX3_countBetween 14 = .ok (.aload_n 0, 1) := by decide +kernel
theorem dX3_countBetween_15 : decode cX3_countBetween 15 = .ok (.iload 4, 2) := by decide +kernel
theorem dX3_countBetween_17 : decode cX3_countBetween 17 = .ok (.iload_n 1, 1) := by decide +kernel
theorem dX3_countBetween_18 : decode cX3_countBetween 18 = .ok (.iload_n 2, 1) := by decide +kernel
theorem dX3_countBetween_19 : decode cX3_countBetween 19 = .ok (.invokevirtual 56, 3) := by decide +kernel
theorem dX3_countBetween_22 : decode cX3_countBetween 22 = .ok (.ifCond .eq 6, 3) := by decide +kernel
theorem dX3_countBetween_25 : decode cX3_countBetween 25 = .ok (.iinc 3 1, 3) := by decide +kernel
theorem dX3_countBetween_28 : decode cX3_countBetween 28 = .ok (.iinc 4 1, 3) := by decide +kernel
theorem dX3_countBetween_31 : decode cX3_countBetween 31 = .ok (.goto (-26), 3) := by decide +kernel
theorem dX3_countBetween_34 : decode cX3_countBetween 34 = .ok (.iload_n 3, 1) := by decide +kernel
theorem dX3_countBetween_35 : decode cX3_countBetween 35 = .ok (.ireturn, 1) := by decide +kernel
theorem dX3_firstBetween_0 : decode cX3_firstBetween 0 = .ok (.iconst (-1), 1) := by decide +kernel
theorem dX3_firstBetween_1 : decode cX3_firstBetween 1 = .ok (.istore_n 3, 1) := by decide +kernel
theorem dX3_firstBetween_2 : decode cX3_firstBetween 2 = .ok (.iconst 0, 1) := by decide +kernel
theorem dX3_firstBetween_3 : decode cX3_firstBetween 3 = .ok (.istore 4, 2) := by decide +kernel
theorem dX3_firstBetween_5 : decode cX3_firstBetween 5 = .ok (.iload 4, 2) := by decide +kernel
theorem dX3_firstBetween_7 : decode cX3_firstBetween 7 = .ok (.aload_n 0, 1) := by decide +kernel
theorem dX3_firstBetween_8 : decode cX3_firstBetween 8 = .ok (.getfield 32, 3) := by decide +kernel
theorem dX3_firstBetween_11 : decode cX3_firstBetween 11 = .ok (.if_icmp .ge 33, 3) := by decide +kernel
theorem dX3_firstBetween_14 : decode cX3_firstBetween 14 = .ok (.aload_n 0, 1) := by decide +kernel
theorem dX3_firstBetween_15 : decode cX3_firstBetween 15 = .ok (.iload 4, 2) := by decide +kernel
theorem dX3_firstBetween_17 : decode cX3_firstBetween 17 = .ok (.iload_n 1, 1) := by decide +kernel
theorem dX3_firstBetween_18 : decode cX3_firstBetween 18 = .ok (.iload_n 2, 1) := by decide +kernel
theorem dX3_firstBetween_19 : decode cX3_firstBetween 19 = .ok (.invokevirtual 56, 3) := by decide +kernel
theorem dX3_firstBetween_22 : decode cX3_firstBetween 22 = .ok (.ifCond .eq 16, 3) := by decide +kernel
theorem dX3_firstBetween_25 : decode cX3_firstBetween 25 = .ok (.aload_n 0, 1) := by decide +kernel
theorem dX3_firstBetween_26 : decode cX3_firstBetween 26 = .ok (.iload 4, 2) := by decide +kernel
theorem dX3_firstBetween_28 : decode cX3_firstBetween 28 = .ok (.iload_n 3, 1) := by decide +kernel
theorem dX3_firstBetween_29 : decode cX3_firstBetween 29 = .ok (.invokevirtual 60, 3) := by decide +kernel
theorem dX3_firstBetween_32 : decode cX3_firstBetween 32 = .ok (.ifCond .eq 6, 3) := by decide +kernel
theorem dX3_firstBetween_35 : decode cX3_firstBetween 35 = .ok (.iload 4, 2) := by decide +kernel
theorem dX3_firstBetween_37 : decode cX3_firstBetween 37 = .ok (.istore_n 3, 1) := by decide +kernel
theorem dX3_firstBetween_38 : decode cX3_firstBetween 38 = .ok (.iinc 4 1, 3) := by decide +kernel
theorem dX3_firstBetween_41 : decode cX3_firstBetween 41 = .ok (.goto (-36), 3) := by decide +kernel
theorem dX3_firstBetween_44 : decode cX3_firstBetween 44 = .ok (.iload_n 3, 1) := by decide +kernel
theorem dX3_firstBetween_45 : decode cX3_firstBetween 45 = .ok (.ireturn, 1) := by decide +kernel
theorem dX4_init_0 : decode cX4_init 0 = .ok (.aload_n 0, 1) := by decide +kernel
theorem dX4_init_1 : decode cX4_init 1 = .ok (.invokespecial 3, 3) := by decide +kernel
theorem dX4_init_4 : decode cX4_init 4 = .ok (.aload_n 0, 1) := by decide +kernel
theorem dX4_init_5 : decode cX4_init 5 = .ok (.bipush 20, 2) := by decide +kernel
theorem dX4_init_7 : decode cX4_init 7 = .ok (.newarray .boolean, 2) := by decide +kernel
theorem dX4_init_9 : decode cX4_init 9 = .ok (.putfield 9, 3) := by decide +kernel
theorem dX4_init_12 : decode cX4_init 12 = .ok (.aload_n 0, 1) := by decide +kernel
theorem dX4_init_13 : decode cX4_init 13 = .ok (.bipush 20, 2) := by decide +kernel
theorem dX4_init_15 : decode cX4_init 15 = .ok (.newarray .int, 2) := by decide +kernel
theorem dX4_init_17 : decode cX4_init 17 = .ok (.putfield 15, 3) := by decide +kernel
theorem dX4_init_20 : decode cX4_init 20 = .ok (.aload_n 0, 1) := by decide +kernel
theorem dX4_init_21 : decode cX4_init 21 = .ok (.iconst 0, 1) := by decide +kernel
theorem dX4_init_22 : decode cX4_init 22 = .ok (.putfield 19, 3) := by decide +kernel
theorem dX4_init_25 : decode cX4_init 25 = .ok (.aload_n 0, 1) := by decide +kernel
theorem dX4_init_26 : decode cX4_init 26 = .ok (.aload_n 1, 1) := by decide +kernel
theorem dX4_init_27 : decode cX4_init 27 = .ok (.putfield 23, 3) := by decide +kernel
theorem dX4_init_30 : decode cX4_init 30 = .ok (.return_, 1) := by decide +kernel
theorem dX4_leadsTo_0 : decode cX4_leadsTo 0 = .ok (.aload_n 0, 1) := by decide +kernel
theorem dX4_leadsTo_1 : decode cX4_leadsTo 1 = .ok (.iconst 0, 1) := by decide +kernel
theorem dX4_leadsTo_2 : decode cX4_leadsTo 2 = .ok (.putfield 19, 3) := by decide +kernel
theorem dX4_leadsTo_5 : decode cX4_leadsTo 5 = .ok (.iconst 0, 1) := by decide +kernel
theorem dX4_leadsTo_6 : decode cX4_leadsTo 6 = .ok (.istore_n 3, 1) := by decide +kernel
theorem dX4_leadsTo_7 : decode cX4_leadsTo 7 = .ok (.iload_n 3, 1) := by decide +kernel
theorem dX4_leadsTo_8 : decode cX4_leadsTo 8 = .ok (.bipush 20, 2) := by decide +kernel
theorem dX4_leadsTo_10 : decode cX4_leadsTo 10 = .ok (.if_icmp .ge 16, 3) := by decide +kernel
theorem dX4_leadsTo_13 : decode cX4_leadsTo 13 = .ok (.aload_n 0, 1) := by decide +kernel
theorem dX4_leadsTo_14 : decode cX4_leadsTo 14 = .ok (.getfield 9, 3) := by decide +kernel
theorem dX4_leadsTo_17 : decode cX4_leadsTo 17 = .ok (.iload_n 3, 1) := by decide +kernel
theorem dX4_leadsTo_18 : decode cX4_leadsTo 18 = .ok (.iconst 0, 1) := by decide +kernel
theorem dX4_leadsTo_19 : decode cX4_leadsTo 19 = .ok (.bastore, 1) := by decide +kernel
theorem dX4_leadsTo_20 : decode cX4_leadsTo 20 = .ok (.iinc 3 1, 3) := by decide +kernel
theorem dX4_leadsTo_23 : decode cX4_leadsTo 23 = .ok (.goto (-16), 3) := by decide +kernel
theorem dX4_leadsTo_26 : decode cX4_leadsTo 26 = .ok (.aload_n 0, 1) := by decide +kernel
theorem dX4_leadsTo_27 : decode cX4_leadsTo 27 = .ok (.iload_n 1, 1) := by decide +kernel
theorem dX4_leadsTo_28 : decode cX4_leadsTo 28 = .ok (.invokevirtual 27, 3) := by decide +kernel
theorem dX4_leadsTo_31 : decode cX4_leadsTo 31 = .ok (.iconst 0, 1) := by decide +kernel
theorem dX4_leadsTo_32 : decode cX4_leadsTo 32 = .ok (.istore_n 3, 1) := by decide +kernel
theorem dX4_leadsTo_33 : decode cX4_leadsTo 33 = .ok (.iload_n 3, 1) := by decide +kernel
theorem dX4_leadsTo_34 : decode cX4_leadsTo 34 = .ok (.bipush 20, 2) := by decide +kernel
theorem dX4_leadsTo_36 : decode cX4_leadsTo 36 = .ok (.if_icmp .ge 27, 3) := by decide +kernel
theorem dX4_leadsTo_39 : decode cX4_leadsTo 39 = .ok (.iload_n 3, 1) := by decide +kernel
theorem dX4_leadsTo_40 : decode cX4_leadsTo 40 = .ok (.aload_n 0, 1) := by decide +kernel
theorem dX4_leadsTo_41 : decode cX4_leadsTo 41 = .ok (.getfield 19, 3) := by decide +kernel
theorem dX4_leadsTo_44 : decode cX4_leadsTo 44 = .ok (.if_icmp .ge 19, 3) := by decide +kernel
theorem dX4_leadsTo_47 : decode cX4_leadsTo 47 = .ok (.aload_n 0, 1) := by decide +kernel
theorem dX4_leadsTo_48 : decode cX4_leadsTo 48 = .ok (.aload_n 0, 1) := by decide +kernel
theorem dX4_leadsTo_49 : decode cX4_leadsTo 49 = .ok (.getfield 15, 3) := by decide +kernel
theorem dX4_leadsTo_52 : decode cX4_leadsTo 52 = .ok (.iload_n 3, 1) := by decide +kernel
theorem dX4_leadsTo_53 : decode cX4_leadsTo 53 = .ok (.iaload, 1) := by decide +kernel
theorem dX4_leadsTo_54 : decode cX4_leadsTo 54 = .ok (.invokevirtual 31, 3) := by decide +kernel
theorem dX4_leadsTo_57 : decode cX4_leadsTo 57 = .ok (.iinc 3 1, 3) := by decide +kernel
theorem dX4_leadsTo_60 : decode cX4_leadsTo 60 = .ok (.goto (-27), 3) := by decide +kernel
theorem dX4_leadsTo_63 : decode cX4_leadsTo 63 = .ok (.aload_n 0, 1) := by decide +kernel
theorem dX4_leadsTo_64 : decode cX4_leadsTo 64 = .ok (.getfield 23, 3) := by decide +kernel
theorem dX4_leadsTo_67 : decode cX4_leadsTo 67 = .ok (.iload_n 2, 1) := by decide +kernel
theorem dX4_leadsTo_68 : decode cX4_leadsTo 68 = .ok (.invokevirtual 34, 3) := by decide +kernel
theorem dX4_leadsTo_71 : decode cX4_leadsTo 71 = .ok (.ifCond .eq 16, 3) := by decide +kernel
theorem dX4_leadsTo_74 : decode cX4_leadsTo 74 = .ok (.aload_n 0, 1) := by decide +kernel
theorem dX4_leadsTo_75 : decode cX4_leadsTo 75 = .ok (.getfield 9, 3) := by decide +kernel
theorem dX4_leadsTo_78 : decode cX4_leadsTo 78 = .ok (.iload_n 2, 1) := by decide +kernel
theorem dX4_leadsTo_79 : decode cX4_leadsTo 79 = .ok (.baload, 1) := by decide +kernel
theorem dX4_leadsTo_80 : decode cX4_leadsTo 80 = .ok (.ifCond .eq 7, 3) := by decide +kernel
theorem dX4_leadsTo_83 : decode cX4_leadsTo 83 = .ok (.iconst 1, 1) := by decide +kernel
theorem dX4_leadsTo_84 : decode cX4_leadsTo 84 = .ok (.goto 4, 3) := by decide +kernel
theorem dX4_leadsTo_87 : decode cX4_leadsTo 87 = .ok (.iconst 0, 1) := by decide +kernel
theorem dX4_leadsTo_88 : decode cX4_leadsTo 88 = .ok (.ireturn, 1) := by decide +kernel
theorem dX4_visitAround_0 : decode cX4_visitAround 0 = .ok (.iconst 0, 1) := by decide +kernel
theorem dX4_visitAround_1 : decode cX4_visitAround 1 = .ok (.istore_n 2, 1) := by decide +kernel
theorem dX4_visitAround_2 : decode cX4_visitAround 2 = .ok (.iload_n 2, 1) := by decide +kernel
theorem dX4_visitAround_3 : decode cX4_visitAround 3 = .ok (.aload_n 0, 1) := by decide +kernel
theorem dX4_visitAround_4 : decode cX4_visitAround 4 = .ok (.getfield 23, 3) := by decide +kernel
theorem dX4_visitAround_7 : decode cX4_visitAround 7 = .ok (.invokevirtual 40, 3) := by decide +kernel
theorem dX4_visitAround_10 : decode cX4_visitAround 10 = .ok (.if_icmp .ge 33, 3) := by decide +kernel
theorem dX4_visitAround_13 : decode cX4_visitAround 13 = .ok (.aload_n 0, 1) := by decide +kernel
theorem dX4_visitAround_14 : decode cX4_visitAround 14 = .ok (.getfield 23, 3) := by decide +kernel
theorem dX4_visitAround_17 : decode cX4_visitAround 17 = .ok (.iload_n 2, 1) := by decide +kernel
theorem dX4_visitAround_18 : decode cX4_visitAround 18 = .ok (.invokevirtual 44, 3) := by decide +kernel
theorem dX4_visitAround_21 : decode cX4_visitAround 21 = .ok (.ifCond .eq 16, 3) := by decide +kernel
theorem dX4_visitAround_24 : decode cX4_visitAround 24 = .ok (.aload_n 0, 1) := by decide +kernel
theorem dX4_visitAround_25 : decode cX4_visitAround 25 = .ok (.aload_n 0, 1) := by decide +kernel
theorem dX4_visitAround_26 : decode cX4_visitAround 26 = .ok (.getfield 23, 3) := by decide +kernel
theorem dX4_visitAround_29 : decode cX4_visitAround 29 = .ok (.iload_n 2, 1) := by decide +kernel
theorem dX4_visitAround_30 : decode cX4_visitAround 30 = .ok (.iload_n 1, 1) := by decide +kernel
theorem dX4_visitAround_31 : decode cX4_visitAround 31 = .ok (.invokevirtual 47, 3) := by decide +kernel
theorem dX4_visitAround_34 : decode cX4_visitAround 34 = .ok (.invokevirtual 27, 3) := by decide +kernel
theorem dX4_visitAround_37 : decode cX4_visitAround 37 = .ok (.iinc 2 1, 3) := by decide +kernel
theorem dX4_visitAround_40 : decode cX4_visitAround 40 = .ok (.goto (-38), 3) := by decide +kernel
theorem dX4_visitAround_43 : decode cX4_visitAround 43 = .ok (.return_, 1) := by decide +kernel
theorem dX4_visit_0 : decode cX4_visit 0 = .ok (.aload_n 0, 1) := by decide +kernel
theorem dX4_visit_1 : decode cX4_visit 1 = .ok (.getfield 23, 3) := by decide +kernel
theorem dX4_visit_4 : decode cX4_visit 4 = .ok (.iload_n 1, 1) := by decide +kernel
theorem dX4_visit_5 : decode cX4_visit 5 = .ok (.invokevirtual 34, 3) := by decide +kernel
theorem dX4_visit_8 : decode cX4_visit 8 = .ok (.ifCond .eq 48, 3) := by decide +kernel
theorem dX4_visit_11 : decode cX4_visit 11 = .ok (.aload_n 0, 1) := by decide +kernel
theorem dX4_visit_12 : decode cX4_visit 12 = .ok (.getfield 9, 3) := by decide +kernel
theorem dX4_visit_15 : decode cX4_visit 15 = .ok (.iload_n 1, 1) := by decide +kernel
theorem dX4_visit_16 : decode cX4_visit 16 = .ok (.baload, 1) := by decide +kernel
theorem dX4_visit_17 : decode cX4_visit 17 = .ok (.ifCond .ne 39, 3) := by decide +kernel
theorem dX4_visit_20 : decode cX4_visit 20 = .ok (.aload_n 0, 1) := by decide +kernel
theorem dX4_visit_21 : decode cX4_visit 21 = .ok (.getfield 19, 3) := by decide +kernel
theorem dX4_visit_24 : decode cX4_visit 24 = .ok (.bipush 20, 2) := by decide +kernel
theorem dX4_visit_26 : decode cX4_visit 26 = .ok (.if_icmp .ge 30, 3) := by decide +kernel
theorem dX4_visit_29 : decode cX4_visit 29 = .ok (.aload_n 0, 1) := by decide +kernel
theorem dX4_visit_30 : decode cX4_visit 30 = .ok (.getfield 9, 3) := by decide +kernel
theorem dX4_visit_33 : decode cX4_visit 33 = .ok (.iload_n 1, 1) := by decide +kernel
theorem dX4_visit_34 : decode cX4_visit 34 = .ok (.iconst 1, 1) := by decide +kernel
theorem dX4_visit_35 : decode cX4_visit 35 = .ok (.bastore, 1) := by decide +kernel
theorem dX4_visit_36 : decode cX4_visit 36 = .ok (.aload_n 0, 1) := by decide +kernel
theorem dX4_visit_37 : decode cX4_visit 37 = .ok (.getfield 15, 3) := by decide +kernel
theorem dX4_visit_40 : decode cX4_visit 40 = .ok (.aload_n 0, 1) := by decide +kernel
theorem dX4_visit_41 : decode cX4_visit 41 = .ok (.getfield 19, 3) := by decide +kernel
theorem dX4_visit_44 : decode cX4_visit 44 = .ok (.iload_n 1, 1) := by decide +kernel
theorem dX4_visit_45 : decode cX4_visit 45 = .ok (.iastore, 1) := by decide +kernel
theorem dX4_visit_46 : decode cX4_visit 46 = .ok (.aload_n 0, 1) := by decide +kernel
theorem dX4_visit_47 : decode cX4_visit 47 = .ok (.dup, 1) := by decide +kernel
theorem dX4_visit_48 : decode cX4_visit 48 = .ok (.getfield 19, 3) := by decide +kernel
theorem dX4_visit_51 : decode cX4_visit 51 = .ok (.iconst 1, 1) := by decide +kernel
theorem dX4_visit_52 : decode cX4_visit 52 = .ok (.iadd, 1) := by decide +kernel
theorem dX4_visit_53 : decode cX4_visit 53 = .ok (.putfield 19, 3) := by decide +kernel
theorem dX4_visit_56 : decode cX4_visit 56 = .ok (.return_, 1) := by decide +kernel
theorem dX5_init_0 : decode cX5_init 0 = .ok (.aload_n 0, 1) := by decide +kernel
theorem dX5_init_1 : decode cX5_init 1 = .ok (.invokespecial 3, 3) := by decide +kernel
theorem dX5_init_4 : decode cX5_init 4 = .ok (.aload_n 0, 1) := by decide +kernel
theorem dX5_init_5 : decode cX5_init 5 = .ok (.bipush 20, 2) := by decide +kernel
theorem dX5_init_7 : decode cX5_init 7 = .ok (.newarray .int, 2) := by decide +kernel
theorem dX5_init_9 : decode cX5_init 9 = .ok (.putfield 9, 3) := by decide +kernel
theorem dX5_init_12 : decode cX5_init 12 = .ok (.aload_n 0, 1) := by decide +kernel
theorem dX5_init_13 : decode cX5_init 13 = .ok (.bipush 20, 2) := by decide +kernel
theorem dX5_init_15 : decode cX5_init 15 = .ok (.newarray .int, 2) := by decide +kernel
theorem dX5_init_17 : decode cX5_init 17 = .ok (.putfield 15, 3) := by decide +kernel
theorem dX5_init_20 : decode cX5_init 20 = .ok (.aload_n 0, 1) := by decide +kernel
theorem dX5_init_21 : decode cX5_init 21 = .ok (.bipush 20, 2) := by decide +kernel
theorem dX5_init_23 : decode cX5_init 23 = .ok (.newarray .int, 2) := by decide +kernel
theorem dX5_init_25 : decode cX5_init 25 = .ok (.putfield 18, 3) := by decide +kernel
theorem dX5_init_28 : decode cX5_init 28 = .ok (.aload_n 0, 1) := by decide +kernel
theorem dX5_init_29 : decode cX5_init 29 = .ok (.bipush 20, 2) := by decide +kernel
theorem dX5_init_31 : decode cX5_init 31 = .ok (.newarray .int, 2) := by decide +kernel
theorem dX5_init_33 : decode cX5_init 33 = .ok (.putfield 21, 3) := by decide +kernel
theorem dX5_init_36 : decode cX5_init 36 = .ok (.aload_n 0, 1) := by decide +kernel
theorem dX5_init_37 : decode cX5_init 37 = .ok (.bipush 20, 2) := by decide +kernel
theorem dX5_init_39 : decode cX5_init 39 = .ok (.newarray .int, 2) := by decide +kernel
theorem dX5_init_41 : decode cX5_init 41 = .ok (.putfield 24, 3) := by decide +kernel
theorem dX5_init_44 : decode cX5_init 44 = .ok (.aload_n 0, 1) := by decide +kernel
theorem dX5_init_45 : decode cX5_init 45 = .ok (.bipush 20, 2) := by decide +kernel
theorem dX5_init_47 : decode cX5_init 47 = .ok (.newarray .int, 2) := by decide +kernel
theorem dX5_init_49 : decode cX5_init 49 = .ok (.putfield 27, 3) := by decide +kernel
theorem dX5_init_52 : decode cX5_init 52 = .ok (.aload_n 0, 1) := by decide +kernel
theorem dX5_init_53 : decode cX5_init 53 = .ok (.aload_n 1, 1) := by decide +kernel
theorem dX5_init_54 : decode cX5_init 54 = .ok (.putfield 30, 3) := by decide +kernel
theorem dX5_init_57 : decode cX5_init 57 = .ok (.aload_n 0, 1) := by decide +kernel
theorem dX5_init_58 : decode cX5_init 58 = .ok (.aload_n 2, 1) := by decide +kernel
theorem dX5_init_59 : decode cX5_init 59 = .ok (.putfield 34, 3) := by decide +kernel
theorem dX5_init_62 : decode cX5_init 62 = .ok (.return_, 1) := by decide +kernel
theorem dX5_build_0 : decode cX5_build 0 = .ok (.iconst 0, 1) := by decide +kernel
theorem dX5_build_1 : decode cX5_build 1 = .ok (.istore_n 1, 1) := by decide +kernel
theorem dX5_build_2 : decode cX5_build 2 = .ok (.iload_n 1, 1) := by decide +kernel
theorem dX5_build_3 : decode cX5_build 3 = .ok (.bipush 20, 2) := by decide +kernel
theorem dX5_build_5 : decode cX5_build 5 = .ok (.if_icmp .ge 37, 3) := by decide +kernel
theorem dX5_build_8 : decode cX5_build 8 = .ok (.aload_n 0, 1) := by decide +kernel
theorem dX5_build_9 : decode cX5_build 9 = .ok (.getfield 9, 3) := by decide +kernel
theorem dX5_build_12 : decode cX5_build 12 = .ok (.iload_n 1, 1) := by decide +kernel
theorem dX5_build_13 : decode cX5_build 13 = .ok (.iconst 1, 1) := by decide +kernel
theorem dX5_build_14 : decode cX5_build 14 = .ok (.iastore, 1) := by decide +kernel
theorem dX5_build_15 : decode cX5_build 15 = .ok (.aload_n 0, 1) := by decide +kernel
theorem dX5_build_16 : decode cX5_build 16 = .ok (.getfield 15, 3) := by decide +kernel
theorem dX5_build_19 : decode cX5_build 19 = .ok (.iload_n 1, 1) := by decide +kernel
theorem dX5_build_20 : decode cX5_build 20 = .ok (.aload_n 0, 1) := by decide +kernel
theorem dX5_build_21 : decode cX5_build 21 = .ok (.getfield 30, 3) := by decide +kernel
theorem dX5_build_24 : decode cX5_build 24 = .ok (.iload_n 1, 1) := by decide +kernel
theorem dX5_build_25 : decode cX5_build 25 = .ok (.invokevirtual 38, 3) := by decide +kernel
theorem dX5_build_28 : decode cX5_build 28 = .ok (.iastore, 1) := by decide +kernel
theorem dX5_build_29 : decode cX5_build 29 = .ok (.aload_n 0, 1) := by decide +kernel
theorem dX5_build_30 : decode cX5_build 30 = .ok (.getfield 18, 3) := by decide +kernel
theorem dX5_build_33 : decode cX5_build 33 = .ok (.iload_n 1, 1) := by decide +kernel
theorem dX5_build_34 : decode cX5_build 34 = .ok (.iconst (-1), 1) := by decide +kernel
theorem dX5_build_35 : decode cX5_build 35 = .ok (.iastore, 1) := by decide +kernel
theorem dX5_build_36 : decode cX5_build 36 = .ok (.iinc 1 1, 3) := by decide +kernel
theorem dX5_build_39 : decode cX5_build 39 = .ok (.goto (-37), 3) := by decide +kernel
theorem dX5_build_42 : decode cX5_build 42 = .ok (.aload_n 0, 1) := by decide +kernel
theorem dX5_build_43 : decode cX5_build 43 = .ok (.getfield 34, 3) := by decide +kernel
theorem dX5_build_46 : decode cX5_build 46 = .ok (.invokevirtual 44, 3) := by decide +kernel
theorem dX5_build_49 : decode cX5_build 49 = .ok (.iconst 1, 1) := by decide +kernel
theorem dX5_build_50 : decode cX5_build 50 = .ok (.isub, 1) := by decide +kernel
theorem dX5_build_51 : decode cX5_build 51 = .ok (.istore_n 1, 1) := by decide +kernel
theorem dX5_build_52 : decode cX5_build 52 = .ok (.iload_n 1, 1) := by decide +kernel
theorem dX5_build_53 : decode cX5_build 53 = .ok (.ifCond .lt 21, 3) := by decide +kernel
theorem dX5_build_56 : decode cX5_build 56 = .ok (.aload_n 0, 1) := by decide +kernel
theorem dX5_build_57 : decode cX5_build 57 = .ok (.aload_n 0, 1) := by decide +kernel
theorem dX5_build_58 : decode cX5_build 58 = .ok (.getfield 34, 3) := by decide +kernel
theorem dX5_build_61 : decode cX5_build 61 = .ok (.iload_n 1, 1) := by decide +kernel
theorem dX5_build_62 : decode cX5_build 62 = .ok (.invokevirtual 50, 3) := by decide +kernel
theorem dX5_build_65 : decode cX5_build 65 = .ok (.invokevirtual 53, 3) := by decide +kernel
theorem dX5_build_68 : decode cX5_build 68 = .ok (.iinc 1 (-1), 3) := by decide +kernel
theorem dX5_build_71 : decode cX5_build 71 = .ok (.goto (-19), 3) := by decide +kernel
theorem dX5_build_74 : decode cX5_build 74 = .ok (.iconst 0, 1) := by decide +kernel
theorem dX5_build_75 : decode cX5_build 75 = .ok (.istore_n 1, 1) := by decide +kernel
theorem dX5_build_76 : decode cX5_build 76 = .ok (.iload_n 1, 1) := by decide +kernel
theorem dX5_build_77 : decode cX5_build 77 = .ok (.aload_n 0, 1) := by decide +kernel
theorem dX5_build_78 : decode cX5_build 78 = .ok (.getfield 34, 3) := by decide +kernel
theorem dX5_build_81 : decode cX5_build 81 = .ok (.invokevirtual 44, 3) := by decide +kernel
theorem dX5_build_84 : decode cX5_build 84 = .ok (.if_icmp .ge 21, 3) := by decide +kernel
theorem dX5_build_87 : decode cX5_build 87 = .ok (.aload_n 0, 1) := by decide +kernel
theorem dX5_build_88 : decode cX5_build 88 = .ok (.aload_n 0, 1) := by decide +kernel
theorem dX5_build_89 : decode cX5_build 89 = .ok (.getfield 34, 3) := by decide +kernel
theorem dX5_build_92 : decode cX5_build 92 = .ok (.iload_n 1, 1) := by decide +kernel
theorem dX5_build_93 : decode cX5_build 93 = .ok (.invokevirtual 50, 3) := by decide +kernel
theorem dX5_build_96 : decode cX5_build 96 = .ok (.invokevirtual 57, 3) := by decide +kernel
theorem dX5_build_99 : decode cX5_build 99 = .ok (.iinc 1 1, 3) := by decide +kernel
theorem dX5_build_102 : decode cX5_build 102 = .ok (.goto (-26), 3) := by decide +kernel
theorem dX5_build_105 : decode cX5_build 105 = .ok (.return_, 1) := by decide +kernel
theorem dX5_handUp_0 : decode cX5_handUp 0 = .ok (.aload_n 0, 1) := by decide +kernel
theorem dX5_handUp_1 : decode cX5_handUp 1 = .ok (.getfield 34, 3) := by decide +kernel
theorem dX5_handUp_4 : decode cX5_handUp 4 = .ok (.iload_n 1, 1) := by decide +kernel
theorem dX5_handUp_5 : decode cX5_handUp 5 = .ok (.invokevirtual 60, 3) := by decide +kernel
theorem dX5_handUp_8 : decode cX5_handUp 8 = .ok (.istore_n 2, 1) := by decide +kernel
theorem dX5_handUp_9 : decode cX5_handUp 9 = .ok (.aload_n 0, 1) := by decide +kernel
theorem dX5_handUp_10 : decode cX5_handUp 10 = .ok (.getfield 30, 3) := by decide +kernel
theorem dX5_handUp_13 : decode cX5_handUp 13 = .ok (.iload_n 1, 1) := by decide +kernel
theorem dX5_handUp_14 : decode cX5_handUp 14 = .ok (.invokevirtual 63, 3) := by decide +kernel
theorem dX5_handUp_17 : decode cX5_handUp 17 = .ok (.ifCond .eq 14, 3) := by decide +kernel
theorem dX5_handUp_20 : decode cX5_handUp 20 = .ok (.aload_n 0, 1) := by decide +kernel
theorem dX5_handUp_21 : decode cX5_handUp 21 = .ok (.getfield 30, 3) := by decide +kernel
theorem dX5_handUp_24 : decode cX5_handUp 24 = .ok (.iload_n 2, 1) := by decide +kernel
theorem dX5_handUp_25 : decode cX5_handUp 25 = .ok (.invokevirtual 63, 3) := by decide +kernel
theorem dX5_handUp_28 : decode cX5_handUp 28 = .ok (.ifCond .ne 4, 3) := by decide +kernel
theorem dX5_handUp_31 : decode cX5_handUp 31 = .ok (.return_, 1) := by decide +kernel
theorem dX5_handUp_32 : decode cX5_handUp 32 = .ok (.aload_n 0, 1) := by decide +kernel
theorem dX5_handUp_33 : decode cX5_handUp 33 = .ok (.getfield 9, 3) := by decide +kernel
theorem dX5_handUp_36 : decode cX5_handUp 36 = .ok (.iload_n 2, 1) := by decide +kernel
theorem dX5_handUp_37 : decode cX5_handUp 37 = .ok (.dup2, 1) := by decide +kernel
theorem dX5_handUp_38 : decode cX5_handUp 38 = .ok (.iaload, 1) := by decide +kernel
theorem dX5_handUp_39 : decode cX5_handUp 39 = .ok (.aload_n 0, 1) := by decide +kernel
theorem dX5_handUp_40 : decode cX5_handUp 40 = .ok (.getfield 9, 3) := by decide +kernel
theorem dX5_handUp_43 : decode cX5_handUp 43 = .ok (.iload_n 1, 1) := by decide +kernel
theorem dX5_handUp_44 : decode cX5_handUp 44 = .ok (.iaload, 1) := by decide +kernel
theorem dX5_handUp_45 : decode cX5_handUp 45 = .ok (.iadd, 1) := by decide +kernel
theorem dX5_handUp_46 : decode cX5_handUp 46 = .ok (.iastore, 1) := by decide +kernel
theorem dX5_handUp_47 : decode cX5_handUp 47 = .ok (.aload_n 0, 1) := by decide +kernel
theorem dX5_handUp_48 : decode cX5_handUp 48 = .ok (.getfield 15, 3) := by decide +kernel
theorem dX5_handUp_51 : decode cX5_handUp 51 = .ok (.iload_n 2, 1) := by decide +kernel
theorem dX5_handUp_52 : decode cX5_handUp 52 = .ok (.dup2, 1) := by decide +kernel
theorem dX5_handUp_53 : decode cX5_handUp 53 = .ok (.iaload, 1) := by decide +kernel
theorem dX5_handUp_54 : decode cX5_handUp 54 = .ok (.aload_n 0, 1) := by decide +kernel
theorem dX5_handUp_55 : decode cX5_handUp 55 = .ok (.getfield 15, 3) := by decide +kernel
theorem dX5_handUp_58 : decode cX5_handUp 58 = .ok (.iload_n 1, 1) := by decide +kernel
theorem dX5_handUp_59 : decode cX5_handUp 59 = .ok (.iaload, 1) := by decide +kernel
theorem dX5_handUp_60 : decode cX5_handUp 60 = .ok (.iadd, 1) := by decide +kernel
theorem dX5_handUp_61 : decode cX5_handUp 61 = .ok (.iastore, 1) := by decide +kernel
theorem dX5_handUp_62 : decode cX5_handUp 62 = .ok (.aload_n 0, 1) := by decide +kernel
theorem dX5_handUp_63 : decode cX5_handUp 63 = .ok (.iload_n 1, 1) := by decide +kernel
theorem dX5_handUp_64 : decode cX5_handUp 64 = .ok (.aload_n 0, 1) := by decide +kernel
theorem dX5_handUp_65 : decode cX5_handUp 65 = .ok (.getfield 18, 3) := by decide +kernel
theorem dX5_handUp_68 : decode cX5_handUp 68 = .ok (.iload_n 2, 1) := by decide +kernel
theorem dX5_handUp_69 : decode cX5_handUp 69 = .ok (.iaload, 1) := by decide +kernel
theorem dX5_handUp_70 : decode cX5_handUp 70 = .ok (.invokevirtual 67, 3) := by decide +kernel
theorem dX5_handUp_73 : decode cX5_handUp 73 = .ok (.ifCond .eq 10, 3) := by decide +kernel
theorem dX5_handUp_76 : decode cX5_handUp 76 = .ok (.aload_n 0, 1) := by decide +kernel
theorem dX5_handUp_77 : decode cX5_handUp 77 = .ok (.getfield 18, 3) := by decide +kernel
theorem dX5_handUp_80 : decode cX5_handUp 80 = .ok (.iload_n 2, 1) := by decide +kernel
theorem dX5_handUp_81 : decode cX5_handUp 81 = .ok (.iload_n 1, 1) := by decide +kernel
theorem dX5_handUp_82 : decode cX5_handUp 82 = .ok (.iastore, 1) := by decide +kernel
theorem dX5_handUp_83 : decode cX5_handUp 83 = .ok (.return_, 1) := by decide +kernel
theorem dX5_isHeavier_0 : decode cX5_isHeavier 0 = .ok (.iload_n 2, 1) := by decide +kernel
theorem dX5_isHeavier_1 : decode cX5_isHeavier 1 = .ok (.iconst (-1), 1) := by decide +kernel
theorem dX5_isHeavier_2 : decode cX5_isHeavier 2 = .ok (.if_icmp .eq 16, 3) := by decide +kernel
theorem dX5_isHeavier_5 : decode cX5_isHeavier 5 = .ok (.aload_n 0, 1) := by decide +kernel
theorem dX5_isHeavier_6 : decode cX5_isHeavier 6 = .ok (.iload_n 1, 1) := by decide +kernel
theorem dX5_isHeavier_7 : decode cX5_isHeavier 7 = .ok (.invokevirtual 71, 3) := by decide +kernel
theorem dX5_isHeavier_10 : decode cX5_isHeavier 10 = .ok (.aload_n 0, 1) := by decide +kernel
theorem dX5_isHeavier_11 : decode cX5_isHeavier 11 = .ok (.iload_n 2, 1) := by decide +kernel
theorem dX5_isHeavier_12 : decode cX5_isHeavier 12 = .ok (.invokevirtual 71, 3) := by decide +kernel
theorem dX5_isHeavier_15 : decode cX5_isHeavier 15 = .ok (.if_icmp .le 5, 3) := by decide +kernel
theorem dX5_isHeavier_18 : decode cX5_isHeavier 18 = .ok (.iconst 1, 1) := by decide +kernel
theorem dX5_isHeavier_19 : decode cX5_isHeavier 19 = .ok (.ireturn, 1) := by decide +kernel
theorem dX5_isHeavier_20 : decode cX5_isHeavier 20 = .ok (.aload_n 0, 1) := by decide +kernel
theorem dX5_isHeavier_21 : decode cX5_isHeavier 21 = .ok (.iload_n 1, 1) := by decide +kernel
theorem dX5_isHeavier_22 : decode cX5_isHeavier 22 = .ok (.invokevirtual 71, 3) := by decide +kernel
theorem dX5_isHeavier_25 : decode cX5_isHeavier 25 = .ok (.aload_n 0, 1) := by decide +kernel
theorem dX5_isHeavier_26 : decode cX5_isHeavier 26 = .ok (.iload_n 2, 1) := by decide +kernel
theorem dX5_isHeavier_27 : decode cX5_isHeavier 27 = .ok (.invokevirtual 71, 3) := by decide +kernel
theorem dX5_isHeavier_30 : decode cX5_isHeavier 30 = .ok (.if_icmp .ne 12, 3) := by decide +kernel
theorem dX5_isHeavier_33 : decode cX5_isHeavier 33 = .ok (.iload_n 1, 1) := by decide +kernel
theorem dX5_isHeavier_34 : decode cX5_isHeavier 34 = .ok (.iload_n 2, 1) := by decide +kernel
theorem dX5_isHeavier_35 : decode cX5_isHeavier 35 = .ok (.if_icmp .ge 7, 3) := by decide +kernel
theorem dX5_isHeavier_38 : decode cX5_isHeavier 38 = .ok (.iconst 1, 1) := by decide +kernel
theorem dX5_isHeavier_39 : decode cX5_isHeavier 39 = .ok (.goto 4, 3) := by decide +kernel
theorem dX5_isHeavier_42 : decode cX5_isHeavier 42 = .ok (.iconst 0, 1) := by decide +kernel
theorem dX5_isHeavier_43 : decode cX5_isHeavier 43 = .ok (.ireturn, 1) := by decide +kernel
theorem dX5_followDown_0 : decode cX5_followDown 0 = .ok (.aload_n 0, 1) := by decide +kernel
theorem dX5_followDown_1 : decode cX5_followDown 1 = .ok (.getfield 30, 3) := by decide +kernel
theorem dX5_followDown_4 : decode cX5_followDown 4 = .ok (.iload_n 1, 1) := by decide +kernel
theorem dX5_followDown_5 : decode cX5_followDown 5 = .ok (.invokevirtual 63, 3) := by decide +kernel
theorem dX5_followDown_8 : decode cX5_followDown 8 = .ok (.ifCond .ne 4, 3) := by decide +kernel
theorem dX5_followDown_11 : decode cX5_followDown 11 = .ok (.return_, 1) := by decide +kernel
theorem dX5_followDown_12 : decode cX5_followDown 12 = .ok (.aload_n 0, 1) := by decide +kernel
theorem dX5_followDown_13 : decode cX5_followDown 13 = .ok (.getfield 34, 3) := by decide +kernel
theorem dX5_followDown_16 : decode cX5_followDown 16 = .ok (.iload_n 1, 1) := by decide +kernel
theorem dX5_followDown_17 : decode cX5_followDown 17 = .ok (.invokevirtual 60, 3) := by decide +kernel
theorem dX5_followDown_20 : decode cX5_followDown 20 = .ok (.istore_n 2, 1) := by decide +kernel
theorem dX5_followDown_21 : decode cX5_followDown 21 = .ok (.iload_n 2, 1) := by decide +kernel
theorem dX5_followDown_22 : decode cX5_followDown 22 = .ok (.iconst (-1), 1) := by decide +kernel
theorem dX5_followDown_23 : decode cX5_followDown 23 = .ok (.if_icmp .eq 16, 3) := by decide +kernel
theorem dX5_followDown_26 : decode cX5_followDown 26 = .ok (.aload_n 0, 1) := by decide +kernel
theorem dX5_followDown_27 : decode cX5_followDown 27 = .ok (.iload_n 2, 1) := by decide +kernel
theorem dX5_followDown_28 : decode cX5_followDown 28 = .ok (.invokevirtual 74, 3) := by decide +kernel
theorem dX5_followDown_31 : decode cX5_followDown 31 = .ok (.iload_n 1, 1) := by decide +kernel
theorem dX5_followDown_32 : decode cX5_followDown 32 = .ok (.if_icmp .ne 7, 3) := by decide +kernel
theorem dX5_followDown_35 : decode cX5_followDown 35 = .ok (.iconst 1, 1) := by decide +kernel
theorem dX5_followDown_36 : decode cX5_followDown 36 = .ok (.goto 4, 3) := by decide +kernel
theorem dX5_followDown_39 : decode cX5_followDown 39 = .ok (.iconst 0, 1) := by decide +kernel
theorem dX5_followDown_40 : decode cX5_followDown 40 = .ok (.istore_n 3, 1) := by decide +kernel
theorem dX5_followDown_41 : decode cX5_followDown 41 = .ok (.iload_n 2, 1) := by decide +kernel
theorem dX5_followDown_42 : decode cX5_followDown 42 = .ok (.iconst (-1), 1) := by decide +kernel
theorem dX5_followDown_43 : decode cX5_followDown 43 = .ok (.if_icmp .eq 11, 3) := by decide +kernel
theorem dX5_followDown_46 : decode cX5_followDown 46 = .ok (.iload_n 3, 1) := by decide +kernel
theorem dX5_followDown_47 : decode cX5_followDown 47 = .ok (.ifCond .ne 7, 3) := by decide +kernel
theorem dX5_followDown_50 : decode cX5_followDown 50 = .ok (.iconst 1, 1) := by decide +kernel
theorem dX5_followDown_51 : decode cX5_followDown 51 = .ok (.goto 4, 3) := by decide +kernel
theorem dX5_followDown_54 : decode cX5_followDown 54 = .ok (.iconst 0, 1) := by decide +kernel
theorem dX5_followDown_55 : decode cX5_followDown 55 = .ok (.istore 4, 2) := by decide +kernel
theorem dX5_followDown_57 : decode cX5_followDown 57 = .ok (.aload_n 0, 1) := by decide +kernel
theorem dX5_followDown_58 : decode cX5_followDown 58 = .ok (.getfield 21, 3) := by decide +kernel
theorem dX5_followDown_61 : decode cX5_followDown 61 = .ok (.iload_n 1, 1) := by decide +kernel
theorem dX5_followDown_62 : decode cX5_followDown 62 = .ok (.iload_n 3, 1) := by decide +kernel
theorem dX5_followDown_63 : decode cX5_followDown 63 = .ok (.ifCond .eq 11, 3) := by decide +kernel
theorem dX5_followDown_66 : decode cX5_followDown 66 = .ok (.aload_n 0, 1) := by decide +kernel
theorem dX5_followDown_67 : decode cX5_followDown 67 = .ok (.iload_n 2, 1) := by decide +kernel
theorem dX5_followDown_68 : decode cX5_followDown 68 = .ok (.invokevirtual 77, 3) := by decide +kernel
theorem dX5_followDown_71 : decode cX5_followDown 71 = .ok (.goto 4, 3) := by decide +kernel
theorem dX5_followDown_74 : decode cX5_followDown 74 = .ok (.iload_n 1, 1) := by decide +kernel
theorem dX5_followDown_75 : decode cX5_followDown 75 = .ok (.iastore, 1) := by decide +kernel
theorem dX5_followDown_76 : decode cX5_followDown 76 = .ok (.aload_n 0, 1) := by decide +kernel
theorem dX5_followDown_77 : decode cX5_followDown 77 = .ok (.getfield 24, 3) := by decide +kernel
theorem dX5_followDown_80 : decode cX5_followDown 80 = .ok (.iload_n 1, 1) := by decide +kernel
theorem dX5_followDown_81 : decode cX5_followDown 81 = .ok (.aload_n 0, 1) := by decide +kernel
theorem dX5_followDown_82 : decode cX5_followDown 82 = .ok (.getfield 30, 3) := by decide +kernel
theorem dX5_followDown_85 : decode cX5_followDown 85 = .ok (.iload_n 1, 1) := by decide +kernel
theorem dX5_followDown_86 : decode cX5_followDown 86 = .ok (.invokevirtual 38, 3) := by decide +kernel
theorem dX5_followDown_89 : decode cX5_followDown 89 = .ok (.iload_n 3, 1) := by decide +kernel
theorem dX5_followDown_90 : decode cX5_followDown 90 = .ok (.ifCond .eq 11, 3) := by decide +kernel
theorem dX5_followDown_93 : decode cX5_followDown 93 = .ok (.aload_n 0, 1) := by decide +kernel
theorem dX5_followDown_94 : decode cX5_followDown 94 = .ok (.iload_n 2, 1) := by decide +kernel
theorem dX5_followDown_95 : decode cX5_followDown 95 = .ok (.invokevirtual 80, 3) := by decide +kernel
theorem dX5_followDown_98 : decode cX5_followDown 98 = .ok (.goto 4, 3) := by decide +kernel
theorem dX5_followDown_101 : decode cX5_followDown 101 = .ok (.iconst 0, 1) := by decide +kernel
theorem dX5_followDown_102 : decode cX5_followDown 102 = .ok (.iadd, 1) := by decide +kernel
theorem dX5_followDown_103 : decode cX5_followDown 103 = .ok (.iastore, 1) := by decide +kernel
theorem dX5_followDown_104 : decode cX5_followDown 104 = .ok (.aload_n 0, 1) := by decide +kernel
theorem dX5_followDown_105 : decode cX5_followDown 105 = .ok (.getfield 27, 3) := by decide +kernel
theorem dX5_followDown_108 : decode cX5_followDown 108 = .ok (.iload_n 1, 1) := by decide +kernel
theorem dX5_followDown_109 : decode cX5_followDown 109 = .ok (.aload_n 0, 1) := by decide +kernel
theorem dX5_followDown_110 : decode cX5_followDown 110 = .ok (.iload_n 2, 1) := by decide +kernel
theorem dX5_followDown_111 : decode cX5_followDown 111 = .ok (.invokevirtual 83, 3) := by decide +kernel
theorem dX5_followDown_114 : decode cX5_followDown 114 = .ok (.iload 4, 2) := by decide +kernel
theorem dX5_followDown_116 : decode cX5_followDown 116 = .ok (.ifCond .eq 7, 3) := by decide +kernel
theorem dX5_followDown_119 : decode cX5_followDown 119 = .ok (.iconst 1, 1) := by decide +kernel
theorem dX5_followDown_120 : decode cX5_followDown 120 = .ok (.goto 4, 3) := by decide +kernel
theorem dX5_followDown_123 : decode cX5_followDown 123 = .ok (.iconst 0, 1) := by decide +kernel
theorem dX5_followDown_124 : decode cX5_followDown 124 = .ok (.iadd, 1) := by decide +kernel
theorem dX5_followDown_125 : decode cX5_followDown 125 = .ok (.iastore, 1) := by decide +kernel
theorem dX5_followDown_126 : decode cX5_followDown 126 = .ok (.return_, 1) := by decide +kernel
theorem dX5_sizeBelow_0 : decode cX5_sizeBelow 0 = .ok (.aload_n 0, 1) := by decide +kernel
theorem dX5_sizeBelow_1 : decode cX5_sizeBelow 1 = .ok (.getfield 30, 3) := by decide +kernel
theorem dX5_sizeBelow_4 : decode cX5_sizeBelow 4 = .ok (.iload_n 1, 1) := by decide +kernel
theorem dX5_sizeBelow_5 : decode cX5_sizeBelow 5 = .ok (.invokevirtual 63, 3) := by decide +kernel
theorem dX5_sizeBelow_8 : decode cX5_sizeBelow 8 = .ok (.ifCond .eq 12, 3) := by decide +kernel
theorem dX5_sizeBelow_11 : decode cX5_sizeBelow 11 = .ok (.aload_n 0, 1) := by decide +kernel
theorem dX5_sizeBelow_12 : decode cX5_sizeBelow 12 = .ok (.getfield 9, 3) := by decide +kernel
theorem dX5_sizeBelow_15 : decode cX5_sizeBelow 15 = .ok (.iload_n 1, 1) := by decide +kernel
theorem dX5_sizeBelow_16 : decode cX5_sizeBelow 16 = .ok (.iaload, 1) := by decide +kernel
theorem dX5_sizeBelow_17 : decode cX5_sizeBelow 17 = .ok (.goto 4, 3) := by decide +kernel
theorem dX5_sizeBelow_20 : decode cX5_sizeBelow 20 = .ok (.iconst 0, 1) := by decide +kernel
theorem dX5_sizeBelow_21 : decode cX5_sizeBelow 21 = .ok (.ireturn, 1) := by decide +kernel
theorem dX5_sumBelow_0 : decode cX5_sumBelow 0 = .ok (.aload_n 0, 1) := by decide +kernel
theorem dX5_sumBelow_1 : decode cX5_sumBelow 1 = .ok (.getfield 30, 3) := by decide +kernel
theorem dX5_sumBelow_4 : decode cX5_sumBelow 4 = .ok (.iload_n 1, 1) := by decide +kernel
theorem dX5_sumBelow_5 : decode cX5_sumBelow 5 = .ok (.invokevirtual 63, 3) := by decide +kernel
theorem dX5_sumBelow_8 : decode cX5_sumBelow 8 = .ok (.ifCond .eq 12, 3) := by decide +kernel
theorem dX5_sumBelow_11 : decode cX5_sumBelow 11 = .ok (.aload_n 0, 1) := by decide +kernel
theorem dX5_sumBelow_12 : decode cX5_sumBelow 12 = .ok (.getfield 15, 3) := by decide +kernel
theorem dX5_sumBelow_15 : decode cX5_sumBelow 15 = .ok (.iload_n 1, 1) := by decide +kernel
theorem dX5_sumBelow_16 : decode cX5_sumBelow 16 = .ok (.iaload, 1) := by decide +kernel
theorem dX5_sumBelow_17 : decode cX5_sumBelow 17 = .ok (.goto 4, 3) := by decide +kernel
theorem dX5_sumBelow_20 : decode cX5_sumBelow 20 = .ok (.iconst 0, 1) := by decide +kernel
theorem dX5_sumBelow_21 : decode cX5_sumBelow 21 = .ok (.ireturn, 1) := by decide +kernel
theorem dX5_heavyBelow_0 : decode cX5_heavyBelow 0 = .ok (.aload_n 0, 1) := by decide +kernel
theorem dX5_heavyBelow_1 : decode cX5_heavyBelow 1 = .ok (.getfield 30, 3) := by decide +kernel
theorem dX5_heavyBelow_4 : decode cX5_heavyBelow 4 = .ok (.iload_n 1, 1) := by decide +kernel
theorem dX5_heavyBelow_5 : decode cX5_heavyBelow 5 = .ok (.invokevirtual 63, 3) := by decide +kernel
theorem dX5_heavyBelow_8 : decode cX5_heavyBelow 8 = .ok (.ifCond .eq 12, 3) := by decide +kernel
theorem dX5_heavyBelow_11 : decode cX5_heavyBelow 11 = .ok (.aload_n 0, 1) := by decide +kernel
theorem dX5_heavyBelow_12 : decode cX5_heavyBelow 12 = .ok (.getfield 18, 3) := by decide +kernel
theorem dX5_heavyBelow_15 : decode cX5_heavyBelow 15 = .ok (.iload_n 1, 1) := by decide +kernel
theorem dX5_heavyBelow_16 : decode cX5_heavyBelow 16 = .ok (.iaload, 1) := by decide +kernel
theorem dX5_heavyBelow_17 : decode cX5_heavyBelow 17 = .ok (.goto 4, 3) := by decide +kernel
theorem dX5_heavyBelow_20 : decode cX5_heavyBelow 20 = .ok (.iconst (-1), 1) := by decide +kernel
theorem dX5_heavyBelow_21 : decode cX5_heavyBelow 21 = .ok (.ireturn, 1) := by decide +kernel
theorem dX5_headOf_0 : decode cX5_headOf 0 = .ok (.aload_n 0, 1) := by decide +kernel
theorem dX5_headOf_1 : decode cX5_headOf 1 = .ok (.getfield 30, 3) := by decide +kernel
theorem dX5_headOf_4 : decode cX5_headOf 4 = .ok (.iload_n 1, 1) := by decide +kernel
theorem dX5_headOf_5 : decode cX5_headOf 5 = .ok (.invokevirtual 63, 3) := by decide +kernel
theorem dX5_headOf_8 : decode cX5_headOf 8 = .ok (.ifCond .eq 12, 3) := by decide +kernel
theorem dX5_headOf_11 : decode cX5_headOf 11 = .ok (.aload_n 0, 1) := by decide +kernel
theorem dX5_headOf_12 : decode cX5_headOf 12 = .ok (.getfield 21, 3) := by decide +kernel
theorem dX5_headOf_15 : decode cX5_headOf 15 = .ok (.iload_n 1, 1) := by decide +kernel
theorem dX5_headOf_16 : decode cX5_headOf 16 = .ok (.iaload, 1) := by decide +kernel
theorem dX5_headOf_17 : decode cX5_headOf 17 = .ok (.goto 4, 3) := by decide +kernel
theorem dX5_headOf_20 : decode cX5_headOf 20 = .ok (.iconst (-1), 1) := by decide +kernel
theorem dX5_headOf_21 : decode cX5_headOf 21 = .ok (.ireturn, 1) := by decide +kernel
theorem dX5_lightAbove_0 : decode cX5_lightAbove 0 = .ok (.aload_n 0, 1) := by decide +kernel
theorem dX5_lightAbove_1 : decode cX5_lightAbove 1 = .ok (.getfield 30, 3) := by decide +kernel
theorem dX5_lightAbove_4 : decode cX5_lightAbove 4 = .ok (.iload_n 1, 1) := by decide +kernel
theorem dX5_lightAbove_5 : decode cX5_lightAbove 5 = .ok (.invokevirtual 63, 3) := by decide +kernel
theorem dX5_lightAbove_8 : decode cX5_lightAbove 8 = .ok (.ifCond .eq 12, 3) := by decide +kernel
theorem dX5_lightAbove_11 : decode cX5_lightAbove 11 = .ok (.aload_n 0, 1) := by decide +kernel
theorem dX5_lightAbove_12 : decode cX5_lightAbove 12 = .ok (.getfield 27, 3) := by decide +kernel
theorem dX5_lightAbove_15 : decode cX5_lightAbove 15 = .ok (.iload_n 1, 1) := by decide +kernel
theorem dX5_lightAbove_16 : decode cX5_lightAbove 16 = .ok (.iaload, 1) := by decide +kernel
theorem dX5_lightAbove_17 : decode cX5_lightAbove 17 = .ok (.goto 4, 3) := by decide +kernel
theorem dX5_lightAbove_20 : decode cX5_lightAbove 20 = .ok (.iconst 0, 1) := by decide +kernel
theorem dX5_lightAbove_21 : decode cX5_lightAbove 21 = .ok (.ireturn, 1) := by decide +kernel
theorem dX5_sumToHead_0 : decode cX5_sumToHead 0 = .ok (.aload_n 0, 1) := by decide +kernel
theorem dX5_sumToHead_1 : decode cX5_sumToHead 1 = .ok (.getfield 30, 3) := by decide +kernel
theorem dX5_sumToHead_4 : decode cX5_sumToHead 4 = .ok (.iload_n 1, 1) := by decide +kernel
theorem dX5_sumToHead_5 : decode cX5_sumToHead 5 = .ok (.invokevirtual 63, 3) := by decide +kernel
theorem dX5_sumToHead_8 : decode cX5_sumToHead 8 = .ok (.ifCond .eq 12, 3) := by decide +kernel
theorem dX5_sumToHead_11 : decode cX5_sumToHead 11 = .ok (.aload_n 0, 1) := by decide +kernel
theorem dX5_sumToHead_12 : decode cX5_sumToHead 12 = .ok (.getfield 24, 3) := by decide +kernel
theorem dX5_sumToHead_15 : decode cX5_sumToHead 15 = .ok (.iload_n 1, 1) := by decide +kernel
theorem dX5_sumToHead_16 : decode cX5_sumToHead 16 = .ok (.iaload, 1) := by decide +kernel
theorem dX5_sumToHead_17 : decode cX5_sumToHead 17 = .ok (.goto 4, 3) := by decide +kernel
theorem dX5_sumToHead_20 : decode cX5_sumToHead 20 = .ok (.iconst 0, 1) := by decide +kernel
theorem dX5_sumToHead_21 : decode cX5_sumToHead 21 = .ok (.ireturn, 1) := by decide +kernel
theorem dX5_sumToRoot_0 : decode cX5_sumToRoot 0 = .ok (.iconst 0, 1) := by decide +kernel
theorem dX5_sumToRoot_1 : decode cX5_sumToRoot 1 = .ok (.istore_n 2, 1) := by decide +kernel
theorem dX5_sumToRoot_2 : decode cX5_sumToRoot 2 = .ok (.iload_n 1, 1) := by decide +kernel
theorem dX5_sumToRoot_3 : decode cX5_sumToRoot 3 = .ok (.istore_n 3, 1) := by decide +kernel
theorem dX5_sumToRoot_4 : decode cX5_sumToRoot 4 = .ok (.iconst 0, 1) := by decide +kernel
theorem dX5_sumToRoot_5 : decode cX5_sumToRoot 5 = .ok (.istore 4, 2) := by decide +kernel
theorem dX5_sumToRoot_7 : decode cX5_sumToRoot 7 = .ok (.iload 4, 2) := by decide +kernel
theorem dX5_sumToRoot_9 : decode cX5_sumToRoot 9 = .ok (.bipush 20, 2) := by decide +kernel
theorem dX5_sumToRoot_11 : decode cX5_sumToRoot 11 = .ok (.if_icmp .ge 35, 3) := by decide +kernel
theorem dX5_sumToRoot_14 : decode cX5_sumToRoot 14 = .ok (.iload_n 3, 1) := by decide +kernel
theorem dX5_sumToRoot_15 : decode cX5_sumToRoot 15 = .ok (.iconst (-1), 1) := by decide +kernel
theorem dX5_sumToRoot_16 : decode cX5_sumToRoot 16 = .ok (.if_icmp .eq 30, 3) := by decide +kernel
theorem dX5_sumToRoot_19 : decode cX5_sumToRoot 19 = .ok (.iload_n 2, 1) := by decide +kernel
theorem dX5_sumToRoot_20 : decode cX5_sumToRoot 20 = .ok (.aload_n 0, 1) := by decide +kernel
theorem dX5_sumToRoot_21 : decode cX5_sumToRoot 21 = .ok (.iload_n 3, 1) := by decide +kernel
theorem dX5_sumToRoot_22 : decode cX5_sumToRoot 22 = .ok (.invokevirtual 80, 3) := by decide +kernel
theorem dX5_sumToRoot_25 : decode cX5_sumToRoot 25 = .ok (.iadd, 1) := by decide +kernel
theorem dX5_sumToRoot_26 : decode cX5_sumToRoot 26 = .ok (.istore_n 2, 1) := by decide +kernel
theorem dX5_sumToRoot_27 : decode cX5_sumToRoot 27 = .ok (.aload_n 0, 1) := by decide +kernel
theorem dX5_sumToRoot_28 : decode cX5_sumToRoot 28 = .ok (.getfield 34, 3) := by decide +kernel
theorem dX5_sumToRoot_31 : decode cX5_sumToRoot 31 = .ok (.aload_n 0, 1) := by decide +kernel
theorem dX5_sumToRoot_32 : decode cX5_sumToRoot 32 = .ok (.iload_n 3, 1) := by decide +kernel
theorem dX5_sumToRoot_33 : decode cX5_sumToRoot 33 = .ok (.invokevirtual 77, 3) := by decide +kernel
theorem dX5_sumToRoot_36 : decode cX5_sumToRoot 36 = .ok (.invokevirtual 60, 3) := by decide +kernel
theorem dX5_sumToRoot_39 : decode cX5_sumToRoot 39 = .ok (.istore_n 3, 1) := by decide +kernel
theorem dX5_sumToRoot_40 : decode cX5_sumToRoot 40 = .ok (.iinc 4 1, 3) := by decide +kernel
theorem dX5_sumToRoot_43 : decode cX5_sumToRoot 43 = .ok (.goto (-36), 3) := by decide +kernel
theorem dX5_sumToRoot_46 : decode cX5_sumToRoot 46 = .ok (.iload_n 2, 1) := by decide +kernel
theorem dX5_sumToRoot_47 : decode cX5_sumToRoot 47 = .ok (.ireturn, 1) := by decide +kernel
theorem dX5_countPaths_0 : decode cX5_countPaths 0 = .ok (.iconst 0, 1) := by decide +kernel
theorem dX5_countPaths_1 : decode cX5_countPaths 1 = .ok (.istore_n 1, 1) := by decide +kernel
theorem dX5_countPaths_2 : decode cX5_countPaths 2 = .ok (.iconst 0, 1) := by decide +kernel
theorem dX5_countPaths_3 : decode cX5_countPaths 3 = .ok (.istore_n 2, 1) := by decide +kernel
theorem dX5_countPaths_4 : decode cX5_countPaths 4 = .ok (.iload_n 2, 1) := by decide +kernel
theorem dX5_countPaths_5 : decode cX5_countPaths 5 = .ok (.aload_n 0, 1) := by decide +kernel
theorem dX5_countPaths_6 : decode cX5_countPaths 6 = .ok (.getfield 34, 3) := by decide +kernel
theorem dX5_countPaths_9 : decode cX5_countPaths 9 = .ok (.invokevirtual 44, 3) := by decide +kernel
theorem dX5_countPaths_12 : decode cX5_countPaths 12 = .ok (.if_icmp .ge 30, 3) := by decide +kernel
theorem dX5_countPaths_15 : decode cX5_countPaths 15 = .ok (.aload_n 0, 1) := by decide +kernel
theorem dX5_countPaths_16 : decode cX5_countPaths 16 = .ok (.getfield 34, 3) := by decide +kernel
theorem dX5_countPaths_19 : decode cX5_countPaths 19 = .ok (.iload_n 2, 1) := by decide +kernel
theorem dX5_countPaths_20 : decode cX5_countPaths 20 = .ok (.invokevirtual 50, 3) := by decide +kernel
theorem dX5_countPaths_23 : decode cX5_countPaths 23 = .ok (.istore_n 3, 1) := by decide +kernel
theorem dX5_countPaths_24 : decode cX5_countPaths 24 = .ok (.aload_n 0, 1) := by decide +kernel
theorem dX5_countPaths_25 : decode cX5_countPaths 25 = .ok (.iload_n 3, 1) := by decide +kernel
theorem dX5_countPaths_26 : decode cX5_countPaths 26 = .ok (.invokevirtual 77, 3) := by decide +kernel
theorem dX5_countPaths_29 : decode cX5_countPaths 29 = .ok (.iload_n 3, 1) := by decide +kernel
theorem dX5_countPaths_30 : decode cX5_countPaths 30 = .ok (.if_icmp .ne 6, 3) := by decide +kernel
theorem dX5_countPaths_33 : decode cX5_countPaths 33 = .ok (.iinc 1 1, 3) := by decide +kernel
theorem dX5_countPaths_36 : decode cX5_countPaths 36 = .ok (.iinc 2 1, 3) := by decide +kernel
theorem dX5_countPaths_39 : decode cX5_countPaths 39 = .ok (.goto (-35), 3) := by decide +kernel
theorem dX5_countPaths_42 : decode cX5_countPaths 42 = .ok (.iload_n 1, 1) := by decide +kernel
theorem dX5_countPaths_43 : decode cX5_countPaths 43 = .ok (.ireturn, 1) := by decide +kernel
theorem dX6_init_0 : decode cX6_init 0 = .ok (.aload_n 0, 1) := by decide +kernel
theorem dX6_init_1 : decode cX6_init 1 = .ok (.invokespecial 3, 3) := by decide +kernel
theorem dX6_init_4 : decode cX6_init 4 = .ok (.aload_n 0, 1) := by decide +kernel
theorem dX6_init_5 : decode cX6_init 5 = .ok (.iconst 5, 1) := by decide +kernel
theorem dX6_init_6 : decode cX6_init 6 = .ok (.bipush 20, 2) := by decide +kernel
theorem dX6_init_8 : decode cX6_init 8 = .ok (.multianewarray 9 2, 4) := by decide +kernel
theorem dX6_init_12 : decode cX6_init 12 = .ok (.putfield 11, 3) := by decide +kernel
theorem dX6_init_15 : decode cX6_init 15 = .ok (.aload_n 0, 1) := by decide +kernel
theorem dX6_init_16 : decode cX6_init 16 = .ok (.aload_n 1, 1) := by decide +kernel
theorem dX6_init_17 : decode cX6_init 17 = .ok (.putfield 16, 3) := by decide +kernel
theorem dX6_init_20 : decode cX6_init 20 = .ok (.aload_n 0, 1) := by decide +kernel
theorem dX6_init_21 : decode cX6_init 21 = .ok (.aload_n 2, 1) := by decide +kernel
theorem dX6_init_22 : decode cX6_init 22 = .ok (.putfield 20, 3) := by decide +kernel
theorem dX6_init_25 : decode cX6_init 25 = .ok (.return_, 1) := by decide +kernel
theorem dX6_build_0 : decode cX6_build 0 = .ok (.iconst 0, 1) := by decide +kernel
theorem dX6_build_1 : decode cX6_build 1 = .ok (.istore_n 1, 1) := by decide +kernel
theorem dX6_build_2 : decode cX6_build 2 = .ok (.iload_n 1, 1) := by decide +kernel
theorem dX6_build_3 : decode cX6_build 3 = .ok (.bipush 20, 2) := by decide +kernel
theorem dX6_build_5 : decode cX6_build 5 = .ok (.if_icmp .ge 25, 3) := by decide +kernel
theorem dX6_build_8 : decode cX6_build 8 = .ok (.aload_n 0, 1) := by decide +kernel
theorem dX6_build_9 : decode cX6_build 9 = .ok (.getfield 11, 3) := by decide +kernel
theorem dX6_build_12 : decode cX6_build 12 = .ok (.iconst 0, 1) := by decide +kernel
theorem dX6_build_13 : decode cX6_build 13 = .ok (.aaload, 1) := by decide +kernel
theorem dX6_build_14 : decode cX6_build 14 = .ok (.iload_n 1, 1) := by decide +kernel
theorem dX6_build_15 : decode cX6_build 15 = .ok (.aload_n 0, 1) := by decide +kernel
theorem dX6_build_16 : decode cX6_build 16 = .ok (.getfield 20, 3) := by decide +kernel
theorem dX6_build_19 : decode cX6_build 19 = .ok (.iload_n 1, 1) := by decide +kernel
theorem dX6_build_20 : decode cX6_build 20 = .ok (.invokevirtual 24, 3) := by decide +kernel
theorem dX6_build_23 : decode cX6_build 23 = .ok (.iastore, 1) := by decide +kernel
theorem dX6_build_24 : decode cX6_build 24 = .ok (.iinc 1 1, 3) := by decide +kernel
theorem dX6_build_27 : decode cX6_build 27 = .ok (.goto (-25), 3) := by decide +kernel
theorem dX6_build_30 : decode cX6_build 30 = .ok (.iconst 1, 1) := by decide +kernel
theorem dX6_build_31 : decode cX6_build 31 = .ok (.istore_n 1, 1) := by decide +kernel
theorem dX6_build_32 : decode cX6_build 32 = .ok (.iload_n 1, 1) := by decide +kernel
theorem dX6_build_33 : decode cX6_build 33 = .ok (.iconst 5, 1) := by decide +kernel
theorem dX6_build_34 : decode cX6_build 34 = .ok (.if_icmp .ge 46, 3) := by decide +kernel
theorem dX6_build_37 : decode cX6_build 37 = .ok (.iconst 0, 1) := by decide +kernel
theorem dX6_build_38 : decode cX6_build 38 = .ok (.istore_n 2, 1) := by decide +kernel
theorem dX6_build_39 : decode cX6_build 39 = .ok (.iload_n 2, 1) := by decide +kernel
theorem dX6_build_40 : decode cX6_build 40 = .ok (.bipush 20, 2) := by decide +kernel
theorem dX6_build_42 : decode cX6_build 42 = .ok (.if_icmp .ge 32, 3) := by decide +kernel
theorem dX6_build_45 : decode cX6_build 45 = .ok (.aload_n 0, 1) := by decide +kernel
theorem dX6_build_46 : decode cX6_build 46 = .ok (.getfield 11, 3) := by decide +kernel
theorem dX6_build_49 : decode cX6_build 49 = .ok (.iload_n 1, 1) := by decide +kernel
theorem dX6_build_50 : decode cX6_build 50 = .ok (.aaload, 1) := by decide +kernel
theorem dX6_build_51 : decode cX6_build 51 = .ok (.iload_n 2, 1) := by decide +kernel
theorem dX6_build_52 : decode cX6_build 52 = .ok (.aload_n 0, 1) := by decide +kernel
theorem dX6_build_53 : decode cX6_build 53 = .ok (.aload_n 0, 1) := by decide +kernel
theorem dX6_build_54 : decode cX6_build 54 = .ok (.iload_n 2, 1) := by decide +kernel
theorem dX6_build_55 : decode cX6_build 55 = .ok (.iload_n 1, 1) := by decide +kernel
theorem dX6_build_56 : decode cX6_build 56 = .ok (.iconst 1, 1) := by decide +kernel
theorem dX6_build_57 : decode cX6_build 57 = .ok (.isub, 1) := by decide +kernel
theorem dX6_build_58 : decode cX6_build 58 = .ok (.invokevirtual 30, 3) := by decide +kernel
theorem dX6_build_61 : decode cX6_build 61 = .ok (.iload_n 1, 1) := by decide +kernel
theorem dX6_build_62 : decode cX6_build 62 = .ok (.iconst 1, 1) := by decide +kernel
theorem dX6_build_63 : decode cX6_build 63 = .ok (.isub, 1) := by decide +kernel
theorem dX6_build_64 : decode cX6_build 64 = .ok (.invokevirtual 30, 3) := by decide +kernel
theorem dX6_build_67 : decode cX6_build 67 = .ok (.iastore, 1) := by decide +kernel
theorem dX6_build_68 : decode cX6_build 68 = .ok (.iinc 2 1, 3) := by decide +kernel
theorem dX6_build_71 : decode cX6_build 71 = .ok (.goto (-32), 3) := by decide +kernel
theorem dX6_build_74 : decode cX6_build 74 = .ok (.iinc 1 1, 3) := by decide +kernel
theorem dX6_build_77 : decode cX6_build 77 = .ok (.goto (-45), 3) := by decide +kernel
theorem dX6_build_80 : decode cX6_build 80 = .ok (.return_, 1) := by decide +kernel
theorem dX6_jump_0 : decode cX6_jump 0 = .ok (.aload_n 0, 1) := by decide +kernel
theorem dX6_jump_1 : decode cX6_jump 1 = .ok (.getfield 16, 3) := by decide +kernel
theorem dX6_jump_4 : decode cX6_jump 4 = .ok (.iload_n 1, 1) := by decide +kernel
theorem dX6_jump_5 : decode cX6_jump 5 = .ok (.invokevirtual 34, 3) := by decide +kernel
theorem dX6_jump_8 : decode cX6_jump 8 = .ok (.ifCond .eq 12, 3) := by decide +kernel
theorem dX6_jump_11 : decode cX6_jump 11 = .ok (.iload_n 2, 1) := by decide +kernel
theorem dX6_jump_12 : decode cX6_jump 12 = .ok (.ifCond .lt 8, 3) := by decide +kernel
theorem dX6_jump_15 : decode cX6_jump 15 = .ok (.iload_n 2, 1) := by decide +kernel
theorem dX6_jump_16 : decode cX6_jump 16 = .ok (.iconst 5, 1) := by decide +kernel
theorem dX6_jump_17 : decode cX6_jump 17 = .ok (.if_icmp .lt 5, 3) := by decide +kernel
theorem dX6_jump_20 : decode cX6_jump 20 = .ok (.iconst (-1), 1) := by decide +kernel
theorem dX6_jump_21 : decode cX6_jump 21 = .ok (.ireturn, 1) := by decide +kernel
theorem dX6_jump_22 : decode cX6_jump 22 = .ok (.aload_n 0, 1) := by decide +kernel
theorem dX6_jump_23 : decode cX6_jump 23 = .ok (.getfield 11, 3) := by decide +kernel
theorem dX6_jump_26 : decode cX6_jump 26 = .ok (.iload_n 2, 1) := by decide +kernel
theorem dX6_jump_27 : decode cX6_jump 27 = .ok (.aaload, 1) := by decide +kernel
theorem dX6_jump_28 : decode cX6_jump 28 = .ok (.iload_n 1, 1) := by decide +kernel
theorem dX6_jump_29 : decode cX6_jump 29 = .ok (.iaload, 1) := by decide +kernel
theorem dX6_jump_30 : decode cX6_jump 30 = .ok (.ireturn, 1) := by decide +kernel
theorem dX6_climb_0 : decode cX6_climb 0 = .ok (.iload_n 1, 1) := by decide +kernel
theorem dX6_climb_1 : decode cX6_climb 1 = .ok (.istore_n 3, 1) := by decide +kernel
theorem dX6_climb_2 : decode cX6_climb 2 = .ok (.iconst 0, 1) := by decide +kernel
theorem dX6_climb_3 : decode cX6_climb 3 = .ok (.istore 4, 2) := by decide +kernel
theorem dX6_climb_5 : decode cX6_climb 5 = .ok (.iload 4, 2) := by decide +kernel
theorem dX6_climb_7 : decode cX6_climb 7 = .ok (.iconst 5, 1) := by decide +kernel
theorem dX6_climb_8 : decode cX6_climb 8 = .ok (.if_icmp .ge 27, 3) := by decide +kernel
theorem dX6_climb_11 : decode cX6_climb 11 = .ok (.iload_n 2, 1) := by decide +kernel
theorem dX6_climb_12 : decode cX6_climb 12 = .ok (.iload 4, 2) := by decide +kernel
theorem dX6_climb_14 : decode cX6_climb 14 = .ok (.ishr, 1) := by decide +kernel
theorem dX6_climb_15 : decode cX6_climb 15 = .ok (.iconst 1, 1) := by decide +kernel
theorem dX6_climb_16 : decode cX6_climb 16 = .ok (.iand, 1) := by decide +kernel
theorem dX6_climb_17 : decode cX6_climb 17 = .ok (.iconst 1, 1) := by decide +kernel
theorem dX6_climb_18 : decode cX6_climb 18 = .ok (.if_icmp .ne 11, 3) := by decide +kernel
theorem dX6_climb_21 : decode cX6_climb 21 = .ok (.aload_n 0, 1) := by decide +kernel
theorem dX6_climb_22 : decode cX6_climb 22 = .ok (.iload_n 3, 1) := by decide +kernel
theorem dX6_climb_23 : decode cX6_climb 23 = .ok (.iload 4, 2) := by decide +kernel
theorem dX6_climb_25 : decode cX6_climb 25 = .ok (.invokevirtual 30, 3) := by decide +kernel
theorem dX6_climb_28 : decode cX6_climb 28 = .ok (.istore_n 3, 1) := by decide +kernel
theorem dX6_climb_29 : decode cX6_climb 29 = .ok (.iinc 4 1, 3) := by decide +kernel
theorem dX6_climb_32 : decode cX6_climb 32 = .ok (.goto (-27), 3) := by decide +kernel
theorem dX6_climb_35 : decode cX6_climb 35 = .ok (.iload_n 3, 1) := by decide +kernel
theorem dX6_climb_36 : decode cX6_climb 36 = .ok (.ireturn, 1) := by decide +kernel
theorem dX6_meet_0 : decode cX6_meet 0 = .ok (.aload_n 0, 1) := by decide +kernel
theorem dX6_meet_1 : decode cX6_meet 1 = .ok (.iload_n 1, 1) := by decide +kernel
theorem dX6_meet_2 : decode cX6_meet 2 = .ok (.iconst 0, 1) := by decide +kernel
theorem dX6_meet_3 : decode cX6_meet 3 = .ok (.aload_n 0, 1) := by decide +kernel
theorem dX6_meet_4 : decode cX6_meet 4 = .ok (.getfield 20, 3) := by decide +kernel
theorem dX6_meet_7 : decode cX6_meet 7 = .ok (.iload_n 1, 1) := by decide +kernel
theorem dX6_meet_8 : decode cX6_meet 8 = .ok (.invokevirtual 40, 3) := by decide +kernel
theorem dX6_meet_11 : decode cX6_meet 11 = .ok (.aload_n 0, 1) := by decide +kernel
theorem dX6_meet_12 : decode cX6_meet 12 = .ok (.getfield 20, 3) := by decide +kernel
theorem dX6_meet_15 : decode cX6_meet 15 = .ok (.iload_n 2, 1) := by decide +kernel
theorem dX6_meet_16 : decode cX6_meet 16 = .ok (.invokevirtual 40, 3) := by decide +kernel
theorem dX6_meet_19 : decode cX6_meet 19 = .ok (.isub, 1) := by decide +kernel
theorem dX6_meet_20 : decode cX6_meet 20 = .ok (.invokestatic 43, 3) := by decide +kernel
theorem dX6_meet_23 : decode cX6_meet 23 = .ok (.invokevirtual 48, 3) := by decide +kernel
theorem dX6_meet_26 : decode cX6_meet 26 = .ok (.istore_n 3, 1) := by decide +kernel
theorem dX6_meet_27 : decode cX6_meet 27 = .ok (.aload_n 0, 1) := by decide +kernel
theorem dX6_meet_28 : decode cX6_meet 28 = .ok (.iload_n 2, 1) := by decide +kernel
theorem dX6_meet_29 : decode cX6_meet 29 = .ok (.iconst 0, 1) := by decide +kernel
theorem dX6_meet_30 : decode cX6_meet 30 = .ok (.aload_n 0, 1) := by decide +kernel
theorem dX6_meet_31 : decode cX6_meet 31 = .ok (.getfield 20, 3) := by decide +kernel
theorem dX6_meet_34 : decode cX6_meet 34 = .ok (.iload_n 2, 1) := by decide +kernel
theorem dX6_meet_35 : decode cX6_meet 35 = .ok (.invokevirtual 40, 3) := by decide +kernel
theorem dX6_meet_38 : decode cX6_meet 38 = .ok (.aload_n 0, 1) := by decide +kernel
theorem dX6_meet_39 : decode cX6_meet 39 = .ok (.getfield 20, 3) := by decide +kernel
theorem dX6_meet_42 : decode cX6_meet 42 = .ok (.iload_n 1, 1) := by decide +kernel
theorem dX6_meet_43 : decode cX6_meet 43 = .ok (.invokevirtual 40, 3) := by decide +kernel
theorem dX6_meet_46 : decode cX6_meet 46 = .ok (.isub, 1) := by decide +kernel
theorem dX6_meet_47 : decode cX6_meet 47 = .ok (.invokestatic 43, 3) := by decide +kernel
theorem dX6_meet_50 : decode cX6_meet 50 = .ok (.invokevirtual 48, 3) := by decide +kernel
theorem dX6_meet_53 : decode cX6_meet 53 = .ok (.istore 4, 2) := by decide +kernel
theorem dX6_meet_55 : decode cX6_meet 55 = .ok (.iload_n 3, 1) := by decide +kernel
theorem dX6_meet_56 : decode cX6_meet 56 = .ok (.iload 4, 2) := by decide +kernel
theorem dX6_meet_58 : decode cX6_meet 58 = .ok (.if_icmp .ne 5, 3) := by decide +kernel
theorem dX6_meet_61 : decode cX6_meet 61 = .ok (.iload_n 3, 1) := by decide +kernel
theorem dX6_meet_62 : decode cX6_meet 62 = .ok (.ireturn, 1) := by decide +kernel
theorem dX6_meet_63 : decode cX6_meet 63 = .ok (.iconst 4, 1) := by decide +kernel
theorem dX6_meet_64 : decode cX6_meet 64 = .ok (.istore 5, 2) := by decide +kernel
theorem dX6_meet_66 : decode cX6_meet 66 = .ok (.iload 5, 2) := by decide +kernel
theorem dX6_meet_68 : decode cX6_meet 68 = .ok (.ifCond .lt 45, 3) := by decide +kernel
theorem dX6_meet_71 : decode cX6_meet 71 = .ok (.aload_n 0, 1) := by decide +kernel
theorem dX6_meet_72 : decode cX6_meet 72 = .ok (.iload_n 3, 1) := by decide +kernel
theorem dX6_meet_73 : decode cX6_meet 73 = .ok (.iload 5, 2) := by decide +kernel
theorem dX6_meet_75 : decode cX6_meet 75 = .ok (.invokevirtual 30, 3) := by decide +kernel
theorem dX6_meet_78 : decode cX6_meet 78 = .ok (.aload_n 0, 1) := by decide +kernel
theorem dX6_meet_79 : decode cX6_meet 79 = .ok (.iload 4, 2) := by decide +kernel
theorem dX6_meet_81 : decode cX6_meet 81 = .ok (.iload 5, 2) := by decide +kernel
theorem dX6_meet_83 : decode cX6_meet 83 = .ok (.invokevirtual 30, 3) := by decide +kernel
theorem dX6_meet_86 : decode cX6_meet 86 = .ok (.if_icmp .eq 21, 3) := by decide +kernel
theorem dX6_meet_89 : decode cX6_meet 89 = .ok (.aload_n 0, 1) := by decide +kernel
theorem dX6_meet_90 : decode cX6_meet 90 = .ok (.iload_n 3, 1) := by decide +kernel
theorem dX6_meet_91 : decode cX6_meet 91 = .ok (.iload 5, 2) := by decide +kernel
theorem dX6_meet_93 : decode cX6_meet 93 = .ok (.invokevirtual 30, 3) := by decide +kernel
theorem dX6_meet_96 : decode cX6_meet 96 = .ok (.istore_n 3, 1) := by decide +kernel
theorem dX6_meet_97 : decode cX6_meet 97 = .ok (.aload_n 0, 1) := by decide +kernel
theorem dX6_meet_98 : decode cX6_meet 98 = .ok (.iload 4, 2) := by decide +kernel
theorem dX6_meet_100 : decode cX6_meet 100 = .ok (.iload 5, 2) := by decide +kernel
theorem dX6_meet_102 : decode cX6_meet 102 = .ok (.invokevirtual 30, 3) := by decide +kernel
theorem dX6_meet_105 : decode cX6_meet 105 = .ok (.istore 4, 2) := by decide +kernel
theorem dX6_meet_107 : decode cX6_meet 107 = .ok (.iinc 5 (-1), 3) := by decide +kernel
theorem dX6_meet_110 : decode cX6_meet 110 = .ok (.goto (-44), 3) := by decide +kernel
theorem dX6_meet_113 : decode cX6_meet 113 = .ok (.aload_n 0, 1) := by decide +kernel
theorem dX6_meet_114 : decode cX6_meet 114 = .ok (.iload_n 3, 1) := by decide +kernel
theorem dX6_meet_115 : decode cX6_meet 115 = .ok (.iconst 0, 1) := by decide +kernel
theorem dX6_meet_116 : decode cX6_meet 116 = .ok (.invokevirtual 30, 3) := by decide +kernel
theorem dX6_meet_119 : decode cX6_meet 119 = .ok (.ireturn, 1) := by decide +kernel
theorem dX7_init_0 : decode cX7_init 0 = .ok (.aload_n 0, 1) := by decide +kernel
theorem dX7_init_1 : decode cX7_init 1 = .ok (.invokespecial 3, 3) := by decide +kernel
theorem dX7_init_4 : decode cX7_init 4 = .ok (.aload_n 0, 1) := by decide +kernel
theorem dX7_init_5 : decode cX7_init 5 = .ok (.bipush 20, 2) := by decide +kernel
theorem dX7_init_7 : decode cX7_init 7 = .ok (.newarray .int, 2) := by decide +kernel
theorem dX7_init_9 : decode cX7_init 9 = .ok (.putfield 9, 3) := by decide +kernel
theorem dX7_init_12 : decode cX7_init 12 = .ok (.aload_n 0, 1) := by decide +kernel
theorem dX7_init_13 : decode cX7_init 13 = .ok (.bipush 20, 2) := by decide +kernel
theorem dX7_init_15 : decode cX7_init 15 = .ok (.newarray .int, 2) := by decide +kernel
theorem dX7_init_17 : decode cX7_init 17 = .ok (.putfield 15, 3) := by decide +kernel
theorem dX7_init_20 : decode cX7_init 20 = .ok (.aload_n 0, 1) := by decide +kernel
theorem dX7_init_21 : decode cX7_init 21 = .ok (.bipush 20, 2) := by decide +kernel
theorem dX7_init_23 : decode cX7_init 23 = .ok (.newarray .int, 2) := by decide +kernel
theorem dX7_init_25 : decode cX7_init 25 = .ok (.putfield 18, 3) := by decide +kernel
theorem dX7_init_28 : decode cX7_init 28 = .ok (.aload_n 0, 1) := by decide +kernel
theorem dX7_init_29 : decode cX7_init 29 = .ok (.bipush 20, 2) := by decide +kernel
theorem dX7_init_31 : decode cX7_init 31 = .ok (.newarray .int, 2) := by decide +kernel
theorem dX7_init_33 : decode cX7_init 33 = .ok (.putfield 21, 3) := by decide +kernel
theorem dX7_init_36 : decode cX7_init 36 = .ok (.aload_n 0, 1) := by decide +kernel
theorem dX7_init_37 : decode cX7_init 37 = .ok (.bipush 20, 2) := by decide +kernel
theorem dX7_init_39 : decode cX7_init 39 = .ok (.newarray .int, 2) := by decide +kernel
theorem dX7_init_41 : decode cX7_init 41 = .ok (.putfield 24, 3) := by decide +kernel
theorem dX7_init_44 : decode cX7_init 44 = .ok (.aload_n 0, 1) := by decide +kernel
theorem dX7_init_45 : decode cX7_init 45 = .ok (.iconst 0, 1) := by decide +kernel
theorem dX7_init_46 : decode cX7_init 46 = .ok (.putfield 27, 3) := by decide +kernel
theorem dX7_init_49 : decode cX7_init 49 = .ok (.aload_n 0, 1) := by decide +kernel
theorem dX7_init_50 : decode cX7_init 50 = .ok (.aload_n 1, 1) := by decide +kernel
theorem dX7_init_51 : decode cX7_init 51 = .ok (.putfield 31, 3) := by decide +kernel
theorem dX7_init_54 : decode cX7_init 54 = .ok (.aload_n 0, 1) := by decide +kernel
theorem dX7_init_55 : decode cX7_init 55 = .ok (.aload_n 2, 1) := by decide +kernel
theorem dX7_init_56 : decode cX7_init 56 = .ok (.putfield 35, 3) := by decide +kernel
theorem dX7_init_59 : decode cX7_init 59 = .ok (.return_, 1) := by decide +kernel
theorem dX7_plant_0 : decode cX7_plant 0 = .ok (.aload_n 0, 1) := by decide +kernel
theorem dX7_plant_1 : decode cX7_plant 1 = .ok (.iconst 0, 1) := by decide +kernel
theorem dX7_plant_2 : decode cX7_plant 2 = .ok (.putfield 27, 3) := by decide +kernel
theorem dX7_plant_5 : decode cX7_plant 5 = .ok (.aload_n 0, 1) := by decide +kernel
theorem dX7_plant_6 : decode cX7_plant 6 = .ok (.getfield 15, 3) := by decide +kernel
theorem dX7_plant_9 : decode cX7_plant 9 = .ok (.iconst (-1), 1) := by decide +kernel
theorem dX7_plant_10 : decode cX7_plant 10 = .ok (.invokestatic 39, 3) := by decide +kernel
theorem dX7_plant_13 : decode cX7_plant 13 = .ok (.aload_n 0, 1) := by decide +kernel
theorem dX7_plant_14 : decode cX7_plant 14 = .ok (.getfield 18, 3) := by decide +kernel
theorem dX7_plant_17 : decode cX7_plant 17 = .ok (.iconst (-1), 1) := by decide +kernel
theorem dX7_plant_18 : decode cX7_plant 18 = .ok (.invokestatic 39, 3) := by decide +kernel
theorem dX7_plant_21 : decode cX7_plant 21 = .ok (.aload_n 0, 1) := by decide +kernel
theorem dX7_plant_22 : decode cX7_plant 22 = .ok (.iload_n 1, 1) := by decide +kernel
theorem dX7_plant_23 : decode cX7_plant 23 = .ok (.iconst (-1), 1) := by decide +kernel
theorem dX7_plant_24 : decode cX7_plant 24 = .ok (.iconst (-1), 1) := by decide +kernel
theorem dX7_plant_25 : decode cX7_plant 25 = .ok (.invokevirtual 45, 3) := by decide +kernel
theorem dX7_plant_28 : decode cX7_plant 28 = .ok (.iconst 0, 1) := by decide +kernel
theorem dX7_plant_29 : decode cX7_plant 29 = .ok (.istore_n 3, 1) := by decide +kernel
theorem dX7_plant_30 : decode cX7_plant 30 = .ok (.iload_n 3, 1) := by decide +kernel
theorem dX7_plant_31 : decode cX7_plant 31 = .ok (.bipush 20, 2) := by decide +kernel
theorem dX7_plant_33 : decode cX7_plant 33 = .ok (.if_icmp .ge 81, 3) := by decide +kernel
theorem dX7_plant_36 : decode cX7_plant 36 = .ok (.iload_n 3, 1) := by decide +kernel
theorem dX7_plant_37 : decode cX7_plant 37 = .ok (.aload_n 0, 1) := by decide +kernel
theorem dX7_plant_38 : decode cX7_plant 38 = .ok (.getfield 27, 3) := by decide +kernel
theorem dX7_plant_41 : decode cX7_plant 41 = .ok (.if_icmp .ge 73, 3) := by decide +kernel
theorem dX7_plant_44 : decode cX7_plant 44 = .ok (.iconst 0, 1) := by decide +kernel
theorem dX7_plant_45 : decode cX7_plant 45 = .ok (.istore 4, 2) := by decide +kernel
theorem dX7_plant_47 : decode cX7_plant 47 = .ok (.iload 4, 2) := by decide +kernel
theorem dX7_plant_49 : decode cX7_plant 49 = .ok (.aload_n 0, 1) := by decide +kernel
theorem dX7_plant_50 : decode cX7_plant 50 = .ok (.getfield 31, 3) := by decide +kernel
theorem dX7_plant_53 : decode cX7_plant 53 = .ok (.invokevirtual 49, 3) := by decide +kernel
theorem dX7_plant_56 : decode cX7_plant 56 = .ok (.if_icmp .ge 52, 3) := by decide +kernel
theorem dX7_plant_59 : decode cX7_plant 59 = .ok (.aload_n 0, 1) := by decide +kernel
theorem dX7_plant_60 : decode cX7_plant 60 = .ok (.getfield 35, 3) := by decide +kernel
theorem dX7_plant_63 : decode cX7_plant 63 = .ok (.aload_n 0, 1) := by decide +kernel
theorem dX7_plant_64 : decode cX7_plant 64 = .ok (.getfield 9, 3) := by decide +kernel
theorem dX7_plant_67 : decode cX7_plant 67 = .ok (.iload_n 3, 1) := by decide +kernel
theorem dX7_plant_68 : decode cX7_plant 68 = .ok (.iaload, 1) := by decide +kernel
theorem dX7_plant_69 : decode cX7_plant 69 = .ok (.iload 4, 2) := by decide +kernel
theorem dX7_plant_71 : decode cX7_plant 71 = .ok (.invokevirtual 55, 3) := by decide +kernel
theorem dX7_plant_74 : decode cX7_plant 74 = .ok (.istore 5, 2) := by decide +kernel
theorem dX7_plant_76 : decode cX7_plant 76 = .ok (.iload 5, 2) := by decide +kernel
theorem dX7_plant_78 : decode cX7_plant 78 = .ok (.iconst (-1), 1) := by decide +kernel
theorem dX7_plant_79 : decode cX7_plant 79 = .ok (.if_icmp .eq 23, 3) := by decide +kernel
theorem dX7_plant_82 : decode cX7_plant 82 = .ok (.iload 5, 2) := by decide +kernel
theorem dX7_plant_84 : decode cX7_plant 84 = .ok (.iload_n 2, 1) := by decide +kernel
theorem dX7_plant_85 : decode cX7_plant 85 = .ok (.if_icmp .eq 17, 3) := by decide +kernel
theorem dX7_plant_88 : decode cX7_plant 88 = .ok (.aload_n 0, 1) := by decide +kernel
theorem dX7_plant_89 : decode cX7_plant 89 = .ok (.iload 4, 2) := by decide +kernel
theorem dX7_plant_91 : decode cX7_plant 91 = .ok (.aload_n 0, 1) := by decide +kernel
theorem dX7_plant_92 : decode cX7_plant 92 = .ok (.getfield 9, 3) := by decide +kernel
theorem dX7_plant_95 : decode cX7_plant 95 = .ok (.iload_n 3, 1) := by decide +kernel
theorem dX7_plant_96 : decode cX7_plant 96 = .ok (.iaload, 1) := by decide +kernel
theorem dX7_plant_97 : decode cX7_plant 97 = .ok (.iload 5, 2) := by decide +kernel
theorem dX7_plant_99 : decode cX7_plant 99 = .ok (.invokevirtual 45, 3) := by decide +kernel
theorem dX7_plant_102 : decode cX7_plant 102 = .ok (.iinc 4 1, 3) := by decide +kernel
theorem dX7_plant_105 : decode cX7_plant 105 = .ok (.goto (-58), 3) := by decide +kernel
theorem dX7_plant_108 : decode cX7_plant 108 = .ok (.iinc 3 1, 3) := by decide +kernel
theorem dX7_plant_111 : decode cX7_plant 111 = .ok (.goto (-81), 3) := by decide +kernel
theorem dX7_plant_114 : decode cX7_plant 114 = .ok (.return_, 1) := by decide +kernel
theorem dX7_reach_0 : decode cX7_reach 0 = .ok (.aload_n 0, 1) := by decide +kernel
theorem dX7_reach_1 : decode cX7_reach 1 = .ok (.getfield 31, 3) := by decide +kernel
theorem dX7_reach_4 : decode cX7_reach 4 = .ok (.iload_n 1, 1) := by decide +kernel
theorem dX7_reach_5 : decode cX7_reach 5 = .ok (.invokevirtual 61, 3) := by decide +kernel
theorem dX7_reach_8 : decode cX7_reach 8 = .ok (.ifCond .eq 22, 3) := by decide +kernel
theorem dX7_reach_11 : decode cX7_reach 11 = .ok (.aload_n 0, 1) := by decide +kernel
theorem dX7_reach_12 : decode cX7_reach 12 = .ok (.getfield 15, 3) := by decide +kernel
theorem dX7_reach_15 : decode cX7_reach 15 = .ok (.iload_n 1, 1) := by decide +kernel
theorem dX7_reach_16 : decode cX7_reach 16 = .ok (.iaload, 1) := by decide +kernel
theorem dX7_reach_17 : decode cX7_reach 17 = .ok (.iconst (-1), 1) := by decide +kernel
theorem dX7_reach_18 : decode cX7_reach 18 = .ok (.if_icmp .ne 12, 3) := by decide +kernel
theorem dX7_reach_21 : decode cX7_reach 21 = .ok (.aload_n 0, 1) := by decide +kernel
theorem dX7_reach_22 : decode cX7_reach 22 = .ok (.getfield 27, 3) := by decide +kernel
theorem dX7_reach_25 : decode cX7_reach 25 = .ok (.bipush 20, 2) := by decide +kernel
theorem dX7_reach_27 : decode cX7_reach 27 = .ok (.if_icmp .lt 4, 3) := by decide +kernel
theorem dX7_reach_30 : decode cX7_reach 30 = .ok (.return_, 1) := by decide +kernel
theorem dX7_reach_31 : decode cX7_reach 31 = .ok (.aload_n 0, 1) := by decide +kernel
theorem dX7_reach_32 : decode cX7_reach 32 = .ok (.getfield 9, 3) := by decide +kernel
theorem dX7_reach_35 : decode cX7_reach 35 = .ok (.aload_n 0, 1) := by decide +kernel
theorem dX7_reach_36 : decode cX7_reach 36 = .ok (.getfield 27, 3) := by decide +kernel
theorem dX7_reach_39 : decode cX7_reach 39 = .ok (.iload_n 1, 1) := by decide +kernel
theorem dX7_reach_40 : decode cX7_reach 40 = .ok (.iastore, 1) := by decide +kernel
theorem dX7_reach_41 : decode cX7_reach 41 = .ok (.aload_n 0, 1) := by decide +kernel
theorem dX7_reach_42 : decode cX7_reach 42 = .ok (.dup, 1) := by decide +kernel
theorem dX7_reach_43 : decode cX7_reach 43 = .ok (.getfield 27, 3) := by decide +kernel
theorem dX7_reach_46 : decode cX7_reach 46 = .ok (.iconst 1, 1) := by decide +kernel
theorem dX7_reach_47 : decode cX7_reach 47 = .ok (.iadd, 1) := by decide +kernel
theorem dX7_reach_48 : decode cX7_reach 48 = .ok (.putfield 27, 3) := by decide +kernel
theorem dX7_reach_51 : decode cX7_reach 51 = .ok (.aload_n 0, 1) := by decide +kernel
theorem dX7_reach_52 : decode cX7_reach 52 = .ok (.getfield 15, 3) := by decide +kernel
theorem dX7_reach_55 : decode cX7_reach 55 = .ok (.iload_n 1, 1) := by decide +kernel
theorem dX7_reach_56 : decode cX7_reach 56 = .ok (.iconst 0, 1) := by decide +kernel
theorem dX7_reach_57 : decode cX7_reach 57 = .ok (.iastore, 1) := by decide +kernel
theorem dX7_reach_58 : decode cX7_reach 58 = .ok (.aload_n 0, 1) := by decide +kernel
theorem dX7_reach_59 : decode cX7_reach 59 = .ok (.getfield 18, 3) := by decide +kernel
theorem dX7_reach_62 : decode cX7_reach 62 = .ok (.iload_n 1, 1) := by decide +kernel
theorem dX7_reach_63 : decode cX7_reach 63 = .ok (.iload_n 2, 1) := by decide +kernel
theorem dX7_reach_64 : decode cX7_reach 64 = .ok (.iastore, 1) := by decide +kernel
theorem dX7_reach_65 : decode cX7_reach 65 = .ok (.aload_n 0, 1) := by decide +kernel
theorem dX7_reach_66 : decode cX7_reach 66 = .ok (.getfield 21, 3) := by decide +kernel
theorem dX7_reach_69 : decode cX7_reach 69 = .ok (.iload_n 1, 1) := by decide +kernel
theorem dX7_reach_70 : decode cX7_reach 70 = .ok (.aload_n 0, 1) := by decide +kernel
theorem dX7_reach_71 : decode cX7_reach 71 = .ok (.getfield 31, 3) := by decide +kernel
theorem dX7_reach_74 : decode cX7_reach 74 = .ok (.iload_n 1, 1) := by decide +kernel
theorem dX7_reach_75 : decode cX7_reach 75 = .ok (.invokevirtual 65, 3) := by decide +kernel
theorem dX7_reach_78 : decode cX7_reach 78 = .ok (.iastore, 1) := by decide +kernel
theorem dX7_reach_79 : decode cX7_reach 79 = .ok (.aload_n 0, 1) := by decide +kernel
theorem dX7_reach_80 : decode cX7_reach 80 = .ok (.getfield 24, 3) := by decide +kernel
theorem dX7_reach_83 : decode cX7_reach 83 = .ok (.iload_n 1, 1) := by decide +kernel
theorem dX7_reach_84 : decode cX7_reach 84 = .ok (.iload_n 3, 1) := by decide +kernel
theorem dX7_reach_85 : decode cX7_reach 85 = .ok (.iastore, 1) := by decide +kernel
theorem dX7_reach_86 : decode cX7_reach 86 = .ok (.aload_n 0, 1) := by decide +kernel
theorem dX7_reach_87 : decode cX7_reach 87 = .ok (.getfield 31, 3) := by decide +kernel
theorem dX7_reach_90 : decode cX7_reach 90 = .ok (.iload_n 2, 1) := by decide +kernel
theorem dX7_reach_91 : decode cX7_reach 91 = .ok (.invokevirtual 61, 3) := by decide +kernel
theorem dX7_reach_94 : decode cX7_reach 94 = .ok (.ifCond .eq 67, 3) := by decide +kernel
theorem dX7_reach_97 : decode cX7_reach 97 = .ok (.aload_n 0, 1) := by decide +kernel
theorem dX7_reach_98 : decode cX7_reach 98 = .ok (.getfield 24, 3) := by decide +kernel
theorem dX7_reach_101 : decode cX7_reach 101 = .ok (.iload_n 2, 1) := by decide +kernel
theorem dX7_reach_102 : decode cX7_reach 102 = .ok (.iaload, 1) := by decide +kernel
theorem dX7_reach_103 : decode cX7_reach 103 = .ok (.istore 4, 2) := by decide +kernel
theorem dX7_reach_105 : decode cX7_reach 105 = .ok (.aload_n 0, 1) := by decide +kernel
theorem dX7_reach_106 : decode cX7_reach 106 = .ok (.getfield 15, 3) := by decide +kernel
theorem dX7_reach_109 : decode cX7_reach 109 = .ok (.iload_n 1, 1) := by decide +kernel
theorem dX7_reach_110 : decode cX7_reach 110 = .ok (.aload_n 0, 1) := by decide +kernel
theorem dX7_reach_111 : decode cX7_reach 111 = .ok (.getfield 15, 3) := by decide +kernel
theorem dX7_reach_114 : decode cX7_reach 114 = .ok (.iload_n 2, 1) := by decide +kernel
theorem dX7_reach_115 : decode cX7_reach 115 = .ok (.iaload, 1) := by decide +kernel
theorem dX7_reach_116 : decode cX7_reach 116 = .ok (.iconst 1, 1) := by decide +kernel
theorem dX7_reach_117 : decode cX7_reach 117 = .ok (.iadd, 1) := by decide +kernel
theorem dX7_reach_118 : decode cX7_reach 118 = .ok (.iastore, 1) := by decide +kernel
theorem dX7_reach_119 : decode cX7_reach 119 = .ok (.aload_n 0, 1) := by decide +kernel
theorem dX7_reach_120 : decode cX7_reach 120 = .ok (.getfield 21, 3) := by decide +kernel
theorem dX7_reach_123 : decode cX7_reach 123 = .ok (.iload_n 1, 1) := by decide +kernel
theorem dX7_reach_124 : decode cX7_reach 124 = .ok (.dup2, 1) := by decide +kernel
theorem dX7_reach_125 : decode cX7_reach 125 = .ok (.iaload, 1) := by decide +kernel
theorem dX7_reach_126 : decode cX7_reach 126 = .ok (.aload_n 0, 1) := by decide +kernel
theorem dX7_reach_127 : decode cX7_reach 127 = .ok (.getfield 21, 3) := by decide +kernel
theorem dX7_reach_130 : decode cX7_reach 130 = .ok (.iload_n 2, 1) := by decide +kernel
theorem dX7_reach_131 : decode cX7_reach 131 = .ok (.iaload, 1) := by decide +kernel
theorem dX7_reach_132 : decode cX7_reach 132 = .ok (.iadd, 1) := by decide +kernel
theorem dX7_reach_133 : decode cX7_reach 133 = .ok (.iastore, 1) := by decide +kernel
theorem dX7_reach_134 : decode cX7_reach 134 = .ok (.iload 4, 2) := by decide +kernel
theorem dX7_reach_136 : decode cX7_reach 136 = .ok (.iconst (-1), 1) := by decide +kernel
theorem dX7_reach_137 : decode cX7_reach 137 = .ok (.if_icmp .eq 24, 3) := by decide +kernel
theorem dX7_reach_140 : decode cX7_reach 140 = .ok (.aload_n 0, 1) := by decide +kernel
theorem dX7_reach_141 : decode cX7_reach 141 = .ok (.getfield 31, 3) := by decide +kernel
theorem dX7_reach_144 : decode cX7_reach 144 = .ok (.iload_n 3, 1) := by decide +kernel
theorem dX7_reach_145 : decode cX7_reach 145 = .ok (.iload 4, 2) := by decide +kernel
theorem dX7_reach_147 : decode cX7_reach 147 = .ok (.invokevirtual 69, 3) := by decide +kernel
theorem dX7_reach_150 : decode cX7_reach 150 = .ok (.ifCond .eq 11, 3) := by decide +kernel
theorem dX7_reach_153 : decode cX7_reach 153 = .ok (.aload_n 0, 1) := by decide +kernel
theorem dX7_reach_154 : decode cX7_reach 154 = .ok (.getfield 24, 3) := by decide +kernel
theorem dX7_reach_157 : decode cX7_reach 157 = .ok (.iload_n 1, 1) := by decide +kernel
theorem dX7_reach_158 : decode cX7_reach 158 = .ok (.iload 4, 2) := by decide +kernel
theorem dX7_reach_160 : decode cX7_reach 160 = .ok (.iastore, 1) := by decide +kernel
theorem dX7_reach_161 : decode cX7_reach 161 = .ok (.return_, 1) := by decide +kernel
theorem dX7_count_0 : decode cX7_count 0 = .ok (.aload_n 0, 1) := by decide +kernel
theorem dX7_count_1 : decode cX7_count 1 = .ok (.getfield 27, 3) := by decide +kernel
theorem dX7_count_4 : decode cX7_count 4 = .ok (.ireturn, 1) := by decide +kernel
theorem dX7_vertexAt_0 : decode cX7_vertexAt 0 = .ok (.iload_n 1, 1) := by decide +kernel
theorem dX7_vertexAt_1 : decode cX7_vertexAt 1 = .ok (.ifCond .lt 26, 3) := by decide +kernel
theorem dX7_vertexAt_4 : decode cX7_vertexAt 4 = .ok (.iload_n 1, 1) := by decide +kernel
theorem dX7_vertexAt_5 : decode cX7_vertexAt 5 = .ok (.aload_n 0, 1) := by decide +kernel
theorem dX7_vertexAt_6 : decode cX7_vertexAt 6 = .ok (.getfield 27, 3) := by decide +kernel
theorem dX7_vertexAt_9 : decode cX7_vertexAt 9 = .ok (.if_icmp .ge 18, 3) := by decide +kernel
theorem dX7_vertexAt_12 : decode cX7_vertexAt 12 = .ok (.iload_n 1, 1) := by decide +kernel
theorem dX7_vertexAt_13 : decode cX7_vertexAt 13 = .ok (.bipush 20, 2) := by decide +kernel
theorem dX7_vertexAt_15 : decode cX7_vertexAt 15 = .ok (.if_icmp .ge 12, 3) := by decide +kernel
theorem dX7_vertexAt_18 : decode cX7_vertexAt 18 = .ok (.aload_n 0, 1) := by decide +kernel
theorem dX7_vertexAt_19 : decode cX7_vertexAt 19 = .ok (.getfield 9, 3) := by decide +kernel
theorem dX7_vertexAt_22 : decode cX7_vertexAt 22 = .ok (.iload_n 1, 1) := by decide +kernel
theorem dX7_vertexAt_23 : decode cX7_vertexAt 23 = .ok (.iaload, 1) := by decide +kernel
theorem dX7_vertexAt_24 : decode cX7_vertexAt 24 = .ok (.goto 4, 3) := by decide +kernel
theorem dX7_vertexAt_27 : decode cX7_vertexAt 27 = .ok (.iconst (-1), 1) := by decide +kernel
theorem dX7_vertexAt_28 : decode cX7_vertexAt 28 = .ok (.ireturn, 1) := by decide +kernel
theorem dX7_deepest_0 : decode cX7_deepest 0 = .ok (.aload_n 0, 1) := by decide +kernel
theorem dX7_deepest_1 : decode cX7_deepest 1 = .ok (.aload_n 0, 1) := by decide +kernel
theorem dX7_deepest_2 : decode cX7_deepest 2 = .ok (.getfield 27, 3) := by decide +kernel
theorem dX7_deepest_5 : decode cX7_deepest 5 = .ok (.iconst 1, 1) := by decide +kernel
theorem dX7_deepest_6 : decode cX7_deepest 6 = .ok (.isub, 1) := by decide +kernel
theorem dX7_deepest_7 : decode cX7_deepest 7 = .ok (.invokevirtual 73, 3) := by decide +kernel
theorem dX7_deepest_10 : decode cX7_deepest 10 = .ok (.ireturn, 1) := by decide +kernel
theorem dX7_holds_0 : decode cX7_holds 0 = .ok (.aload_n 0, 1) := by decide +kernel
theorem dX7_holds_1 : decode cX7_holds 1 = .ok (.iload_n 1, 1) := by decide +kernel
theorem dX7_holds_2 : decode cX7_holds 2 = .ok (.invokevirtual 76, 3) := by decide +kernel
theorem dX7_holds_5 : decode cX7_holds 5 = .ok (.iconst (-1), 1) := by decide +kernel
theorem dX7_holds_6 : decode cX7_holds 6 = .ok (.if_icmp .eq 7, 3) := by decide +kernel
theorem dX7_holds_9 : decode cX7_holds 9 = .ok (.iconst 1, 1) := by decide +kernel
theorem dX7_holds_10 : decode cX7_holds 10 = .ok (.goto 4, 3) := by decide +kernel
theorem dX7_holds_13 : decode cX7_holds 13 = .ok (.iconst 0, 1) := by decide +kernel
theorem dX7_holds_14 : decode cX7_holds 14 = .ok (.ireturn, 1) := by decide +kernel
theorem dX7_depthOf_0 : decode cX7_depthOf 0 = .ok (.aload_n 0, 1) := by decide +kernel
theorem dX7_depthOf_1 : decode cX7_depthOf 1 = .ok (.getfield 31, 3) := by decide +kernel
theorem dX7_depthOf_4 : decode cX7_depthOf 4 = .ok (.iload_n 1, 1) := by decide +kernel
theorem dX7_depthOf_5 : decode cX7_depthOf 5 = .ok (.invokevirtual 61, 3) := by decide +kernel
theorem dX7_depthOf_8 : decode cX7_depthOf 8 = .ok (.ifCond .eq 12, 3) := by decide +kernel
theorem dX7_depthOf_11 : decode cX7_depthOf 11 = .ok (.aload_n 0, 1) := by decide +kernel
theorem dX7_depthOf_12 : decode cX7_depthOf 12 = .ok (.getfield 15, 3) := by decide +kernel
theorem dX7_depthOf_15 : decode cX7_depthOf 15 = .ok (.iload_n 1, 1) := by decide +kernel
theorem dX7_depthOf_16 : decode cX7_depthOf 16 = .ok (.iaload, 1) := by decide +kernel
theorem dX7_depthOf_17 : decode cX7_depthOf 17 = .ok (.goto 4, 3) := by decide +kernel
theorem dX7_depthOf_20 : decode cX7_depthOf 20 = .ok (.iconst (-1), 1) := by decide +kernel
theorem dX7_depthOf_21 : decode cX7_depthOf 21 = .ok (.ireturn, 1) := by decide +kernel
theorem dX7_above_0 : decode cX7_above 0 = .ok (.aload_n 0, 1) := by decide +kernel
theorem dX7_above_1 : decode cX7_above 1 = .ok (.getfield 31, 3) := by decide +kernel
theorem dX7_above_4 : decode cX7_above 4 = .ok (.iload_n 1, 1) := by decide +kernel
theorem dX7_above_5 : decode cX7_above 5 = .ok (.invokevirtual 61, 3) := by decide +kernel
theorem dX7_above_8 : decode cX7_above 8 = .ok (.ifCond .eq 12, 3) := by decide +kernel
theorem dX7_above_11 : decode cX7_above 11 = .ok (.aload_n 0, 1) := by decide +kernel
theorem dX7_above_12 : decode cX7_above 12 = .ok (.getfield 18, 3) := by decide +kernel
theorem dX7_above_15 : decode cX7_above 15 = .ok (.iload_n 1, 1) := by decide +kernel
theorem dX7_above_16 : decode cX7_above 16 = .ok (.iaload, 1) := by decide +kernel
theorem dX7_above_17 : decode cX7_above 17 = .ok (.goto 4, 3) := by decide +kernel
theorem dX7_above_20 : decode cX7_above 20 = .ok (.iconst (-1), 1) := by decide +kernel
theorem dX7_above_21 : decode cX7_above 21 = .ok (.ireturn, 1) := by decide +kernel
theorem dX7_sumFromRoot_0 : decode cX7_sumFromRoot 0 = .ok (.aload_n 0, 1) := by decide +kernel
theorem dX7_sumFromRoot_1 : decode cX7_sumFromRoot 1 = .ok (.iload_n 1, 1) := by decide +kernel
theorem dX7_sumFromRoot_2 : decode cX7_sumFromRoot 2 = .ok (.invokevirtual 79, 3) := by decide +kernel
theorem dX7_sumFromRoot_5 : decode cX7_sumFromRoot 5 = .ok (.ifCond .eq 12, 3) := by decide +kernel
theorem dX7_sumFromRoot_8 : decode cX7_sumFromRoot 8 = .ok (.aload_n 0, 1) := by decide +kernel
theorem dX7_sumFromRoot_9 : decode cX7_sumFromRoot 9 = .ok (.getfield 21, 3) := by decide +kernel
theorem dX7_sumFromRoot_12 : decode cX7_sumFromRoot 12 = .ok (.iload_n 1, 1) := by decide +kernel
theorem dX7_sumFromRoot_13 : decode cX7_sumFromRoot 13 = .ok (.iaload, 1) := by decide +kernel
theorem dX7_sumFromRoot_14 : decode cX7_sumFromRoot 14 = .ok (.goto 4, 3) := by decide +kernel
theorem dX7_sumFromRoot_17 : decode cX7_sumFromRoot 17 = .ok (.iconst 0, 1) := by decide +kernel
theorem dX7_sumFromRoot_18 : decode cX7_sumFromRoot 18 = .ok (.ireturn, 1) := by decide +kernel
theorem dX7_lastFromRoot_0 : decode cX7_lastFromRoot 0 = .ok (.aload_n 0, 1) := by decide +kernel
theorem dX7_lastFromRoot_1 : decode cX7_lastFromRoot 1 = .ok (.iload_n 1, 1) := by decide +kernel
theorem dX7_lastFromRoot_2 : decode cX7_lastFromRoot 2 = .ok (.invokevirtual 79, 3) := by decide +kernel
theorem dX7_lastFromRoot_5 : decode cX7_lastFromRoot 5 = .ok (.ifCond .eq 12, 3) := by decide +kernel
theorem dX7_lastFromRoot_8 : decode cX7_lastFromRoot 8 = .ok (.aload_n 0, 1) := by decide +kernel
theorem dX7_lastFromRoot_9 : decode cX7_lastFromRoot 9 = .ok (.getfield 24, 3) := by decide +kernel
theorem dX7_lastFromRoot_12 : decode cX7_lastFromRoot 12 = .ok (.iload_n 1, 1) := by decide +kernel
theorem dX7_lastFromRoot_13 : decode cX7_lastFromRoot 13 = .ok (.iaload, 1) := by decide +kernel
theorem dX7_lastFromRoot_14 : decode cX7_lastFromRoot 14 = .ok (.goto 4, 3) := by decide +kernel
theorem dX7_lastFromRoot_17 : decode cX7_lastFromRoot 17 = .ok (.iconst (-1), 1) := by decide +kernel
theorem dX7_lastFromRoot_18 : decode cX7_lastFromRoot 18 = .ok (.ireturn, 1) := by decide +kernel
theorem dX7_climb_0 : decode cX7_climb 0 = .ok (.iload_n 1, 1) := by decide +kernel
theorem dX7_climb_1 : decode cX7_climb 1 = .ok (.istore_n 3, 1) := by decide +kernel
theorem dX7_climb_2 : decode cX7_climb 2 = .ok (.iconst 0, 1) := by decide +kernel
theorem dX7_climb_3 : decode cX7_climb 3 = .ok (.istore 4, 2) := by decide +kernel
theorem dX7_climb_5 : decode cX7_climb 5 = .ok (.iload 4, 2) := by decide +kernel
theorem dX7_climb_7 : decode cX7_climb 7 = .ok (.iload_n 2, 1) := by decide +kernel
theorem dX7_climb_8 : decode cX7_climb 8 = .ok (.if_icmp .ge 22, 3) := by decide +kernel
theorem dX7_climb_11 : decode cX7_climb 11 = .ok (.iload 4, 2) := by decide +kernel
theorem dX7_climb_13 : decode cX7_climb 13 = .ok (.bipush 20, 2) := by decide +kernel
theorem dX7_climb_15 : decode cX7_climb 15 = .ok (.if_icmp .ge 15, 3) := by decide +kernel
theorem dX7_climb_18 : decode cX7_climb 18 = .ok (.aload_n 0, 1) := by decide +kernel
theorem dX7_climb_19 : decode cX7_climb 19 = .ok (.iload_n 3, 1) := by decide +kernel
theorem dX7_climb_20 : decode cX7_climb 20 = .ok (.invokevirtual 82, 3) := by decide +kernel
theorem dX7_climb_23 : decode cX7_climb 23 = .ok (.istore_n 3, 1) := by decide +kernel
theorem dX7_climb_24 : decode cX7_climb 24 = .ok (.iinc 4 1, 3) := by decide +kernel
theorem dX7_climb_27 : decode cX7_climb 27 = .ok (.goto (-22), 3) := by decide +kernel
theorem dX7_climb_30 : decode cX7_climb 30 = .ok (.iload_n 3, 1) := by decide +kernel
theorem dX7_climb_31 : decode cX7_climb 31 = .ok (.ireturn, 1) := by decide +kernel
theorem dX7_addOnWayToRoot_0 : decode cX7_addOnWayToRoot 0 = .ok (.iload_n 1, 1) := by decide +kernel
theorem dX7_addOnWayToRoot_1 : decode cX7_addOnWayToRoot 1 = .ok (.istore_n 3, 1) := by decide +kernel
theorem dX7_addOnWayToRoot_2 : decode cX7_addOnWayToRoot 2 = .ok (.iconst 0, 1) := by decide +kernel
theorem dX7_addOnWayToRoot_3 : decode cX7_addOnWayToRoot 3 = .ok (.istore 4, 2) := by decide +kernel
theorem dX7_addOnWayToRoot_5 : decode cX7_addOnWayToRoot 5 = .ok (.iload 4, 2) := by decide +kernel
theorem dX7_addOnWayToRoot_7 : decode cX7_addOnWayToRoot 7 = .ok (.bipush 20, 2) := by decide +kernel
theorem dX7_addOnWayToRoot_9 : decode cX7_addOnWayToRoot 9 = .ok (.if_icmp .ge 38, 3) := by decide +kernel
theorem dX7_addOnWayToRoot_12 : decode cX7_addOnWayToRoot 12 = .ok (.iload_n 3, 1) := by decide +kernel
theorem dX7_addOnWayToRoot_13 : decode cX7_addOnWayToRoot 13 = .ok (.iconst (-1), 1) := by decide +kernel
theorem dX7_addOnWayToRoot_14 : decode cX7_addOnWayToRoot 14 = .ok (.if_icmp .eq 33, 3) := by decide +kernel
theorem dX7_addOnWayToRoot_17 : decode cX7_addOnWayToRoot 17 = .ok (.aload_n 0, 1) := by decide +kernel
theorem dX7_addOnWayToRoot_18 : decode cX7_addOnWayToRoot 18 = .ok (.getfield 31, 3) := by decide +kernel
theorem dX7_addOnWayToRoot_21 : decode cX7_addOnWayToRoot 21 = .ok (.iload_n 3, 1) := by decide +kernel
theorem dX7_addOnWayToRoot_22 : decode cX7_addOnWayToRoot 22 = .ok (.aload_n 0, 1) := by decide +kernel
theorem dX7_addOnWayToRoot_23 : decode cX7_addOnWayToRoot 23 = .ok (.getfield 31, 3) := by decide +kernel
theorem dX7_addOnWayToRoot_26 : decode cX7_addOnWayToRoot 26 = .ok (.iload_n 3, 1) := by decide +kernel
theorem dX7_addOnWayToRoot_27 : decode cX7_addOnWayToRoot 27 = .ok (.invokevirtual 65, 3) := by decide +kernel
theorem dX7_addOnWayToRoot_30 : decode cX7_addOnWayToRoot 30 = .ok (.iload_n 2, 1) := by decide +kernel
theorem dX7_addOnWayToRoot_31 : decode cX7_addOnWayToRoot 31 = .ok (.iadd, 1) := by decide +kernel
theorem dX7_addOnWayToRoot_32 : decode cX7_addOnWayToRoot 32 = .ok (.invokevirtual 85, 3) := by decide +kernel
theorem dX7_addOnWayToRoot_35 : decode cX7_addOnWayToRoot 35 = .ok (.aload_n 0, 1) := by decide +kernel
theorem dX7_addOnWayToRoot_36 : decode cX7_addOnWayToRoot 36 = .ok (.iload_n 3, 1) := by decide +kernel
theorem dX7_addOnWayToRoot_37 : decode cX7_addOnWayToRoot 37 = .ok (.invokevirtual 82, 3) := by decide +kernel
theorem dX7_addOnWayToRoot_40 : decode cX7_addOnWayToRoot 40 = .ok (.istore_n 3, 1) := by decide +kernel
theorem dX7_addOnWayToRoot_41 : decode cX7_addOnWayToRoot 41 = .ok (.iinc 4 1, 3) := by decide +kernel
theorem dX7_addOnWayToRoot_44 : decode cX7_addOnWayToRoot 44 = .ok (.goto (-39), 3) := by decide +kernel
theorem dX7_addOnWayToRoot_47 : decode cX7_addOnWayToRoot 47 = .ok (.return_, 1) := by decide +kernel
theorem dX7_sumByClimbing_0 : decode cX7_sumByClimbing 0 = .ok (.iconst 0, 1) := by decide +kernel
theorem dX7_sumByClimbing_1 : decode cX7_sumByClimbing 1 = .ok (.istore_n 2, 1) := by decide +kernel
theorem dX7_sumByClimbing_2 : decode cX7_sumByClimbing 2 = .ok (.iload_n 1, 1) := by decide +kernel
theorem dX7_sumByClimbing_3 : decode cX7_sumByClimbing 3 = .ok (.istore_n 3, 1) := by decide +kernel
theorem dX7_sumByClimbing_4 : decode cX7_sumByClimbing 4 = .ok (.iconst 0, 1) := by decide +kernel
theorem dX7_sumByClimbing_5 : decode cX7_sumByClimbing 5 = .ok (.istore 4, 2) := by decide +kernel
theorem dX7_sumByClimbing_7 : decode cX7_sumByClimbing 7 = .ok (.iload 4, 2) := by decide +kernel
theorem dX7_sumByClimbing_9 : decode cX7_sumByClimbing 9 = .ok (.bipush 20, 2) := by decide +kernel
theorem dX7_sumByClimbing_11 : decode cX7_sumByClimbing 11 = .ok (.if_icmp .ge 31, 3) := by decide +kernel
theorem dX7_sumByClimbing_14 : decode cX7_sumByClimbing 14 = .ok (.iload_n 3, 1) := by decide +kernel
theorem dX7_sumByClimbing_15 : decode cX7_sumByClimbing 15 = .ok (.iconst (-1), 1) := by decide +kernel
theorem dX7_sumByClimbing_16 : decode cX7_sumByClimbing 16 = .ok (.if_icmp .eq 26, 3) := by decide +kernel
theorem dX7_sumByClimbing_19 : decode cX7_sumByClimbing 19 = .ok (.iload_n 2, 1) := by decide +kernel
theorem dX7_sumByClimbing_20 : decode cX7_sumByClimbing 20 = .ok (.aload_n 0, 1) := by decide +kernel
theorem dX7_sumByClimbing_21 : decode cX7_sumByClimbing 21 = .ok (.getfield 31, 3) := by decide +kernel
theorem dX7_sumByClimbing_24 : decode cX7_sumByClimbing 24 = .ok (.iload_n 3, 1) := by decide +kernel
theorem dX7_sumByClimbing_25 : decode cX7_sumByClimbing 25 = .ok (.invokevirtual 65, 3) := by decide +kernel
theorem dX7_sumByClimbing_28 : decode cX7_sumByClimbing 28 = .ok (.iadd, 1) := by decide +kernel
theorem dX7_sumByClimbing_29 : decode cX7_sumByClimbing 29 = .ok (.istore_n 2, 1) := by decide +kernel
theorem dX7_sumByClimbing_30 : decode cX7_sumByClimbing 30 = .ok (.aload_n 0, 1) := by decide +kernel
theorem dX7_sumByClimbing_31 : decode cX7_sumByClimbing 31 = .ok (.iload_n 3, 1) := by decide +kernel
theorem dX7_sumByClimbing_32 : decode cX7_sumByClimbing 32 = .ok (.invokevirtual 82, 3) := by decide +kernel
theorem dX7_sumByClimbing_35 : decode cX7_sumByClimbing 35 = .ok (.istore_n 3, 1) := by decide +kernel
theorem dX7_sumByClimbing_36 : decode cX7_sumByClimbing 36 = .ok (.iinc 4 1, 3) := by decide +kernel
theorem dX7_sumByClimbing_39 : decode cX7_sumByClimbing 39 = .ok (.goto (-32), 3) := by decide +kernel
theorem dX7_sumByClimbing_42 : decode cX7_sumByClimbing 42 = .ok (.iload_n 2, 1) := by decide +kernel
theorem dX7_sumByClimbing_43 : decode cX7_sumByClimbing 43 = .ok (.ireturn, 1) := by decide +kernel
theorem dX7_lastByClimbing_0 : decode cX7_lastByClimbing 0 = .ok (.iconst (-1), 1) := by decide +kernel
theorem dX7_lastByClimbing_1 : decode cX7_lastByClimbing 1 = .ok (.istore_n 2, 1) := by decide +kernel
theorem dX7_lastByClimbing_2 : decode cX7_lastByClimbing 2 = .ok (.iload_n 1, 1) := by decide +kernel
theorem dX7_lastByClimbing_3 : decode cX7_lastByClimbing 3 = .ok (.istore_n 3, 1) := by decide +kernel
theorem dX7_lastByClimbing_4 : decode cX7_lastByClimbing 4 = .ok (.iconst 0, 1) := by decide +kernel
theorem dX7_lastByClimbing_5 : decode cX7_lastByClimbing 5 = .ok (.istore 4, 2) := by decide +kernel
theorem dX7_lastByClimbing_7 : decode cX7_lastByClimbing 7 = .ok (.iload 4, 2) := by decide +kernel
theorem dX7_lastByClimbing_9 : decode cX7_lastByClimbing 9 = .ok (.bipush 20, 2) := by decide +kernel
theorem dX7_lastByClimbing_11 : decode cX7_lastByClimbing 11 = .ok (.if_icmp .ge 60, 3) := by decide +kernel
theorem dX7_lastByClimbing_14 : decode cX7_lastByClimbing 14 = .ok (.aload_n 0, 1) := by decide +kernel
theorem dX7_lastByClimbing_15 : decode cX7_lastByClimbing 15 = .ok (.iload_n 3, 1) := by decide +kernel
theorem dX7_lastByClimbing_16 : decode cX7_lastByClimbing 16 = .ok (.invokevirtual 82, 3) := by decide +kernel
theorem dX7_lastByClimbing_19 : decode cX7_lastByClimbing 19 = .ok (.iconst (-1), 1) := by decide +kernel
theorem dX7_lastByClimbing_20 : decode cX7_lastByClimbing 20 = .ok (.if_icmp .eq 51, 3) := by decide +kernel
theorem dX7_lastByClimbing_23 : decode cX7_lastByClimbing 23 = .ok (.aload_n 0, 1) := by decide +kernel
theorem dX7_lastByClimbing_24 : decode cX7_lastByClimbing 24 = .ok (.getfield 35, 3) := by decide +kernel
theorem dX7_lastByClimbing_27 : decode cX7_lastByClimbing 27 = .ok (.iload_n 3, 1) := by decide +kernel
theorem dX7_lastByClimbing_28 : decode cX7_lastByClimbing 28 = .ok (.aload_n 0, 1) := by decide +kernel
theorem dX7_lastByClimbing_29 : decode cX7_lastByClimbing 29 = .ok (.iload_n 3, 1) := by decide +kernel
theorem dX7_lastByClimbing_30 : decode cX7_lastByClimbing 30 = .ok (.invokevirtual 82, 3) := by decide +kernel
theorem dX7_lastByClimbing_33 : decode cX7_lastByClimbing 33 = .ok (.invokevirtual 55, 3) := by decide +kernel
theorem dX7_lastByClimbing_36 : decode cX7_lastByClimbing 36 = .ok (.istore 5, 2) := by decide +kernel
theorem dX7_lastByClimbing_38 : decode cX7_lastByClimbing 38 = .ok (.iload_n 2, 1) := by decide +kernel
theorem dX7_lastByClimbing_39 : decode cX7_lastByClimbing 39 = .ok (.iconst (-1), 1) := by decide +kernel
theorem dX7_lastByClimbing_40 : decode cX7_lastByClimbing 40 = .ok (.if_icmp .eq 16, 3) := by decide +kernel
theorem dX7_lastByClimbing_43 : decode cX7_lastByClimbing 43 = .ok (.aload_n 0, 1) := by decide +kernel
theorem dX7_lastByClimbing_44 : decode cX7_lastByClimbing 44 = .ok (.getfield 31, 3) := by decide +kernel
theorem dX7_lastByClimbing_47 : decode cX7_lastByClimbing 47 = .ok (.iload_n 2, 1) := by decide +kernel
theorem dX7_lastByClimbing_48 : decode cX7_lastByClimbing 48 = .ok (.iload 5, 2) := by decide +kernel
theorem dX7_lastByClimbing_50 : decode cX7_lastByClimbing 50 = .ok (.invokevirtual 69, 3) := by decide +kernel
theorem dX7_lastByClimbing_53 : decode cX7_lastByClimbing 53 = .ok (.ifCond .eq 6, 3) := by decide +kernel
theorem dX7_lastByClimbing_56 : decode cX7_lastByClimbing 56 = .ok (.iload 5, 2) := by decide +kernel
theorem dX7_lastByClimbing_58 : decode cX7_lastByClimbing 58 = .ok (.istore_n 2, 1) := by decide +kernel
theorem dX7_lastByClimbing_59 : decode cX7_lastByClimbing 59 = .ok (.aload_n 0, 1) := by decide +kernel
theorem dX7_lastByClimbing_60 : decode cX7_lastByClimbing 60 = .ok (.iload_n 3, 1) := by decide +kernel
theorem dX7_lastByClimbing_61 : decode cX7_lastByClimbing 61 = .ok (.invokevirtual 82, 3) := by decide +kernel
theorem dX7_lastByClimbing_64 : decode cX7_lastByClimbing 64 = .ok (.istore_n 3, 1) := by decide +kernel
theorem dX7_lastByClimbing_65 : decode cX7_lastByClimbing 65 = .ok (.iinc 4 1, 3) := by decide +kernel
theorem dX7_lastByClimbing_68 : decode cX7_lastByClimbing 68 = .ok (.goto (-61), 3) := by decide +kernel
theorem dX7_lastByClimbing_71 : decode cX7_lastByClimbing 71 = .ok (.iload_n 2, 1) := by decide +kernel
theorem dX7_lastByClimbing_72 : decode cX7_lastByClimbing 72 = .ok (.ireturn, 1) := by decide +kernel
theorem dX7_meetByClimbing_0 : decode cX7_meetByClimbing 0 = .ok (.iload_n 1, 1) := by decide +kernel
theorem dX7_meetByClimbing_1 : decode cX7_meetByClimbing 1 = .ok (.istore_n 3, 1) := by decide +kernel
theorem dX7_meetByClimbing_2 : decode cX7_meetByClimbing 2 = .ok (.iload_n 2, 1) := by decide +kernel
theorem dX7_meetByClimbing_3 : decode cX7_meetByClimbing 3 = .ok (.istore 4, 2) := by decide +kernel
theorem dX7_meetByClimbing_5 : decode cX7_meetByClimbing 5 = .ok (.iconst 0, 1) := by decide +kernel
theorem dX7_meetByClimbing_6 : decode cX7_meetByClimbing 6 = .ok (.istore 5, 2) := by decide +kernel
theorem dX7_meetByClimbing_8 : decode cX7_meetByClimbing 8 = .ok (.iload 5, 2) := by decide +kernel
theorem dX7_meetByClimbing_10 : decode cX7_meetByClimbing 10 = .ok (.bipush 40, 2) := by decide +kernel
theorem dX7_meetByClimbing_12 : decode cX7_meetByClimbing 12 = .ok (.if_icmp .ge 46, 3) := by decide +kernel
theorem dX7_meetByClimbing_15 : decode cX7_meetByClimbing 15 = .ok (.iload_n 3, 1) := by decide +kernel
theorem dX7_meetByClimbing_16 : decode cX7_meetByClimbing 16 = .ok (.iload 4, 2) := by decide +kernel
theorem dX7_meetByClimbing_18 : decode cX7_meetByClimbing 18 = .ok (.if_icmp .eq 40, 3) := by decide +kernel
theorem dX7_meetByClimbing_21 : decode cX7_meetByClimbing 21 = .ok (.aload_n 0, 1) := by decide +kernel
theorem dX7_meetByClimbing_22 : decode cX7_meetByClimbing 22 = .ok (.iload_n 3, 1) := by decide +kernel
theorem dX7_meetByClimbing_23 : decode cX7_meetByClimbing 23 = .ok (.invokevirtual 76, 3) := by decide +kernel
theorem dX7_meetByClimbing_26 : decode cX7_meetByClimbing 26 = .ok (.aload_n 0, 1) := by decide +kernel
theorem dX7_meetByClimbing_27 : decode cX7_meetByClimbing 27 = .ok (.iload 4, 2) := by decide +kernel
theorem dX7_meetByClimbing_29 : decode cX7_meetByClimbing 29 = .ok (.invokevirtual 76, 3) := by decide +kernel
theorem dX7_meetByClimbing_32 : decode cX7_meetByClimbing 32 = .ok (.if_icmp .lt 12, 3) := by decide +kernel
theorem dX7_meetByClimbing_35 : decode cX7_meetByClimbing 35 = .ok (.aload_n 0, 1) := by decide +kernel
theorem dX7_meetByClimbing_36 : decode cX7_meetByClimbing 36 = .ok (.iload_n 3, 1) := by decide +kernel
theorem dX7_meetByClimbing_37 : decode cX7_meetByClimbing 37 = .ok (.invokevirtual 82, 3) := by decide +kernel
theorem dX7_meetByClimbing_40 : decode cX7_meetByClimbing 40 = .ok (.istore_n 3, 1) := by decide +kernel
theorem dX7_meetByClimbing_41 : decode cX7_meetByClimbing 41 = .ok (.goto 11, 3) := by decide +kernel
theorem dX7_meetByClimbing_44 : decode cX7_meetByClimbing 44 = .ok (.aload_n 0, 1) := by decide +kernel
theorem dX7_meetByClimbing_45 : decode cX7_meetByClimbing 45 = .ok (.iload 4, 2) := by decide +kernel
theorem dX7_meetByClimbing_47 : decode cX7_meetByClimbing 47 = .ok (.invokevirtual 82, 3) := by decide +kernel
theorem dX7_meetByClimbing_50 : decode cX7_meetByClimbing 50 = .ok (.istore 4, 2) := by decide +kernel
theorem dX7_meetByClimbing_52 : decode cX7_meetByClimbing 52 = .ok (.iinc 5 1, 3) := by decide +kernel
theorem dX7_meetByClimbing_55 : decode cX7_meetByClimbing 55 = .ok (.goto (-47), 3) := by decide +kernel
theorem dX7_meetByClimbing_58 : decode cX7_meetByClimbing 58 = .ok (.iload_n 3, 1) := by decide +kernel
theorem dX7_meetByClimbing_59 : decode cX7_meetByClimbing 59 = .ok (.ireturn, 1) := by decide +kernel
theorem dJ9_max_7cf53_0 : decode cJ9_max_7cf53 0 = .ok (.iload_n 0, 1) := by decide +kernel
theorem dJ9_max_7cf53_1 : decode cJ9_max_7cf53 1 = .ok (.iload_n 1, 1) := by decide +kernel
theorem dJ9_max_7cf53_2 : decode cJ9_max_7cf53 2 = .ok (.if_icmp .lt 7, 3) := by decide +kernel
theorem dJ9_max_7cf53_5 : decode cJ9_max_7cf53 5 = .ok (.iload_n 0, 1) := by decide +kernel
theorem dJ9_max_7cf53_6 : decode cJ9_max_7cf53 6 = .ok (.goto 4, 3) := by decide +kernel
theorem dJ9_max_7cf53_9 : decode cJ9_max_7cf53 9 = .ok (.iload_n 1, 1) := by decide +kernel
theorem dJ9_max_7cf53_10 : decode cJ9_max_7cf53 10 = .ok (.ireturn, 1) := by decide +kernel
theorem dJ7_fill_53178_0 : decode cJ7_fill_53178 0 = .ok (.iconst 0, 1) := by decide +kernel
theorem dJ7_fill_53178_1 : decode cJ7_fill_53178 1 = .ok (.istore_n 2, 1) := by decide +kernel
theorem dJ7_fill_53178_2 : decode cJ7_fill_53178 2 = .ok (.aload_n 0, 1) := by decide +kernel
theorem dJ7_fill_53178_3 : decode cJ7_fill_53178 3 = .ok (.arraylength, 1) := by decide +kernel
theorem dJ7_fill_53178_4 : decode cJ7_fill_53178 4 = .ok (.istore_n 3, 1) := by decide +kernel
theorem dJ7_fill_53178_5 : decode cJ7_fill_53178 5 = .ok (.iload_n 2, 1) := by decide +kernel
theorem dJ7_fill_53178_6 : decode cJ7_fill_53178 6 = .ok (.iload_n 3, 1) := by decide +kernel
theorem dJ7_fill_53178_7 : decode cJ7_fill_53178 7 = .ok (.if_icmp .ge 13, 3) := by decide +kernel
theorem dJ7_fill_53178_10 : decode cJ7_fill_53178 10 = .ok (.aload_n 0, 1) := by decide +kernel
theorem dJ7_fill_53178_11 : decode cJ7_fill_53178 11 = .ok (.iload_n 2, 1) := by decide +kernel
theorem dJ7_fill_53178_12 : decode cJ7_fill_53178 12 = .ok (.iload_n 1, 1) := by decide +kernel
theorem dJ7_fill_53178_13 : decode cJ7_fill_53178 13 = .ok (.iastore, 1) := by decide +kernel
theorem dJ7_fill_53178_14 : decode cJ7_fill_53178 14 = .ok (.iinc 2 1, 3) := by decide +kernel
theorem dJ7_fill_53178_17 : decode cJ7_fill_53178 17 = .ok (.goto (-12), 3) := by decide +kernel
theorem dJ7_fill_53178_20 : decode cJ7_fill_53178 20 = .ok (.return_, 1) := by decide +kernel
end
section
theorem dX8_init_0 : decode cX8_init 0 = .ok (.aload_n 0, 1) := by decide +kernel
theorem dX8_init_1 : decode cX8_init 1 = .ok (.invokespecial 1, 3) := by decide +kernel
theorem dX8_init_4 : decode cX8_init 4 = .ok (.aload_n 0, 1) := by decide +kernel
theorem dX8_init_5 : decode cX8_init 5 = .ok (.new 7, 3) := by decide +kernel
theorem dX8_init_8 : decode cX8_init 8 = .ok (.dup, 1) := by decide +kernel
theorem dX8_init_9 : decode cX8_init 9 = .ok (.invokespecial 9, 3) := by decide +kernel
theorem dX8_init_12 : decode cX8_init 12 = .ok (.putfield 10, 3) := by decide +kernel
theorem dX8_init_15 : decode cX8_init 15 = .ok (.aload_n 0, 1) := by decide +kernel
theorem dX8_init_16 : decode cX8_init 16 = .ok (.new 16, 3) := by decide +kernel
theorem dX8_init_19 : decode cX8_init 19 = .ok (.dup, 1) := by decide +kernel
theorem dX8_init_20 : decode cX8_init 20 = .ok (.aload_n 0, 1) := by decide +kernel
theorem dX8_init_21 : decode cX8_init 21 = .ok (.getfield 10, 3) := by decide +kernel
theorem dX8_init_24 : decode cX8_init 24 = .ok (.invokespecial 18, 3) := by decide +kernel
theorem dX8_init_27 : decode cX8_init 27 = .ok (.putfield 21, 3) := by decide +kernel
theorem dX8_init_30 : decode cX8_init 30 = .ok (.aload_n 0, 1) := by decide +kernel
theorem dX8_init_31 : decode cX8_init 31 = .ok (.new 25, 3) := by decide +kernel
theorem dX8_init_34 : decode cX8_init 34 = .ok (.dup, 1) := by decide +kernel
theorem dX8_init_35 : decode cX8_init 35 = .ok (.aload_n 0, 1) := by decide +kernel
theorem dX8_init_36 : decode cX8_init 36 = .ok (.getfield 10, 3) := by decide +kernel
theorem dX8_init_39 : decode cX8_init 39 = .ok (.aload_n 0, 1) := by decide +kernel
theorem dX8_init_40 : decode cX8_init 40 = .ok (.getfield 21, 3) := by decide +kernel
theorem dX8_init_43 : decode cX8_init 43 = .ok (.invokespecial 27, 3) := by decide +kernel
theorem dX8_init_46 : decode cX8_init 46 = .ok (.putfield 30, 3) := by decide +kernel
theorem dX8_init_49 : decode cX8_init 49 = .ok (.aload_n 0, 1) := by decide +kernel
theorem dX8_init_50 : decode cX8_init 50 = .ok (.new 34, 3) := by decide +kernel
theorem dX8_init_53 : decode cX8_init 53 = .ok (.dup, 1) := by decide +kernel
theorem dX8_init_54 : decode cX8_init 54 = .ok (.aload_n 0, 1) := by decide +kernel
theorem dX8_init_55 : decode cX8_init 55 = .ok (.getfield 10, 3) := by decide +kernel
theorem dX8_init_58 : decode cX8_init 58 = .ok (.aload_n 0, 1) := by decide +kernel
theorem dX8_init_59 : decode cX8_init 59 = .ok (.getfield 21, 3) := by decide +kernel
theorem dX8_init_62 : decode cX8_init 62 = .ok (.aload_n 0, 1) := by decide +kernel
theorem dX8_init_63 : decode cX8_init 63 = .ok (.getfield 30, 3) := by decide +kernel
theorem dX8_init_66 : decode cX8_init 66 = .ok (.invokespecial 36, 3) := by decide +kernel
theorem dX8_init_69 : decode cX8_init 69 = .ok (.putfield 39, 3) := by decide +kernel
theorem dX8_init_72 : decode cX8_init 72 = .ok (.aload_n 0, 1) := by decide +kernel
theorem dX8_init_73 : decode cX8_init 73 = .ok (.new 43, 3) := by decide +kernel
theorem dX8_init_76 : decode cX8_init 76 = .ok (.dup, 1) := by decide +kernel
theorem dX8_init_77 : decode cX8_init 77 = .ok (.aload_n 0, 1) := by decide +kernel
theorem dX8_init_78 : decode cX8_init 78 = .ok (.getfield 10, 3) := by decide +kernel
theorem dX8_init_81 : decode cX8_init 81 = .ok (.invokespecial 45, 3) := by decide +kernel
theorem dX8_init_84 : decode cX8_init 84 = .ok (.putfield 46, 3) := by decide +kernel
theorem dX8_init_87 : decode cX8_init 87 = .ok (.aload_n 0, 1) := by decide +kernel
theorem dX8_init_88 : decode cX8_init 88 = .ok (.new 50, 3) := by decide +kernel
theorem dX8_init_91 : decode cX8_init 91 = .ok (.dup, 1) := by decide +kernel
theorem dX8_init_92 : decode cX8_init 92 = .ok (.aload_n 0, 1) := by decide +kernel
theorem dX8_init_93 : decode cX8_init 93 = .ok (.getfield 10, 3) := by decide +kernel
theorem dX8_init_96 : decode cX8_init 96 = .ok (.invokespecial 52, 3) := by decide +kernel
theorem dX8_init_99 : decode cX8_init 99 = .ok (.putfield 53, 3) := by decide +kernel
theorem dX8_init_102 : decode cX8_init 102 = .ok (.aload_n 0, 1) := by decide +kernel
theorem dX8_init_103 : decode cX8_init 103 = .ok (.new 57, 3) := by decide +kernel
theorem dX8_init_106 : decode cX8_init 106 = .ok (.dup, 1) := by decide +kernel
theorem dX8_init_107 : decode cX8_init 107 = .ok (.aload_n 0, 1) := by decide +kernel
theorem dX8_init_108 : decode cX8_init 108 = .ok (.getfield 10, 3) := by decide +kernel
theorem dX8_init_111 : decode cX8_init 111 = .ok (.aload_n 0, 1) := by decide +kernel
theorem dX8_init_112 : decode cX8_init 112 = .ok (.getfield 30, 3) := by decide +kernel
theorem dX8_init_115 : decode cX8_init 115 = .ok (.invokespecial 59, 3) := by decide +kernel
theorem dX8_init_118 : decode cX8_init 118 = .ok (.putfield 62, 3) := by decide +kernel
theorem dX8_init_121 : decode cX8_init 121 = .ok (.aload_n 0, 1) := by decide +kernel
theorem dX8_init_122 : decode cX8_init 122 = .ok (.new 66, 3) := by decide +kernel
theorem dX8_init_125 : decode cX8_init 125 = .ok (.dup, 1) := by decide +kernel
theorem dX8_init_126 : decode cX8_init 126 = .ok (.aload_n 0, 1) := by decide +kernel
theorem dX8_init_127 : decode cX8_init 127 = .ok (.getfield 10, 3) := by decide +kernel
theorem dX8_init_130 : decode cX8_init 130 = .ok (.aload_n 0, 1) := by decide +kernel
theorem dX8_init_131 : decode cX8_init 131 = .ok (.getfield 30, 3) := by decide +kernel
theorem dX8_init_134 : decode cX8_init 134 = .ok (.invokespecial 68, 3) := by decide +kernel
theorem dX8_init_137 : decode cX8_init 137 = .ok (.putfield 69, 3) := by decide +kernel
theorem dX8_init_140 : decode cX8_init 140 = .ok (.return_, 1) := by decide +kernel
theorem dX8_addVertex_0 : decode cX8_addVertex 0 = .ok (.iload_n 1, 1) := by decide +kernel
theorem dX8_addVertex_1 : decode cX8_addVertex 1 = .ok (.invokestatic 73, 3) := by decide +kernel
theorem dX8_addVertex_4 : decode cX8_addVertex 4 = .ok (.aload_n 0, 1) := by decide +kernel
theorem dX8_addVertex_5 : decode cX8_addVertex 5 = .ok (.getfield 10, 3) := by decide +kernel
theorem dX8_addVertex_8 : decode cX8_addVertex 8 = .ok (.invokevirtual 77, 3) := by decide +kernel
theorem dX8_addVertex_11 : decode cX8_addVertex 11 = .ok (.bipush 20, 2) := by decide +kernel
theorem dX8_addVertex_13 : decode cX8_addVertex 13 = .ok (.if_icmp .lt 13, 3) := by decide +kernel
theorem dX8_addVertex_16 : decode cX8_addVertex 16 = .ok (.new 81, 3) := by decide +kernel
theorem dX8_addVertex_19 : decode cX8_addVertex 19 = .ok (.dup, 1) := by decide +kernel
theorem dX8_addVertex_20 : decode cX8_addVertex 20 = .ok (.ldc 83, 2) := by decide +kernel
theorem dX8_addVertex_22 : decode cX8_addVertex 22 = .ok (.invokespecial 85, 3) := by decide +kernel
theorem dX8_addVertex_25 : decode cX8_addVertex 25 = .ok (.athrow, 1) := by decide +kernel
theorem dX8_addVertex_26 : decode cX8_addVertex 26 = .ok (.aload_n 0, 1) := by decide +kernel
theorem dX8_addVertex_27 : decode cX8_addVertex 27 = .ok (.getfield 10, 3) := by decide +kernel
theorem dX8_addVertex_30 : decode cX8_addVertex 30 = .ok (.iload_n 1, 1) := by decide +kernel
theorem dX8_addVertex_31 : decode cX8_addVertex 31 = .ok (.invokevirtual 88, 3) := by decide +kernel
theorem dX8_addVertex_34 : decode cX8_addVertex 34 = .ok (.ireturn, 1) := by decide +kernel
theorem dX8_setValue_0 : decode cX8_setValue 0 = .ok (.aload_n 0, 1) := by decide +kernel
theorem dX8_setValue_1 : decode cX8_setValue 1 = .ok (.iload_n 1, 1) := by decide +kernel
theorem dX8_setValue_2 : decode cX8_setValue 2 = .ok (.invokevirtual 92, 3) := by decide +kernel
theorem dX8_setValue_5 : decode cX8_setValue 5 = .ok (.iload_n 2, 1) := by decide +kernel
theorem dX8_setValue_6 : decode cX8_setValue 6 = .ok (.invokestatic 73, 3) := by decide +kernel
theorem dX8_setValue_9 : decode cX8_setValue 9 = .ok (.aload_n 0, 1) := by decide +kernel
theorem dX8_setValue_10 : decode cX8_setValue 10 = .ok (.getfield 10, 3) := by decide +kernel
theorem dX8_setValue_13 : decode cX8_setValue 13 = .ok (.iload_n 1, 1) := by decide +kernel
theorem dX8_setValue_14 : decode cX8_setValue 14 = .ok (.invokevirtual 95, 3) := by decide +kernel
theorem dX8_setValue_17 : decode cX8_setValue 17 = .ok (.istore_n 3, 1) := by decide +kernel
theorem dX8_setValue_18 : decode cX8_setValue 18 = .ok (.aload_n 0, 1) := by decide +kernel
theorem dX8_setValue_19 : decode cX8_setValue 19 = .ok (.getfield 10, 3) := by decide +kernel
theorem dX8_setValue_22 : decode cX8_setValue 22 = .ok (.iload_n 1, 1) := by decide +kernel
theorem dX8_setValue_23 : decode cX8_setValue 23 = .ok (.iload_n 2, 1) := by decide +kernel
theorem dX8_setValue_24 : decode cX8_setValue 24 = .ok (.invokevirtual 98, 3) := by decide +kernel
theorem dX8_setValue_27 : decode cX8_setValue 27 = .ok (.iload_n 3, 1) := by decide +kernel
theorem dX8_setValue_28 : decode cX8_setValue 28 = .ok (.ireturn, 1) := by decide +kernel
theorem dX8_addEdge_0 : decode cX8_addEdge 0 = .ok (.aload_n 0, 1) := by decide +kernel
theorem dX8_addEdge_1 : decode cX8_addEdge 1 = .ok (.iload_n 1, 1) := by decide +kernel
theorem dX8_addEdge_2 : decode cX8_addEdge 2 = .ok (.iload_n 2, 1) := by decide +kernel
theorem dX8_addEdge_3 : decode cX8_addEdge 3 = .ok (.invokevirtual 102, 3) := by decide +kernel
theorem dX8_addEdge_6 : decode cX8_addEdge 6 = .ok (.iload_n 3, 1) := by decide +kernel
theorem dX8_addEdge_7 : decode cX8_addEdge 7 = .ok (.invokestatic 105, 3) := by decide +kernel
theorem dX8_addEdge_10 : decode cX8_addEdge 10 = .ok (.iload_n 1, 1) := by decide +kernel
theorem dX8_addEdge_11 : decode cX8_addEdge 11 = .ok (.iload_n 2, 1) := by decide +kernel
theorem dX8_addEdge_12 : decode cX8_addEdge 12 = .ok (.invokestatic 108, 3) := by decide +kernel
theorem dX8_addEdge_15 : decode cX8_addEdge 15 = .ok (.aload_n 0, 1) := by decide +kernel
theorem dX8_addEdge_16 : decode cX8_addEdge 16 = .ok (.getfield 10, 3) := by decide +kernel
theorem dX8_addEdge_19 : decode cX8_addEdge 19 = .ok (.invokevirtual 111, 3) := by decide +kernel
theorem dX8_addEdge_22 : decode cX8_addEdge 22 = .ok (.bipush 60, 2) := by decide +kernel
theorem dX8_addEdge_24 : decode cX8_addEdge 24 = .ok (.if_icmp .lt 13, 3) := by decide +kernel
theorem dX8_addEdge_27 : decode cX8_addEdge 27 = .ok (.new 81, 3) := by decide +kernel
theorem dX8_addEdge_30 : decode cX8_addEdge 30 = .ok (.dup, 1) := by decide +kernel
theorem dX8_addEdge_31 : decode cX8_addEdge 31 = .ok (.ldc 114, 2) := by decide +kernel
theorem dX8_addEdge_33 : decode cX8_addEdge 33 = .ok (.invokespecial 85, 3) := by decide +kernel
theorem dX8_addEdge_36 : decode cX8_addEdge 36 = .ok (.athrow, 1) := by decide +kernel
theorem dX8_addEdge_37 : decode cX8_addEdge 37 = .ok (.aload_n 0, 1) := by decide +kernel
theorem dX8_addEdge_38 : decode cX8_addEdge 38 = .ok (.getfield 10, 3) := by decide +kernel
theorem dX8_addEdge_41 : decode cX8_addEdge 41 = .ok (.iload_n 1, 1) := by decide +kernel
theorem dX8_addEdge_42 : decode cX8_addEdge 42 = .ok (.iload_n 2, 1) := by decide +kernel
theorem dX8_addEdge_43 : decode cX8_addEdge 43 = .ok (.iload_n 3, 1) := by decide +kernel
theorem dX8_addEdge_44 : decode cX8_addEdge 44 = .ok (.invokevirtual 116, 3) := by decide +kernel
theorem dX8_addEdge_47 : decode cX8_addEdge 47 = .ok (.istore 4, 2) := by decide +kernel
theorem dX8_addEdge_49 : decode cX8_addEdge 49 = .ok (.aload_n 0, 1) := by decide +kernel
theorem dX8_addEdge_50 : decode cX8_addEdge 50 = .ok (.getfield 39, 3) := by decide +kernel
theorem dX8_addEdge_53 : decode cX8_addEdge 53 = .ok (.iload 4, 2) := by decide +kernel
theorem dX8_addEdge_55 : decode cX8_addEdge 55 = .ok (.invokevirtual 120, 3) := by decide +kernel
theorem dX8_addEdge_58 : decode cX8_addEdge 58 = .ok (.iload 4, 2) := by decide +kernel
theorem dX8_addEdge_60 : decode cX8_addEdge 60 = .ok (.ireturn, 1) := by decide +kernel
theorem dX8_removeEdge_0 : decode cX8_removeEdge 0 = .ok (.aload_n 0, 1) := by decide +kernel
theorem dX8_removeEdge_1 : decode cX8_removeEdge 1 = .ok (.iload_n 1, 1) := by decide +kernel
theorem dX8_removeEdge_2 : decode cX8_removeEdge 2 = .ok (.invokevirtual 123, 3) := by decide +kernel
theorem dX8_removeEdge_5 : decode cX8_removeEdge 5 = .ok (.aload_n 0, 1) := by decide +kernel
theorem dX8_removeEdge_6 : decode cX8_removeEdge 6 = .ok (.iload_n 1, 1) := by decide +kernel
theorem dX8_removeEdge_7 : decode cX8_removeEdge 7 = .ok (.invokevirtual 126, 3) := by decide +kernel
theorem dX8_removeEdge_10 : decode cX8_removeEdge 10 = .ok (.aload_n 0, 1) := by decide +kernel
theorem dX8_removeEdge_11 : decode cX8_removeEdge 11 = .ok (.getfield 39, 3) := by decide +kernel
theorem dX8_removeEdge_14 : decode cX8_removeEdge 14 = .ok (.iload_n 1, 1) := by decide +kernel
theorem dX8_removeEdge_15 : decode cX8_removeEdge 15 = .ok (.invokevirtual 129, 3) := by decide +kernel
theorem dX8_removeEdge_18 : decode cX8_removeEdge 18 = .ok (.ireturn, 1) := by decide +kernel
theorem dX8_setWeight_0 : decode cX8_setWeight 0 = .ok (.aload_n 0, 1) := by decide +kernel
theorem dX8_setWeight_1 : decode cX8_setWeight 1 = .ok (.iload_n 1, 1) := by decide +kernel
theorem dX8_setWeight_2 : decode cX8_setWeight 2 = .ok (.invokevirtual 123, 3) := by decide +kernel
theorem dX8_setWeight_5 : decode cX8_setWeight 5 = .ok (.iload_n 2, 1) := by decide +kernel
theorem dX8_setWeight_6 : decode cX8_setWeight 6 = .ok (.invokestatic 105, 3) := by decide +kernel
theorem dX8_setWeight_9 : decode cX8_setWeight 9 = .ok (.aload_n 0, 1) := by decide +kernel
theorem dX8_setWeight_10 : decode cX8_setWeight 10 = .ok (.iload_n 1, 1) := by decide +kernel
theorem dX8_setWeight_11 : decode cX8_setWeight 11 = .ok (.invokevirtual 126, 3) := by decide +kernel
theorem dX8_setWeight_14 : decode cX8_setWeight 14 = .ok (.aload_n 0, 1) := by decide +kernel
theorem dX8_setWeight_15 : decode cX8_setWeight 15 = .ok (.getfield 10, 3) := by decide +kernel
theorem dX8_setWeight_18 : decode cX8_setWeight 18 = .ok (.iload_n 1, 1) := by decide +kernel
theorem dX8_setWeight_19 : decode cX8_setWeight 19 = .ok (.invokevirtual 132, 3) := by decide +kernel
theorem dX8_setWeight_22 : decode cX8_setWeight 22 = .ok (.istore_n 3, 1) := by decide +kernel
theorem dX8_setWeight_23 : decode cX8_setWeight 23 = .ok (.aload_n 0, 1) := by decide +kernel
theorem dX8_setWeight_24 : decode cX8_setWeight 24 = .ok (.getfield 39, 3) := by decide +kernel
theorem dX8_setWeight_27 : decode cX8_setWeight 27 = .ok (.iload_n 1, 1) := by decide +kernel
theorem dX8_setWeight_28 : decode cX8_setWeight 28 = .ok (.iload_n 2, 1) := by decide +kernel
theorem dX8_setWeight_29 : decode cX8_setWeight 29 = .ok (.invokevirtual 135, 3) := by decide +kernel
theorem dX8_setWeight_32 : decode cX8_setWeight 32 = .ok (.iload_n 3, 1) := by decide +kernel
theorem dX8_setWeight_33 : decode cX8_setWeight 33 = .ok (.ireturn, 1) := by decide +kernel
theorem dX8_addOnPath_0 : decode cX8_addOnPath 0 = .ok (.aload_n 0, 1) := by decide +kernel
theorem dX8_addOnPath_1 : decode cX8_addOnPath 1 = .ok (.iload_n 1, 1) := by decide +kernel
theorem dX8_addOnPath_2 : decode cX8_addOnPath 2 = .ok (.iload_n 2, 1) := by decide +kernel
theorem dX8_addOnPath_3 : decode cX8_addOnPath 3 = .ok (.invokevirtual 102, 3) := by decide +kernel
theorem dX8_addOnPath_6 : decode cX8_addOnPath 6 = .ok (.iload_n 3, 1) := by decide +kernel
theorem dX8_addOnPath_7 : decode cX8_addOnPath 7 = .ok (.bipush (-9), 2) := by decide +kernel
theorem dX8_addOnPath_9 : decode cX8_addOnPath 9 = .ok (.bipush 9, 2) := by decide +kernel
theorem dX8_addOnPath_11 : decode cX8_addOnPath 11 = .ok (.invokestatic 138, 3) := by decide +kernel
theorem dX8_addOnPath_14 : decode cX8_addOnPath 14 = .ok (.ifCond .ne 13, 3) := by decide +kernel
theorem dX8_addOnPath_17 : decode cX8_addOnPath 17 = .ok (.new 142, 3) := by decide +kernel
theorem dX8_addOnPath_20 : decode cX8_addOnPath 20 = .ok (.dup, 1) := by decide +kernel
theorem dX8_addOnPath_21 : decode cX8_addOnPath 21 = .ok (.ldc 144, 2) := by decide +kernel
theorem dX8_addOnPath_23 : decode cX8_addOnPath 23 = .ok (.invokespecial 146, 3) := by decide +kernel
theorem dX8_addOnPath_26 : decode cX8_addOnPath 26 = .ok (.athrow, 1) := by decide +kernel
theorem dX8_addOnPath_27 : decode cX8_addOnPath 27 = .ok (.aload_n 0, 1) := by decide +kernel
theorem dX8_addOnPath_28 : decode cX8_addOnPath 28 = .ok (.iload_n 2, 1) := by decide +kernel
theorem dX8_addOnPath_29 : decode cX8_addOnPath 29 = .ok (.iload_n 1, 1) := by decide +kernel
theorem dX8_addOnPath_30 : decode cX8_addOnPath 30 = .ok (.invokevirtual 147, 3) := by decide +kernel
theorem dX8_addOnPath_33 : decode cX8_addOnPath 33 = .ok (.aload_n 0, 1) := by decide +kernel
theorem dX8_addOnPath_34 : decode cX8_addOnPath 34 = .ok (.getfield 30, 3) := by decide +kernel
theorem dX8_addOnPath_37 : decode cX8_addOnPath 37 = .ok (.iload_n 1, 1) := by decide +kernel
theorem dX8_addOnPath_38 : decode cX8_addOnPath 38 = .ok (.iload_n 3, 1) := by decide +kernel
theorem dX8_addOnPath_39 : decode cX8_addOnPath 39 = .ok (.invokevirtual 150, 3) := by decide +kernel
theorem dX8_addOnPath_42 : decode cX8_addOnPath 42 = .ok (.aload_n 0, 1) := by decide +kernel
theorem dX8_addOnPath_43 : decode cX8_addOnPath 43 = .ok (.getfield 30, 3) := by decide +kernel
theorem dX8_addOnPath_46 : decode cX8_addOnPath 46 = .ok (.iload_n 1, 1) := by decide +kernel
theorem dX8_addOnPath_47 : decode cX8_addOnPath 47 = .ok (.invokevirtual 153, 3) := by decide +kernel
theorem dX8_addOnPath_50 : decode cX8_addOnPath 50 = .ok (.iconst 1, 1) := by decide +kernel
theorem dX8_addOnPath_51 : decode cX8_addOnPath 51 = .ok (.iadd, 1) := by decide +kernel
theorem dX8_addOnPath_52 : decode cX8_addOnPath 52 = .ok (.ireturn, 1) := by decide +kernel
theorem dX8_vertices_0 : decode cX8_vertices 0 = .ok (.aload_n 0, 1) := by decide +kernel
theorem dX8_vertices_1 : decode cX8_vertices 1 = .ok (.getfield 10, 3) := by decide +kernel
theorem dX8_vertices_4 : decode cX8_vertices 4 = .ok (.invokevirtual 77, 3) := by decide +kernel
theorem dX8_vertices_7 : decode cX8_vertices 7 = .ok (.ireturn, 1) := by decide +kernel
theorem dX8_edges_0 : decode cX8_edges 0 = .ok (.aload_n 0, 1) := by decide +kernel
theorem dX8_edges_1 : decode cX8_edges 1 = .ok (.getfield 10, 3) := by decide +kernel
theorem dX8_edges_4 : decode cX8_edges 4 = .ok (.invokevirtual 111, 3) := by decide +kernel
theorem dX8_edges_7 : decode cX8_edges 7 = .ok (.ireturn, 1) := by decide +kernel
theorem dX8_value_0 : decode cX8_value 0 = .ok (.aload_n 0, 1) := by decide +kernel
theorem dX8_value_1 : decode cX8_value 1 = .ok (.iload_n 1, 1) := by decide +kernel
theorem dX8_value_2 : decode cX8_value 2 = .ok (.invokevirtual 92, 3) := by decide +kernel
theorem dX8_value_5 : decode cX8_value 5 = .ok (.aload_n 0, 1) := by decide +kernel
theorem dX8_value_6 : decode cX8_value 6 = .ok (.getfield 10, 3) := by decide +kernel
theorem dX8_value_9 : decode cX8_value 9 = .ok (.iload_n 1, 1) := by decide +kernel
theorem dX8_value_10 : decode cX8_value 10 = .ok (.invokevirtual 95, 3) := by decide +kernel
theorem dX8_value_13 : decode cX8_value 13 = .ok (.ireturn, 1) := by decide +kernel
theorem dX8_weight_0 : decode cX8_weight 0 = .ok (.aload_n 0, 1) := by decide +kernel
theorem dX8_weight_1 : decode cX8_weight 1 = .ok (.iload_n 1, 1) := by decide +kernel
theorem dX8_weight_2 : decode cX8_weight 2 = .ok (.invokevirtual 123, 3) := by decide +kernel
theorem dX8_weight_5 : decode cX8_weight 5 = .ok (.aload_n 0, 1) := by decide +kernel
theorem dX8_weight_6 : decode cX8_weight 6 = .ok (.getfield 10, 3) := by decide +kernel
theorem dX8_weight_9 : decode cX8_weight 9 = .ok (.iload_n 1, 1) := by decide +kernel
theorem dX8_weight_10 : decode cX8_weight 10 = .ok (.invokevirtual 132, 3) := by decide +kernel
theorem dX8_weight_13 : decode cX8_weight 13 = .ok (.ireturn, 1) := by decide +kernel
theorem dX8_state_0 : decode cX8_state 0 = .ok (.aload_n 0, 1) := by decide +kernel
theorem dX8_state_1 : decode cX8_state 1 = .ok (.iload_n 1, 1) := by decide +kernel
theorem dX8_state_2 : decode cX8_state 2 = .ok (.invokevirtual 123, 3) := by decide +kernel
theorem dX8_state_5 : decode cX8_state 5 = .ok (.aload_n 0, 1) := by decide +kernel
theorem dX8_state_6 : decode cX8_state 6 = .ok (.getfield 10, 3) := by decide +kernel
theorem dX8_state_9 : decode cX8_state 9 = .ok (.iload_n 1, 1) := by decide +kernel
theorem dX8_state_10 : decode cX8_state 10 = .ok (.invokevirtual 156, 3) := by decide +kernel
theorem dX8_state_13 : decode cX8_state 13 = .ok (.ifCond .ne 6, 3) := by decide +kernel
theorem dX8_state_16 : decode cX8_state 16 = .ok (.bipush 114, 2) := by decide +kernel
theorem dX8_state_18 : decode cX8_state 18 = .ok (.ireturn, 1) := by decide +kernel
theorem dX8_state_19 : decode cX8_state 19 = .ok (.aload_n 0, 1) := by decide +kernel
theorem dX8_state_20 : decode cX8_state 20 = .ok (.getfield 21, 3) := by decide +kernel
theorem dX8_state_23 : decode cX8_state 23 = .ok (.iload_n 1, 1) := by decide +kernel
theorem dX8_state_24 : decode cX8_state 24 = .ok (.invokevirtual 160, 3) := by decide +kernel
theorem dX8_state_27 : decode cX8_state 27 = .ok (.ifCond .eq 8, 3) := by decide +kernel
theorem dX8_state_30 : decode cX8_state 30 = .ok (.bipush 102, 2) := by decide +kernel
theorem dX8_state_32 : decode cX8_state 32 = .ok (.goto 5, 3) := by decide +kernel
theorem dX8_state_35 : decode cX8_state 35 = .ok (.bipush 111, 2) := by decide +kernel
theorem dX8_state_37 : decode cX8_state 37 = .ok (.ireturn, 1) := by decide +kernel
theorem dX8_otherEnd_0 : decode cX8_otherEnd 0 = .ok (.aload_n 0, 1) := by decide +kernel
theorem dX8_otherEnd_1 : decode cX8_otherEnd 1 = .ok (.iload_n 1, 1) := by decide +kernel
theorem dX8_otherEnd_2 : decode cX8_otherEnd 2 = .ok (.invokevirtual 123, 3) := by decide +kernel
theorem dX8_otherEnd_5 : decode cX8_otherEnd 5 = .ok (.aload_n 0, 1) := by decide +kernel
theorem dX8_otherEnd_6 : decode cX8_otherEnd 6 = .ok (.iload_n 2, 1) := by decide +kernel
theorem dX8_otherEnd_7 : decode cX8_otherEnd 7 = .ok (.invokevirtual 92, 3) := by decide +kernel
theorem dX8_otherEnd_10 : decode cX8_otherEnd 10 = .ok (.aload_n 0, 1) := by decide +kernel
theorem dX8_otherEnd_11 : decode cX8_otherEnd 11 = .ok (.getfield 10, 3) := by decide +kernel
theorem dX8_otherEnd_14 : decode cX8_otherEnd 14 = .ok (.iload_n 1, 1) := by decide +kernel
theorem dX8_otherEnd_15 : decode cX8_otherEnd 15 = .ok (.iload_n 2, 1) := by decide +kernel
theorem dX8_otherEnd_16 : decode cX8_otherEnd 16 = .ok (.invokevirtual 163, 3) := by decide +kernel
theorem dX8_otherEnd_19 : decode cX8_otherEnd 19 = .ok (.istore_n 3, 1) := by decide +kernel
theorem dX8_otherEnd_20 : decode cX8_otherEnd 20 = .ok (.iload_n 3, 1) := by decide +kernel
theorem dX8_otherEnd_21 : decode cX8_otherEnd 21 = .ok (.iconst (-1), 1) := by decide +kernel
theorem dX8_otherEnd_22 : decode cX8_otherEnd 22 = .ok (.if_icmp .ne 13, 3) := by decide +kernel
theorem dX8_otherEnd_25 : decode cX8_otherEnd 25 = .ok (.new 167, 3) := by decide +kernel
theorem dX8_otherEnd_28 : decode cX8_otherEnd 28 = .ok (.dup, 1) := by decide +kernel
theorem dX8_otherEnd_29 : decode cX8_otherEnd 29 = .ok (.ldc 169, 2) := by decide +kernel
theorem dX8_otherEnd_31 : decode cX8_otherEnd 31 = .ok (.invokespecial 171, 3) := by decide +kernel
theorem dX8_otherEnd_34 : decode cX8_otherEnd 34 = .ok (.athrow, 1) := by decide +kernel
theorem dX8_otherEnd_35 : decode cX8_otherEnd 35 = .ok (.iload_n 3, 1) := by decide +kernel
theorem dX8_otherEnd_36 : decode cX8_otherEnd 36 = .ok (.ireturn, 1) := by decide +kernel
theorem dX8_parallel_0 : decode cX8_parallel 0 = .ok (.aload_n 0, 1) := by decide +kernel
theorem dX8_parallel_1 : decode cX8_parallel 1 = .ok (.iload_n 1, 1) := by decide +kernel
theorem dX8_parallel_2 : decode cX8_parallel 2 = .ok (.iload_n 2, 1) := by decide +kernel
theorem dX8_parallel_3 : decode cX8_parallel 3 = .ok (.invokevirtual 102, 3) := by decide +kernel
theorem dX8_parallel_6 : decode cX8_parallel 6 = .ok (.aload_n 0, 1) := by decide +kernel
theorem dX8_parallel_7 : decode cX8_parallel 7 = .ok (.getfield 10, 3) := by decide +kernel
theorem dX8_parallel_10 : decode cX8_parallel 10 = .ok (.iload_n 1, 1) := by decide +kernel
theorem dX8_parallel_11 : decode cX8_parallel 11 = .ok (.iload_n 2, 1) := by decide +kernel
theorem dX8_parallel_12 : decode cX8_parallel 12 = .ok (.invokevirtual 172, 3) := by decide +kernel
theorem dX8_parallel_15 : decode cX8_parallel 15 = .ok (.ireturn, 1) := by decide +kernel
theorem dX8_lightest_0 : decode cX8_lightest 0 = .ok (.aload_n 0, 1) := by decide +kernel
theorem dX8_lightest_1 : decode cX8_lightest 1 = .ok (.iload_n 1, 1) := by decide +kernel
theorem dX8_lightest_2 : decode cX8_lightest 2 = .ok (.iload_n 2, 1) := by decide +kernel
theorem dX8_lightest_3 : decode cX8_lightest 3 = .ok (.invokevirtual 102, 3) := by decide +kernel
theorem dX8_lightest_6 : decode cX8_lightest 6 = .ok (.aload_n 0, 1) := by decide +kernel
theorem dX8_lightest_7 : decode cX8_lightest 7 = .ok (.getfield 10, 3) := by decide +kernel
theorem dX8_lightest_10 : decode cX8_lightest 10 = .ok (.iload_n 1, 1) := by decide +kernel
theorem dX8_lightest_11 : decode cX8_lightest 11 = .ok (.iload_n 2, 1) := by decide +kernel
theorem dX8_lightest_12 : decode cX8_lightest 12 = .ok (.invokevirtual 175, 3) := by decide +kernel
theorem dX8_lightest_15 : decode cX8_lightest 15 = .ok (.istore_n 3, 1) := by decide +kernel
theorem dX8_lightest_16 : decode cX8_lightest 16 = .ok (.iload_n 3, 1) := by decide +kernel
theorem dX8_lightest_17 : decode cX8_lightest 17 = .ok (.iconst (-1), 1) := by decide +kernel
theorem dX8_lightest_18 : decode cX8_lightest 18 = .ok (.if_icmp .ne 13, 3) := by decide +kernel
theorem dX8_lightest_21 : decode cX8_lightest 21 = .ok (.new 167, 3) := by decide +kernel
theorem dX8_lightest_24 : decode cX8_lightest 24 = .ok (.dup, 1) := by decide +kernel
theorem dX8_lightest_25 : decode cX8_lightest 25 = .ok (.ldc 178, 2) := by decide +kernel
theorem dX8_lightest_27 : decode cX8_lightest 27 = .ok (.invokespecial 171, 3) := by decide +kernel
theorem dX8_lightest_30 : decode cX8_lightest 30 = .ok (.athrow, 1) := by decide +kernel
theorem dX8_lightest_31 : decode cX8_lightest 31 = .ok (.iload_n 3, 1) := by decide +kernel
theorem dX8_lightest_32 : decode cX8_lightest 32 = .ok (.ireturn, 1) := by decide +kernel
theorem dX8_forestWeight_0 : decode cX8_forestWeight 0 = .ok (.aload_n 0, 1) := by decide +kernel
theorem dX8_forestWeight_1 : decode cX8_forestWeight 1 = .ok (.getfield 21, 3) := by decide +kernel
theorem dX8_forestWeight_4 : decode cX8_forestWeight 4 = .ok (.invokevirtual 180, 3) := by decide +kernel
theorem dX8_forestWeight_7 : decode cX8_forestWeight 7 = .ok (.ireturn, 1) := by decide +kernel
theorem dX8_forestWeightAnew_0 : decode cX8_forestWeightAnew 0 = .ok (.aload_n 0, 1) := by decide +kernel
theorem dX8_forestWeightAnew_1 : decode cX8_forestWeightAnew 1 = .ok (.getfield 46, 3) := by decide +kernel
theorem dX8_forestWeightAnew_4 : decode cX8_forestWeightAnew 4 = .ok (.iconst (-1), 1) := by decide +kernel
theorem dX8_forestWeightAnew_5 : decode cX8_forestWeightAnew 5 = .ok (.invokevirtual 183, 3) := by decide +kernel
theorem dX8_forestWeightAnew_8 : decode cX8_forestWeightAnew 8 = .ok (.aload_n 0, 1) := by decide +kernel
theorem dX8_forestWeightAnew_9 : decode cX8_forestWeightAnew 9 = .ok (.getfield 46, 3) := by decide +kernel
theorem dX8_forestWeightAnew_12 : decode cX8_forestWeightAnew 12 = .ok (.invokevirtual 186, 3) := by decide +kernel
theorem dX8_forestWeightAnew_15 : decode cX8_forestWeightAnew 15 = .ok (.ireturn, 1) := by decide +kernel
theorem dX8_trees_0 : decode cX8_trees 0 = .ok (.aload_n 0, 1) := by decide +kernel
theorem dX8_trees_1 : decode cX8_trees 1 = .ok (.getfield 10, 3) := by decide +kernel
theorem dX8_trees_4 : decode cX8_trees 4 = .ok (.invokevirtual 77, 3) := by decide +kernel
theorem dX8_trees_7 : decode cX8_trees 7 = .ok (.aload_n 0, 1) := by decide +kernel
theorem dX8_trees_8 : decode cX8_trees 8 = .ok (.getfield 21, 3) := by decide +kernel
theorem dX8_trees_11 : decode cX8_trees 11 = .ok (.invokevirtual 187, 3) := by decide +kernel
theorem dX8_trees_14 : decode cX8_trees 14 = .ok (.isub, 1) := by decide +kernel
theorem dX8_trees_15 : decode cX8_trees 15 = .ok (.ireturn, 1) := by decide +kernel
theorem dX8_degree_0 : decode cX8_degree 0 = .ok (.aload_n 0, 1) := by decide +kernel
theorem dX8_degree_1 : decode cX8_degree 1 = .ok (.iload_n 1, 1) := by decide +kernel
theorem dX8_degree_2 : decode cX8_degree 2 = .ok (.invokevirtual 92, 3) := by decide +kernel
theorem dX8_degree_5 : decode cX8_degree 5 = .ok (.aload_n 0, 1) := by decide +kernel
theorem dX8_degree_6 : decode cX8_degree 6 = .ok (.getfield 21, 3) := by decide +kernel
theorem dX8_degree_9 : decode cX8_degree 9 = .ok (.iload_n 1, 1) := by decide +kernel
theorem dX8_degree_10 : decode cX8_degree 10 = .ok (.invokevirtual 190, 3) := by decide +kernel
theorem dX8_degree_13 : decode cX8_degree 13 = .ok (.ireturn, 1) := by decide +kernel
theorem dX8_neighbour_0 : decode cX8_neighbour 0 = .ok (.aload_n 0, 1) := by decide +kernel
theorem dX8_neighbour_1 : decode cX8_neighbour 1 = .ok (.iload_n 1, 1) := by decide +kernel
theorem dX8_neighbour_2 : decode cX8_neighbour 2 = .ok (.invokevirtual 92, 3) := by decide +kernel
theorem dX8_neighbour_5 : decode cX8_neighbour 5 = .ok (.aload_n 0, 1) := by decide +kernel
theorem dX8_neighbour_6 : decode cX8_neighbour 6 = .ok (.getfield 21, 3) := by decide +kernel
theorem dX8_neighbour_9 : decode cX8_neighbour 9 = .ok (.iload_n 1, 1) := by decide +kernel
theorem dX8_neighbour_10 : decode cX8_neighbour 10 = .ok (.iload_n 2, 1) := by decide +kernel
theorem dX8_neighbour_11 : decode cX8_neighbour 11 = .ok (.invokevirtual 193, 3) := by decide +kernel
theorem dX8_neighbour_14 : decode cX8_neighbour 14 = .ok (.istore_n 3, 1) := by decide +kernel
theorem dX8_neighbour_15 : decode cX8_neighbour 15 = .ok (.iload_n 3, 1) := by decide +kernel
theorem dX8_neighbour_16 : decode cX8_neighbour 16 = .ok (.iconst (-1), 1) := by decide +kernel
theorem dX8_neighbour_17 : decode cX8_neighbour 17 = .ok (.if_icmp .ne 13, 3) := by decide +kernel
theorem dX8_neighbour_20 : decode cX8_neighbour 20 = .ok (.new 167, 3) := by decide +kernel
theorem dX8_neighbour_23 : decode cX8_neighbour 23 = .ok (.dup, 1) := by decide +kernel
theorem dX8_neighbour_24 : decode cX8_neighbour 24 = .ok (.ldc 196, 2) := by decide +kernel
theorem dX8_neighbour_26 : decode cX8_neighbour 26 = .ok (.invokespecial 171, 3) := by decide +kernel
theorem dX8_neighbour_29 : decode cX8_neighbour 29 = .ok (.athrow, 1) := by decide +kernel
theorem dX8_neighbour_30 : decode cX8_neighbour 30 = .ok (.iload_n 3, 1) := by decide +kernel
theorem dX8_neighbour_31 : decode cX8_neighbour 31 = .ok (.ireturn, 1) := by decide +kernel
theorem dX8_isConnected_0 : decode cX8_isConnected 0 = .ok (.aload_n 0, 1) := by decide +kernel
theorem dX8_isConnected_1 : decode cX8_isConnected 1 = .ok (.iload_n 1, 1) := by decide +kernel
theorem dX8_isConnected_2 : decode cX8_isConnected 2 = .ok (.iload_n 2, 1) := by decide +kernel
theorem dX8_isConnected_3 : decode cX8_isConnected 3 = .ok (.invokevirtual 102, 3) := by decide +kernel
theorem dX8_isConnected_6 : decode cX8_isConnected 6 = .ok (.aload_n 0, 1) := by decide +kernel
theorem dX8_isConnected_7 : decode cX8_isConnected 7 = .ok (.getfield 30, 3) := by decide +kernel
theorem dX8_isConnected_10 : decode cX8_isConnected 10 = .ok (.iload_n 1, 1) := by decide +kernel
theorem dX8_isConnected_11 : decode cX8_isConnected 11 = .ok (.iconst (-1), 1) := by decide +kernel
theorem dX8_isConnected_12 : decode cX8_isConnected 12 = .ok (.invokevirtual 198, 3) := by decide +kernel
theorem dX8_isConnected_15 : decode cX8_isConnected 15 = .ok (.aload_n 0, 1) := by decide +kernel
theorem dX8_isConnected_16 : decode cX8_isConnected 16 = .ok (.getfield 30, 3) := by decide +kernel
theorem dX8_isConnected_19 : decode cX8_isConnected 19 = .ok (.iload_n 2, 1) := by decide +kernel
theorem dX8_isConnected_20 : decode cX8_isConnected 20 = .ok (.invokevirtual 201, 3) := by decide +kernel
theorem dX8_isConnected_23 : decode cX8_isConnected 23 = .ok (.ireturn, 1) := by decide +kernel
theorem dX8_isConnectedByWalk_0 : decode cX8_isConnectedByWalk 0 = .ok (.aload_n 0, 1) := by decide +kernel
theorem dX8_isConnectedByWalk_1 : decode cX8_isConnectedByWalk 1 = .ok (.iload_n 1, 1) := by decide +kernel
theorem dX8_isConnectedByWalk_2 : decode cX8_isConnectedByWalk 2 = .ok (.iload_n 2, 1) := by decide +kernel
theorem dX8_isConnectedByWalk_3 : decode cX8_isConnectedByWalk 3 = .ok (.invokevirtual 102, 3) := by decide +kernel
theorem dX8_isConnectedByWalk_6 : decode cX8_isConnectedByWalk 6 = .ok (.aload_n 0, 1) := by decide +kernel
theorem dX8_isConnectedByWalk_7 : decode cX8_isConnectedByWalk 7 = .ok (.getfield 53, 3) := by decide +kernel
theorem dX8_isConnectedByWalk_10 : decode cX8_isConnectedByWalk 10 = .ok (.iload_n 1, 1) := by decide +kernel
theorem dX8_isConnectedByWalk_11 : decode cX8_isConnectedByWalk 11 = .ok (.iload_n 2, 1) := by decide +kernel
theorem dX8_isConnectedByWalk_12 : decode cX8_isConnectedByWalk 12 = .ok (.invokevirtual 202, 3) := by decide +kernel
theorem dX8_isConnectedByWalk_15 : decode cX8_isConnectedByWalk 15 = .ok (.ireturn, 1) := by decide +kernel
theorem dX8_replacement_0 : decode cX8_replacement 0 = .ok (.aload_n 0, 1) := by decide +kernel
theorem dX8_replacement_1 : decode cX8_replacement 1 = .ok (.iload_n 1, 1) := by decide +kernel
theorem dX8_replacement_2 : decode cX8_replacement 2 = .ok (.invokevirtual 123, 3) := by decide +kernel
theorem dX8_replacement_5 : decode cX8_replacement 5 = .ok (.aload_n 0, 1) := by decide +kernel
theorem dX8_replacement_6 : decode cX8_replacement 6 = .ok (.iload_n 1, 1) := by decide +kernel
theorem dX8_replacement_7 : decode cX8_replacement 7 = .ok (.invokevirtual 206, 3) := by decide +kernel
theorem dX8_replacement_10 : decode cX8_replacement 10 = .ok (.aload_n 0, 1) := by decide +kernel
theorem dX8_replacement_11 : decode cX8_replacement 11 = .ok (.getfield 39, 3) := by decide +kernel
theorem dX8_replacement_14 : decode cX8_replacement 14 = .ok (.iload_n 1, 1) := by decide +kernel
theorem dX8_replacement_15 : decode cX8_replacement 15 = .ok (.invokevirtual 209, 3) := by decide +kernel
theorem dX8_replacement_18 : decode cX8_replacement 18 = .ok (.invokestatic 212, 3) := by decide +kernel
theorem dX8_replacement_21 : decode cX8_replacement 21 = .ok (.ireturn, 1) := by decide +kernel
theorem dX8_replacementAnew_0 : decode cX8_replacementAnew 0 = .ok (.aload_n 0, 1) := by decide +kernel
theorem dX8_replacementAnew_1 : decode cX8_replacementAnew 1 = .ok (.iload_n 1, 1) := by decide +kernel
theorem dX8_replacementAnew_2 : decode cX8_replacementAnew 2 = .ok (.invokevirtual 123, 3) := by decide +kernel
theorem dX8_replacementAnew_5 : decode cX8_replacementAnew 5 = .ok (.aload_n 0, 1) := by decide +kernel
theorem dX8_replacementAnew_6 : decode cX8_replacementAnew 6 = .ok (.iload_n 1, 1) := by decide +kernel
theorem dX8_replacementAnew_7 : decode cX8_replacementAnew 7 = .ok (.invokevirtual 206, 3) := by decide +kernel
theorem dX8_replacementAnew_10 : decode cX8_replacementAnew 10 = .ok (.aload_n 0, 1) := by decide +kernel
theorem dX8_replacementAnew_11 : decode cX8_replacementAnew 11 = .ok (.getfield 46, 3) := by decide +kernel
theorem dX8_replacementAnew_14 : decode cX8_replacementAnew 14 = .ok (.iload_n 1, 1) := by decide +kernel
theorem dX8_replacementAnew_15 : decode cX8_replacementAnew 15 = .ok (.invokevirtual 183, 3) := by decide +kernel
theorem dX8_replacementAnew_18 : decode cX8_replacementAnew 18 = .ok (.aload_n 0, 1) := by decide +kernel
theorem dX8_replacementAnew_19 : decode cX8_replacementAnew 19 = .ok (.getfield 46, 3) := by decide +kernel
theorem dX8_replacementAnew_22 : decode cX8_replacementAnew 22 = .ok (.aload_n 0, 1) := by decide +kernel
theorem dX8_replacementAnew_23 : decode cX8_replacementAnew 23 = .ok (.getfield 21, 3) := by decide +kernel
theorem dX8_replacementAnew_26 : decode cX8_replacementAnew 26 = .ok (.invokevirtual 215, 3) := by decide +kernel
theorem dX8_replacementAnew_29 : decode cX8_replacementAnew 29 = .ok (.invokestatic 212, 3) := by decide +kernel
theorem dX8_replacementAnew_32 : decode cX8_replacementAnew 32 = .ok (.ireturn, 1) := by decide +kernel
theorem dX8_pathVertices_0 : decode cX8_pathVertices 0 = .ok (.aload_n 0, 1) := by decide +kernel
theorem dX8_pathVertices_1 : decode cX8_pathVertices 1 = .ok (.iload_n 1, 1) := by decide +kernel
theorem dX8_pathVertices_2 : decode cX8_pathVertices 2 = .ok (.iload_n 2, 1) := by decide +kernel
theorem dX8_pathVertices_3 : decode cX8_pathVertices 3 = .ok (.invokevirtual 102, 3) := by decide +kernel
theorem dX8_pathVertices_6 : decode cX8_pathVertices 6 = .ok (.aload_n 0, 1) := by decide +kernel
theorem dX8_pathVertices_7 : decode cX8_pathVertices 7 = .ok (.iload_n 1, 1) := by decide +kernel
theorem dX8_pathVertices_8 : decode cX8_pathVertices 8 = .ok (.iload_n 2, 1) := by decide +kernel
theorem dX8_pathVertices_9 : decode cX8_pathVertices 9 = .ok (.invokevirtual 147, 3) := by decide +kernel
theorem dX8_pathVertices_12 : decode cX8_pathVertices 12 = .ok (.aload_n 0, 1) := by decide +kernel
theorem dX8_pathVertices_13 : decode cX8_pathVertices 13 = .ok (.getfield 30, 3) := by decide +kernel
theorem dX8_pathVertices_16 : decode cX8_pathVertices 16 = .ok (.iload_n 2, 1) := by decide +kernel
theorem dX8_pathVertices_17 : decode cX8_pathVertices 17 = .ok (.invokevirtual 153, 3) := by decide +kernel
theorem dX8_pathVertices_20 : decode cX8_pathVertices 20 = .ok (.iconst 1, 1) := by decide +kernel
theorem dX8_pathVertices_21 : decode cX8_pathVertices 21 = .ok (.iadd, 1) := by decide +kernel
theorem dX8_pathVertices_22 : decode cX8_pathVertices 22 = .ok (.ireturn, 1) := by decide +kernel
theorem dX8_pathVertex_0 : decode cX8_pathVertex 0 = .ok (.aload_n 0, 1) := by decide +kernel
theorem dX8_pathVertex_1 : decode cX8_pathVertex 1 = .ok (.iload_n 1, 1) := by decide +kernel
theorem dX8_pathVertex_2 : decode cX8_pathVertex 2 = .ok (.iload_n 2, 1) := by decide +kernel
theorem dX8_pathVertex_3 : decode cX8_pathVertex 3 = .ok (.invokevirtual 102, 3) := by decide +kernel
theorem dX8_pathVertex_6 : decode cX8_pathVertex 6 = .ok (.aload_n 0, 1) := by decide +kernel
theorem dX8_pathVertex_7 : decode cX8_pathVertex 7 = .ok (.iload_n 2, 1) := by decide +kernel
theorem dX8_pathVertex_8 : decode cX8_pathVertex 8 = .ok (.iload_n 1, 1) := by decide +kernel
theorem dX8_pathVertex_9 : decode cX8_pathVertex 9 = .ok (.invokevirtual 147, 3) := by decide +kernel
theorem dX8_pathVertex_12 : decode cX8_pathVertex 12 = .ok (.iload_n 3, 1) := by decide +kernel
theorem dX8_pathVertex_13 : decode cX8_pathVertex 13 = .ok (.iconst 0, 1) := by decide +kernel
theorem dX8_pathVertex_14 : decode cX8_pathVertex 14 = .ok (.aload_n 0, 1) := by decide +kernel
theorem dX8_pathVertex_15 : decode cX8_pathVertex 15 = .ok (.getfield 30, 3) := by decide +kernel
theorem dX8_pathVertex_18 : decode cX8_pathVertex 18 = .ok (.iload_n 1, 1) := by decide +kernel
theorem dX8_pathVertex_19 : decode cX8_pathVertex 19 = .ok (.invokevirtual 153, 3) := by decide +kernel
theorem dX8_pathVertex_22 : decode cX8_pathVertex 22 = .ok (.invokestatic 138, 3) := by decide +kernel
theorem dX8_pathVertex_25 : decode cX8_pathVertex 25 = .ok (.ifCond .ne 13, 3) := by decide +kernel
theorem dX8_pathVertex_28 : decode cX8_pathVertex 28 = .ok (.new 142, 3) := by decide +kernel
theorem dX8_pathVertex_31 : decode cX8_pathVertex 31 = .ok (.dup, 1) := by decide +kernel
theorem dX8_pathVertex_32 : decode cX8_pathVertex 32 = .ok (.ldc 219, 2) := by decide +kernel
theorem dX8_pathVertex_34 : decode cX8_pathVertex 34 = .ok (.invokespecial 146, 3) := by decide +kernel
theorem dX8_pathVertex_37 : decode cX8_pathVertex 37 = .ok (.athrow, 1) := by decide +kernel
theorem dX8_pathVertex_38 : decode cX8_pathVertex 38 = .ok (.aload_n 0, 1) := by decide +kernel
theorem dX8_pathVertex_39 : decode cX8_pathVertex 39 = .ok (.getfield 30, 3) := by decide +kernel
theorem dX8_pathVertex_42 : decode cX8_pathVertex 42 = .ok (.iload_n 1, 1) := by decide +kernel
theorem dX8_pathVertex_43 : decode cX8_pathVertex 43 = .ok (.iload_n 3, 1) := by decide +kernel
theorem dX8_pathVertex_44 : decode cX8_pathVertex 44 = .ok (.invokevirtual 221, 3) := by decide +kernel
theorem dX8_pathVertex_47 : decode cX8_pathVertex 47 = .ok (.ireturn, 1) := by decide +kernel
theorem dX8_pathSum_0 : decode cX8_pathSum 0 = .ok (.aload_n 0, 1) := by decide +kernel
theorem dX8_pathSum_1 : decode cX8_pathSum 1 = .ok (.iload_n 1, 1) := by decide +kernel
theorem dX8_pathSum_2 : decode cX8_pathSum 2 = .ok (.iload_n 2, 1) := by decide +kernel
theorem dX8_pathSum_3 : decode cX8_pathSum 3 = .ok (.invokevirtual 102, 3) := by decide +kernel
theorem dX8_pathSum_6 : decode cX8_pathSum 6 = .ok (.aload_n 0, 1) := by decide +kernel
theorem dX8_pathSum_7 : decode cX8_pathSum 7 = .ok (.iload_n 1, 1) := by decide +kernel
theorem dX8_pathSum_8 : decode cX8_pathSum 8 = .ok (.iload_n 2, 1) := by decide +kernel
theorem dX8_pathSum_9 : decode cX8_pathSum 9 = .ok (.invokevirtual 147, 3) := by decide +kernel
theorem dX8_pathSum_12 : decode cX8_pathSum 12 = .ok (.aload_n 0, 1) := by decide +kernel
theorem dX8_pathSum_13 : decode cX8_pathSum 13 = .ok (.getfield 30, 3) := by decide +kernel
theorem dX8_pathSum_16 : decode cX8_pathSum 16 = .ok (.iload_n 2, 1) := by decide +kernel
theorem dX8_pathSum_17 : decode cX8_pathSum 17 = .ok (.invokevirtual 224, 3) := by decide +kernel
theorem dX8_pathSum_20 : decode cX8_pathSum 20 = .ok (.ireturn, 1) := by decide +kernel
theorem dX8_pathSumByHeavyPaths_0 : decode cX8_pathSumByHeavyPaths 0 = .ok (.aload_n 0, 1) := by decide +kernel
theorem dX8_pathSumByHeavyPaths_1 : decode cX8_pathSumByHeavyPaths 1 = .ok (.iload_n 1, 1) := by decide +kernel
theorem dX8_pathSumByHeavyPaths_2 : decode cX8_pathSumByHeavyPaths 2 = .ok (.iload_n 2, 1) := by decide +kernel
theorem dX8_pathSumByHeavyPaths_3 : decode cX8_pathSumByHeavyPaths 3 = .ok (.invokevirtual 102, 3) := by decide +kernel
theorem dX8_pathSumByHeavyPaths_6 : decode cX8_pathSumByHeavyPaths 6 = .ok (.aload_n 0, 1) := by decide +kernel
theorem dX8_pathSumByHeavyPaths_7 : decode cX8_pathSumByHeavyPaths 7 = .ok (.iload_n 1, 1) := by decide +kernel
theorem dX8_pathSumByHeavyPaths_8 : decode cX8_pathSumByHeavyPaths 8 = .ok (.iload_n 2, 1) := by decide +kernel
theorem dX8_pathSumByHeavyPaths_9 : decode cX8_pathSumByHeavyPaths 9 = .ok (.invokevirtual 147, 3) := by decide +kernel
theorem dX8_pathSumByHeavyPaths_12 : decode cX8_pathSumByHeavyPaths 12 = .ok (.aload_n 0, 1) := by decide +kernel
theorem dX8_pathSumByHeavyPaths_13 : decode cX8_pathSumByHeavyPaths 13 = .ok (.getfield 62, 3) := by decide +kernel
theorem dX8_pathSumByHeavyPaths_16 : decode cX8_pathSumByHeavyPaths 16 = .ok (.invokevirtual 227, 3) := by decide +kernel
theorem dX8_pathSumByHeavyPaths_19 : decode cX8_pathSumByHeavyPaths 19 = .ok (.aload_n 0, 1) := by decide +kernel
theorem dX8_pathSumByHeavyPaths_20 : decode cX8_pathSumByHeavyPaths 20 = .ok (.getfield 62, 3) := by decide +kernel
theorem dX8_pathSumByHeavyPaths_23 : decode cX8_pathSumByHeavyPaths 23 = .ok (.iload_n 2, 1) := by decide +kernel
theorem dX8_pathSumByHeavyPaths_24 : decode cX8_pathSumByHeavyPaths 24 = .ok (.invokevirtual 229, 3) := by decide +kernel
theorem dX8_pathSumByHeavyPaths_27 : decode cX8_pathSumByHeavyPaths 27 = .ok (.ireturn, 1) := by decide +kernel
theorem dX8_pathSumByWalk_0 : decode cX8_pathSumByWalk 0 = .ok (.aload_n 0, 1) := by decide +kernel
theorem dX8_pathSumByWalk_1 : decode cX8_pathSumByWalk 1 = .ok (.iload_n 1, 1) := by decide +kernel
theorem dX8_pathSumByWalk_2 : decode cX8_pathSumByWalk 2 = .ok (.iload_n 2, 1) := by decide +kernel
theorem dX8_pathSumByWalk_3 : decode cX8_pathSumByWalk 3 = .ok (.invokevirtual 102, 3) := by decide +kernel
theorem dX8_pathSumByWalk_6 : decode cX8_pathSumByWalk 6 = .ok (.aload_n 0, 1) := by decide +kernel
theorem dX8_pathSumByWalk_7 : decode cX8_pathSumByWalk 7 = .ok (.iload_n 2, 1) := by decide +kernel
theorem dX8_pathSumByWalk_8 : decode cX8_pathSumByWalk 8 = .ok (.iload_n 1, 1) := by decide +kernel
theorem dX8_pathSumByWalk_9 : decode cX8_pathSumByWalk 9 = .ok (.invokevirtual 147, 3) := by decide +kernel
theorem dX8_pathSumByWalk_12 : decode cX8_pathSumByWalk 12 = .ok (.aload_n 0, 1) := by decide +kernel
theorem dX8_pathSumByWalk_13 : decode cX8_pathSumByWalk 13 = .ok (.getfield 30, 3) := by decide +kernel
theorem dX8_pathSumByWalk_16 : decode cX8_pathSumByWalk 16 = .ok (.iload_n 1, 1) := by decide +kernel
theorem dX8_pathSumByWalk_17 : decode cX8_pathSumByWalk 17 = .ok (.invokevirtual 232, 3) := by decide +kernel
theorem dX8_pathSumByWalk_20 : decode cX8_pathSumByWalk 20 = .ok (.ireturn, 1) := by decide +kernel
theorem dX8_last_0 : decode cX8_last 0 = .ok (.aload_n 0, 1) := by decide +kernel
theorem dX8_last_1 : decode cX8_last 1 = .ok (.iload_n 1, 1) := by decide +kernel
theorem dX8_last_2 : decode cX8_last 2 = .ok (.iload_n 2, 1) := by decide +kernel
theorem dX8_last_3 : decode cX8_last 3 = .ok (.invokevirtual 102, 3) := by decide +kernel
theorem dX8_last_6 : decode cX8_last 6 = .ok (.aload_n 0, 1) := by decide +kernel
theorem dX8_last_7 : decode cX8_last 7 = .ok (.iload_n 1, 1) := by decide +kernel
theorem dX8_last_8 : decode cX8_last 8 = .ok (.iload_n 2, 1) := by decide +kernel
theorem dX8_last_9 : decode cX8_last 9 = .ok (.invokevirtual 147, 3) := by decide +kernel
theorem dX8_last_12 : decode cX8_last 12 = .ok (.iload_n 1, 1) := by decide +kernel
theorem dX8_last_13 : decode cX8_last 13 = .ok (.iload_n 2, 1) := by decide +kernel
theorem dX8_last_14 : decode cX8_last 14 = .ok (.invokestatic 108, 3) := by decide +kernel
theorem dX8_last_17 : decode cX8_last 17 = .ok (.aload_n 0, 1) := by decide +kernel
theorem dX8_last_18 : decode cX8_last 18 = .ok (.getfield 30, 3) := by decide +kernel
theorem dX8_last_21 : decode cX8_last 21 = .ok (.iload_n 2, 1) := by decide +kernel
theorem dX8_last_22 : decode cX8_last 22 = .ok (.invokevirtual 235, 3) := by decide +kernel
theorem dX8_last_25 : decode cX8_last 25 = .ok (.ireturn, 1) := by decide +kernel
theorem dX8_lastByWalk_0 : decode cX8_lastByWalk 0 = .ok (.aload_n 0, 1) := by decide +kernel
theorem dX8_lastByWalk_1 : decode cX8_lastByWalk 1 = .ok (.iload_n 1, 1) := by decide +kernel
theorem dX8_lastByWalk_2 : decode cX8_lastByWalk 2 = .ok (.iload_n 2, 1) := by decide +kernel
theorem dX8_lastByWalk_3 : decode cX8_lastByWalk 3 = .ok (.invokevirtual 102, 3) := by decide +kernel
theorem dX8_lastByWalk_6 : decode cX8_lastByWalk 6 = .ok (.aload_n 0, 1) := by decide +kernel
theorem dX8_lastByWalk_7 : decode cX8_lastByWalk 7 = .ok (.iload_n 2, 1) := by decide +kernel
theorem dX8_lastByWalk_8 : decode cX8_lastByWalk 8 = .ok (.iload_n 1, 1) := by decide +kernel
theorem dX8_lastByWalk_9 : decode cX8_lastByWalk 9 = .ok (.invokevirtual 147, 3) := by decide +kernel
theorem dX8_lastByWalk_12 : decode cX8_lastByWalk 12 = .ok (.iload_n 1, 1) := by decide +kernel
theorem dX8_lastByWalk_13 : decode cX8_lastByWalk 13 = .ok (.iload_n 2, 1) := by decide +kernel
theorem dX8_lastByWalk_14 : decode cX8_lastByWalk 14 = .ok (.invokestatic 108, 3) := by decide +kernel
theorem dX8_lastByWalk_17 : decode cX8_lastByWalk 17 = .ok (.aload_n 0, 1) := by decide +kernel
theorem dX8_lastByWalk_18 : decode cX8_lastByWalk 18 = .ok (.getfield 30, 3) := by decide +kernel
theorem dX8_lastByWalk_21 : decode cX8_lastByWalk 21 = .ok (.iload_n 1, 1) := by decide +kernel
theorem dX8_lastByWalk_22 : decode cX8_lastByWalk 22 = .ok (.invokevirtual 238, 3) := by decide +kernel
theorem dX8_lastByWalk_25 : decode cX8_lastByWalk 25 = .ok (.ireturn, 1) := by decide +kernel
theorem dX8_mean_0 : decode cX8_mean 0 = .ok (.aload_n 0, 1) := by decide +kernel
theorem dX8_mean_1 : decode cX8_mean 1 = .ok (.iload_n 1, 1) := by decide +kernel
theorem dX8_mean_2 : decode cX8_mean 2 = .ok (.iload_n 2, 1) := by decide +kernel
theorem dX8_mean_3 : decode cX8_mean 3 = .ok (.invokevirtual 102, 3) := by decide +kernel
theorem dX8_mean_6 : decode cX8_mean 6 = .ok (.aload_n 0, 1) := by decide +kernel
theorem dX8_mean_7 : decode cX8_mean 7 = .ok (.iload_n 1, 1) := by decide +kernel
theorem dX8_mean_8 : decode cX8_mean 8 = .ok (.iload_n 2, 1) := by decide +kernel
theorem dX8_mean_9 : decode cX8_mean 9 = .ok (.invokevirtual 147, 3) := by decide +kernel
theorem dX8_mean_12 : decode cX8_mean 12 = .ok (.aload_n 0, 1) := by decide +kernel
theorem dX8_mean_13 : decode cX8_mean 13 = .ok (.getfield 30, 3) := by decide +kernel
theorem dX8_mean_16 : decode cX8_mean 16 = .ok (.iload_n 2, 1) := by decide +kernel
theorem dX8_mean_17 : decode cX8_mean 17 = .ok (.invokevirtual 224, 3) := by decide +kernel
theorem dX8_mean_20 : decode cX8_mean 20 = .ok (.aload_n 0, 1) := by decide +kernel
theorem dX8_mean_21 : decode cX8_mean 21 = .ok (.getfield 30, 3) := by decide +kernel
theorem dX8_mean_24 : decode cX8_mean 24 = .ok (.iload_n 2, 1) := by decide +kernel
theorem dX8_mean_25 : decode cX8_mean 25 = .ok (.invokevirtual 153, 3) := by decide +kernel
theorem dX8_mean_28 : decode cX8_mean 28 = .ok (.iconst 1, 1) := by decide +kernel
theorem dX8_mean_29 : decode cX8_mean 29 = .ok (.iadd, 1) := by decide +kernel
theorem dX8_mean_30 : decode cX8_mean 30 = .ok (.invokestatic 241, 3) := by decide +kernel
theorem dX8_mean_33 : decode cX8_mean 33 = .ok (.freturn, 1) := by decide +kernel
theorem dX8_parent_0 : decode cX8_parent 0 = .ok (.aload_n 0, 1) := by decide +kernel
theorem dX8_parent_1 : decode cX8_parent 1 = .ok (.iload_n 1, 1) := by decide +kernel
theorem dX8_parent_2 : decode cX8_parent 2 = .ok (.iload_n 2, 1) := by decide +kernel
theorem dX8_parent_3 : decode cX8_parent 3 = .ok (.invokevirtual 102, 3) := by decide +kernel
theorem dX8_parent_6 : decode cX8_parent 6 = .ok (.aload_n 0, 1) := by decide +kernel
theorem dX8_parent_7 : decode cX8_parent 7 = .ok (.iload_n 1, 1) := by decide +kernel
theorem dX8_parent_8 : decode cX8_parent 8 = .ok (.iload_n 2, 1) := by decide +kernel
theorem dX8_parent_9 : decode cX8_parent 9 = .ok (.invokevirtual 147, 3) := by decide +kernel
theorem dX8_parent_12 : decode cX8_parent 12 = .ok (.iload_n 1, 1) := by decide +kernel
theorem dX8_parent_13 : decode cX8_parent 13 = .ok (.iload_n 2, 1) := by decide +kernel
theorem dX8_parent_14 : decode cX8_parent 14 = .ok (.if_icmp .ne 13, 3) := by decide +kernel
theorem dX8_parent_17 : decode cX8_parent 17 = .ok (.new 245, 3) := by decide +kernel
theorem dX8_parent_20 : decode cX8_parent 20 = .ok (.dup, 1) := by decide +kernel
theorem dX8_parent_21 : decode cX8_parent 21 = .ok (.ldc 247, 2) := by decide +kernel
theorem dX8_parent_23 : decode cX8_parent 23 = .ok (.invokespecial 249, 3) := by decide +kernel
theorem dX8_parent_26 : decode cX8_parent 26 = .ok (.athrow, 1) := by decide +kernel
theorem dX8_parent_27 : decode cX8_parent 27 = .ok (.aload_n 0, 1) := by decide +kernel
theorem dX8_parent_28 : decode cX8_parent 28 = .ok (.getfield 30, 3) := by decide +kernel
theorem dX8_parent_31 : decode cX8_parent 31 = .ok (.iload_n 2, 1) := by decide +kernel
theorem dX8_parent_32 : decode cX8_parent 32 = .ok (.invokevirtual 250, 3) := by decide +kernel
theorem dX8_parent_35 : decode cX8_parent 35 = .ok (.ireturn, 1) := by decide +kernel
theorem dX8_depth_0 : decode cX8_depth 0 = .ok (.aload_n 0, 1) := by decide +kernel
theorem dX8_depth_1 : decode cX8_depth 1 = .ok (.iload_n 1, 1) := by decide +kernel
theorem dX8_depth_2 : decode cX8_depth 2 = .ok (.iload_n 2, 1) := by decide +kernel
theorem dX8_depth_3 : decode cX8_depth 3 = .ok (.invokevirtual 102, 3) := by decide +kernel
theorem dX8_depth_6 : decode cX8_depth 6 = .ok (.aload_n 0, 1) := by decide +kernel
theorem dX8_depth_7 : decode cX8_depth 7 = .ok (.iload_n 1, 1) := by decide +kernel
theorem dX8_depth_8 : decode cX8_depth 8 = .ok (.iload_n 2, 1) := by decide +kernel
theorem dX8_depth_9 : decode cX8_depth 9 = .ok (.invokevirtual 147, 3) := by decide +kernel
theorem dX8_depth_12 : decode cX8_depth 12 = .ok (.aload_n 0, 1) := by decide +kernel
theorem dX8_depth_13 : decode cX8_depth 13 = .ok (.getfield 30, 3) := by decide +kernel
theorem dX8_depth_16 : decode cX8_depth 16 = .ok (.iload_n 2, 1) := by decide +kernel
theorem dX8_depth_17 : decode cX8_depth 17 = .ok (.invokevirtual 153, 3) := by decide +kernel
theorem dX8_depth_20 : decode cX8_depth 20 = .ok (.ireturn, 1) := by decide +kernel
theorem dX8_ancestor_0 : decode cX8_ancestor 0 = .ok (.aload_n 0, 1) := by decide +kernel
theorem dX8_ancestor_1 : decode cX8_ancestor 1 = .ok (.iload_n 1, 1) := by decide +kernel
theorem dX8_ancestor_2 : decode cX8_ancestor 2 = .ok (.iload_n 2, 1) := by decide +kernel
theorem dX8_ancestor_3 : decode cX8_ancestor 3 = .ok (.invokevirtual 102, 3) := by decide +kernel
theorem dX8_ancestor_6 : decode cX8_ancestor 6 = .ok (.aload_n 0, 1) := by decide +kernel
theorem dX8_ancestor_7 : decode cX8_ancestor 7 = .ok (.iload_n 1, 1) := by decide +kernel
theorem dX8_ancestor_8 : decode cX8_ancestor 8 = .ok (.iload_n 2, 1) := by decide +kernel
theorem dX8_ancestor_9 : decode cX8_ancestor 9 = .ok (.invokevirtual 147, 3) := by decide +kernel
theorem dX8_ancestor_12 : decode cX8_ancestor 12 = .ok (.aload_n 0, 1) := by decide +kernel
theorem dX8_ancestor_13 : decode cX8_ancestor 13 = .ok (.iload_n 2, 1) := by decide +kernel
theorem dX8_ancestor_14 : decode cX8_ancestor 14 = .ok (.iload_n 3, 1) := by decide +kernel
theorem dX8_ancestor_15 : decode cX8_ancestor 15 = .ok (.invokevirtual 253, 3) := by decide +kernel
theorem dX8_ancestor_18 : decode cX8_ancestor 18 = .ok (.aload_n 0, 1) := by decide +kernel
theorem dX8_ancestor_19 : decode cX8_ancestor 19 = .ok (.getfield 69, 3) := by decide +kernel
theorem dX8_ancestor_22 : decode cX8_ancestor 22 = .ok (.invokevirtual 256, 3) := by decide +kernel
theorem dX8_ancestor_25 : decode cX8_ancestor 25 = .ok (.aload_n 0, 1) := by decide +kernel
theorem dX8_ancestor_26 : decode cX8_ancestor 26 = .ok (.getfield 69, 3) := by decide +kernel
theorem dX8_ancestor_29 : decode cX8_ancestor 29 = .ok (.iload_n 2, 1) := by decide +kernel
theorem dX8_ancestor_30 : decode cX8_ancestor 30 = .ok (.iload_n 3, 1) := by decide +kernel
theorem dX8_ancestor_31 : decode cX8_ancestor 31 = .ok (.invokevirtual 257, 3) := by decide +kernel
theorem dX8_ancestor_34 : decode cX8_ancestor 34 = .ok (.ireturn, 1) := by decide +kernel
theorem dX8_ancestorByWalk_0 : decode cX8_ancestorByWalk 0 = .ok (.aload_n 0, 1) := by decide +kernel
theorem dX8_ancestorByWalk_1 : decode cX8_ancestorByWalk 1 = .ok (.iload_n 1, 1) := by decide +kernel
theorem dX8_ancestorByWalk_2 : decode cX8_ancestorByWalk 2 = .ok (.iload_n 2, 1) := by decide +kernel
theorem dX8_ancestorByWalk_3 : decode cX8_ancestorByWalk 3 = .ok (.invokevirtual 102, 3) := by decide +kernel
theorem dX8_ancestorByWalk_6 : decode cX8_ancestorByWalk 6 = .ok (.aload_n 0, 1) := by decide +kernel
theorem dX8_ancestorByWalk_7 : decode cX8_ancestorByWalk 7 = .ok (.iload_n 1, 1) := by decide +kernel
theorem dX8_ancestorByWalk_8 : decode cX8_ancestorByWalk 8 = .ok (.iload_n 2, 1) := by decide +kernel
theorem dX8_ancestorByWalk_9 : decode cX8_ancestorByWalk 9 = .ok (.invokevirtual 147, 3) := by decide +kernel
theorem dX8_ancestorByWalk_12 : decode cX8_ancestorByWalk 12 = .ok (.aload_n 0, 1) := by decide +kernel
theorem dX8_ancestorByWalk_13 : decode cX8_ancestorByWalk 13 = .ok (.iload_n 2, 1) := by decide +kernel
theorem dX8_ancestorByWalk_14 : decode cX8_ancestorByWalk 14 = .ok (.iload_n 3, 1) := by decide +kernel
theorem dX8_ancestorByWalk_15 : decode cX8_ancestorByWalk 15 = .ok (.invokevirtual 253, 3) := by decide +kernel
theorem dX8_ancestorByWalk_18 : decode cX8_ancestorByWalk 18 = .ok (.aload_n 0, 1) := by decide +kernel
theorem dX8_ancestorByWalk_19 : decode cX8_ancestorByWalk 19 = .ok (.getfield 30, 3) := by decide +kernel
theorem dX8_ancestorByWalk_22 : decode cX8_ancestorByWalk 22 = .ok (.iload_n 2, 1) := by decide +kernel
theorem dX8_ancestorByWalk_23 : decode cX8_ancestorByWalk 23 = .ok (.iload_n 3, 1) := by decide +kernel
theorem dX8_ancestorByWalk_24 : decode cX8_ancestorByWalk 24 = .ok (.invokevirtual 221, 3) := by decide +kernel
theorem dX8_ancestorByWalk_27 : decode cX8_ancestorByWalk 27 = .ok (.ireturn, 1) := by decide +kernel
theorem dX8_common_0 : decode cX8_common 0 = .ok (.aload_n 0, 1) := by decide +kernel
theorem dX8_common_1 : decode cX8_common 1 = .ok (.iload_n 1, 1) := by decide +kernel
theorem dX8_common_2 : decode cX8_common 2 = .ok (.invokevirtual 92, 3) := by decide +kernel
theorem dX8_common_5 : decode cX8_common 5 = .ok (.aload_n 0, 1) := by decide +kernel
theorem dX8_common_6 : decode cX8_common 6 = .ok (.iload_n 2, 1) := by decide +kernel
theorem dX8_common_7 : decode cX8_common 7 = .ok (.iload_n 3, 1) := by decide +kernel
theorem dX8_common_8 : decode cX8_common 8 = .ok (.invokevirtual 102, 3) := by decide +kernel
theorem dX8_common_11 : decode cX8_common 11 = .ok (.aload_n 0, 1) := by decide +kernel
theorem dX8_common_12 : decode cX8_common 12 = .ok (.iload_n 1, 1) := by decide +kernel
theorem dX8_common_13 : decode cX8_common 13 = .ok (.iload_n 2, 1) := by decide +kernel
theorem dX8_common_14 : decode cX8_common 14 = .ok (.invokevirtual 147, 3) := by decide +kernel
theorem dX8_common_17 : decode cX8_common 17 = .ok (.aload_n 0, 1) := by decide +kernel
theorem dX8_common_18 : decode cX8_common 18 = .ok (.iload_n 3, 1) := by decide +kernel
theorem dX8_common_19 : decode cX8_common 19 = .ok (.invokevirtual 258, 3) := by decide +kernel
theorem dX8_common_22 : decode cX8_common 22 = .ok (.aload_n 0, 1) := by decide +kernel
theorem dX8_common_23 : decode cX8_common 23 = .ok (.getfield 69, 3) := by decide +kernel
theorem dX8_common_26 : decode cX8_common 26 = .ok (.invokevirtual 256, 3) := by decide +kernel
theorem dX8_common_29 : decode cX8_common 29 = .ok (.aload_n 0, 1) := by decide +kernel
theorem dX8_common_30 : decode cX8_common 30 = .ok (.getfield 69, 3) := by decide +kernel
theorem dX8_common_33 : decode cX8_common 33 = .ok (.iload_n 2, 1) := by decide +kernel
theorem dX8_common_34 : decode cX8_common 34 = .ok (.iload_n 3, 1) := by decide +kernel
theorem dX8_common_35 : decode cX8_common 35 = .ok (.invokevirtual 261, 3) := by decide +kernel
theorem dX8_common_38 : decode cX8_common 38 = .ok (.ireturn, 1) := by decide +kernel
theorem dX8_commonByWalk_0 : decode cX8_commonByWalk 0 = .ok (.aload_n 0, 1) := by decide +kernel
theorem dX8_commonByWalk_1 : decode cX8_commonByWalk 1 = .ok (.iload_n 1, 1) := by decide +kernel
theorem dX8_commonByWalk_2 : decode cX8_commonByWalk 2 = .ok (.invokevirtual 92, 3) := by decide +kernel
theorem dX8_commonByWalk_5 : decode cX8_commonByWalk 5 = .ok (.aload_n 0, 1) := by decide +kernel
theorem dX8_commonByWalk_6 : decode cX8_commonByWalk 6 = .ok (.iload_n 2, 1) := by decide +kernel
theorem dX8_commonByWalk_7 : decode cX8_commonByWalk 7 = .ok (.iload_n 3, 1) := by decide +kernel
theorem dX8_commonByWalk_8 : decode cX8_commonByWalk 8 = .ok (.invokevirtual 102, 3) := by decide +kernel
theorem dX8_commonByWalk_11 : decode cX8_commonByWalk 11 = .ok (.aload_n 0, 1) := by decide +kernel
theorem dX8_commonByWalk_12 : decode cX8_commonByWalk 12 = .ok (.iload_n 1, 1) := by decide +kernel
theorem dX8_commonByWalk_13 : decode cX8_commonByWalk 13 = .ok (.iload_n 2, 1) := by decide +kernel
theorem dX8_commonByWalk_14 : decode cX8_commonByWalk 14 = .ok (.invokevirtual 147, 3) := by decide +kernel
theorem dX8_commonByWalk_17 : decode cX8_commonByWalk 17 = .ok (.aload_n 0, 1) := by decide +kernel
theorem dX8_commonByWalk_18 : decode cX8_commonByWalk 18 = .ok (.iload_n 3, 1) := by decide +kernel
theorem dX8_commonByWalk_19 : decode cX8_commonByWalk 19 = .ok (.invokevirtual 258, 3) := by decide +kernel
theorem dX8_commonByWalk_22 : decode cX8_commonByWalk 22 = .ok (.aload_n 0, 1) := by decide +kernel
theorem dX8_commonByWalk_23 : decode cX8_commonByWalk 23 = .ok (.getfield 30, 3) := by decide +kernel
theorem dX8_commonByWalk_26 : decode cX8_commonByWalk 26 = .ok (.iload_n 2, 1) := by decide +kernel
theorem dX8_commonByWalk_27 : decode cX8_commonByWalk 27 = .ok (.iload_n 3, 1) := by decide +kernel
theorem dX8_commonByWalk_28 : decode cX8_commonByWalk 28 = .ok (.invokevirtual 264, 3) := by decide +kernel
theorem dX8_commonByWalk_31 : decode cX8_commonByWalk 31 = .ok (.ireturn, 1) := by decide +kernel
theorem dX8_subtreeSize_0 : decode cX8_subtreeSize 0 = .ok (.aload_n 0, 1) := by decide +kernel
theorem dX8_subtreeSize_1 : decode cX8_subtreeSize 1 = .ok (.iload_n 1, 1) := by decide +kernel
theorem dX8_subtreeSize_2 : decode cX8_subtreeSize 2 = .ok (.iload_n 2, 1) := by decide +kernel
theorem dX8_subtreeSize_3 : decode cX8_subtreeSize 3 = .ok (.invokevirtual 102, 3) := by decide +kernel
theorem dX8_subtreeSize_6 : decode cX8_subtreeSize 6 = .ok (.aload_n 0, 1) := by decide +kernel
theorem dX8_subtreeSize_7 : decode cX8_subtreeSize 7 = .ok (.iload_n 1, 1) := by decide +kernel
theorem dX8_subtreeSize_8 : decode cX8_subtreeSize 8 = .ok (.iload_n 2, 1) := by decide +kernel
theorem dX8_subtreeSize_9 : decode cX8_subtreeSize 9 = .ok (.invokevirtual 147, 3) := by decide +kernel
theorem dX8_subtreeSize_12 : decode cX8_subtreeSize 12 = .ok (.aload_n 0, 1) := by decide +kernel
theorem dX8_subtreeSize_13 : decode cX8_subtreeSize 13 = .ok (.getfield 62, 3) := by decide +kernel
theorem dX8_subtreeSize_16 : decode cX8_subtreeSize 16 = .ok (.invokevirtual 227, 3) := by decide +kernel
theorem dX8_subtreeSize_19 : decode cX8_subtreeSize 19 = .ok (.aload_n 0, 1) := by decide +kernel
theorem dX8_subtreeSize_20 : decode cX8_subtreeSize 20 = .ok (.getfield 62, 3) := by decide +kernel
theorem dX8_subtreeSize_23 : decode cX8_subtreeSize 23 = .ok (.iload_n 2, 1) := by decide +kernel
theorem dX8_subtreeSize_24 : decode cX8_subtreeSize 24 = .ok (.invokevirtual 267, 3) := by decide +kernel
theorem dX8_subtreeSize_27 : decode cX8_subtreeSize 27 = .ok (.ireturn, 1) := by decide +kernel
theorem dX8_subtreeSum_0 : decode cX8_subtreeSum 0 = .ok (.aload_n 0, 1) := by decide +kernel
theorem dX8_subtreeSum_1 : decode cX8_subtreeSum 1 = .ok (.iload_n 1, 1) := by decide +kernel
theorem dX8_subtreeSum_2 : decode cX8_subtreeSum 2 = .ok (.iload_n 2, 1) := by decide +kernel
theorem dX8_subtreeSum_3 : decode cX8_subtreeSum 3 = .ok (.invokevirtual 102, 3) := by decide +kernel
theorem dX8_subtreeSum_6 : decode cX8_subtreeSum 6 = .ok (.aload_n 0, 1) := by decide +kernel
theorem dX8_subtreeSum_7 : decode cX8_subtreeSum 7 = .ok (.iload_n 1, 1) := by decide +kernel
theorem dX8_subtreeSum_8 : decode cX8_subtreeSum 8 = .ok (.iload_n 2, 1) := by decide +kernel
theorem dX8_subtreeSum_9 : decode cX8_subtreeSum 9 = .ok (.invokevirtual 147, 3) := by decide +kernel
theorem dX8_subtreeSum_12 : decode cX8_subtreeSum 12 = .ok (.aload_n 0, 1) := by decide +kernel
theorem dX8_subtreeSum_13 : decode cX8_subtreeSum 13 = .ok (.getfield 62, 3) := by decide +kernel
theorem dX8_subtreeSum_16 : decode cX8_subtreeSum 16 = .ok (.invokevirtual 227, 3) := by decide +kernel
theorem dX8_subtreeSum_19 : decode cX8_subtreeSum 19 = .ok (.aload_n 0, 1) := by decide +kernel
theorem dX8_subtreeSum_20 : decode cX8_subtreeSum 20 = .ok (.getfield 62, 3) := by decide +kernel
theorem dX8_subtreeSum_23 : decode cX8_subtreeSum 23 = .ok (.iload_n 2, 1) := by decide +kernel
theorem dX8_subtreeSum_24 : decode cX8_subtreeSum 24 = .ok (.invokevirtual 270, 3) := by decide +kernel
theorem dX8_subtreeSum_27 : decode cX8_subtreeSum 27 = .ok (.ireturn, 1) := by decide +kernel
theorem dX8_heavyChild_0 : decode cX8_heavyChild 0 = .ok (.aload_n 0, 1) := by decide +kernel
theorem dX8_heavyChild_1 : decode cX8_heavyChild 1 = .ok (.iload_n 1, 1) := by decide +kernel
theorem dX8_heavyChild_2 : decode cX8_heavyChild 2 = .ok (.iload_n 2, 1) := by decide +kernel
theorem dX8_heavyChild_3 : decode cX8_heavyChild 3 = .ok (.invokevirtual 102, 3) := by decide +kernel
theorem dX8_heavyChild_6 : decode cX8_heavyChild 6 = .ok (.aload_n 0, 1) := by decide +kernel
theorem dX8_heavyChild_7 : decode cX8_heavyChild 7 = .ok (.iload_n 1, 1) := by decide +kernel
theorem dX8_heavyChild_8 : decode cX8_heavyChild 8 = .ok (.iload_n 2, 1) := by decide +kernel
theorem dX8_heavyChild_9 : decode cX8_heavyChild 9 = .ok (.invokevirtual 147, 3) := by decide +kernel
theorem dX8_heavyChild_12 : decode cX8_heavyChild 12 = .ok (.aload_n 0, 1) := by decide +kernel
theorem dX8_heavyChild_13 : decode cX8_heavyChild 13 = .ok (.getfield 62, 3) := by decide +kernel
theorem dX8_heavyChild_16 : decode cX8_heavyChild 16 = .ok (.invokevirtual 227, 3) := by decide +kernel
theorem dX8_heavyChild_19 : decode cX8_heavyChild 19 = .ok (.aload_n 0, 1) := by decide +kernel
theorem dX8_heavyChild_20 : decode cX8_heavyChild 20 = .ok (.getfield 62, 3) := by decide +kernel
theorem dX8_heavyChild_23 : decode cX8_heavyChild 23 = .ok (.iload_n 2, 1) := by decide +kernel
theorem dX8_heavyChild_24 : decode cX8_heavyChild 24 = .ok (.invokevirtual 273, 3) := by decide +kernel
theorem dX8_heavyChild_27 : decode cX8_heavyChild 27 = .ok (.istore_n 3, 1) := by decide +kernel
theorem dX8_heavyChild_28 : decode cX8_heavyChild 28 = .ok (.iload_n 3, 1) := by decide +kernel
theorem dX8_heavyChild_29 : decode cX8_heavyChild 29 = .ok (.iconst (-1), 1) := by decide +kernel
theorem dX8_heavyChild_30 : decode cX8_heavyChild 30 = .ok (.if_icmp .ne 14, 3) := by decide +kernel
theorem dX8_heavyChild_33 : decode cX8_heavyChild 33 = .ok (.new 245, 3) := by decide +kernel
theorem dX8_heavyChild_36 : decode cX8_heavyChild 36 = .ok (.dup, 1) := by decide +kernel
theorem dX8_heavyChild_37 : decode cX8_heavyChild 37 = .ok (.ldc_w 276, 3) := by decide +kernel
theorem dX8_heavyChild_40 : decode cX8_heavyChild 40 = .ok (.invokespecial 249, 3) := by decide +kernel
theorem dX8_heavyChild_43 : decode cX8_heavyChild 43 = .ok (.athrow, 1) := by decide +kernel
theorem dX8_heavyChild_44 : decode cX8_heavyChild 44 = .ok (.iload_n 3, 1) := by decide +kernel
theorem dX8_heavyChild_45 : decode cX8_heavyChild 45 = .ok (.ireturn, 1) := by decide +kernel
theorem dX8_head_0 : decode cX8_head 0 = .ok (.aload_n 0, 1) := by decide +kernel
theorem dX8_head_1 : decode cX8_head 1 = .ok (.iload_n 1, 1) := by decide +kernel
theorem dX8_head_2 : decode cX8_head 2 = .ok (.iload_n 2, 1) := by decide +kernel
theorem dX8_head_3 : decode cX8_head 3 = .ok (.invokevirtual 102, 3) := by decide +kernel
theorem dX8_head_6 : decode cX8_head 6 = .ok (.aload_n 0, 1) := by decide +kernel
theorem dX8_head_7 : decode cX8_head 7 = .ok (.iload_n 1, 1) := by decide +kernel
theorem dX8_head_8 : decode cX8_head 8 = .ok (.iload_n 2, 1) := by decide +kernel
theorem dX8_head_9 : decode cX8_head 9 = .ok (.invokevirtual 147, 3) := by decide +kernel
theorem dX8_head_12 : decode cX8_head 12 = .ok (.aload_n 0, 1) := by decide +kernel
theorem dX8_head_13 : decode cX8_head 13 = .ok (.getfield 62, 3) := by decide +kernel
theorem dX8_head_16 : decode cX8_head 16 = .ok (.invokevirtual 227, 3) := by decide +kernel
theorem dX8_head_19 : decode cX8_head 19 = .ok (.aload_n 0, 1) := by decide +kernel
theorem dX8_head_20 : decode cX8_head 20 = .ok (.getfield 62, 3) := by decide +kernel
theorem dX8_head_23 : decode cX8_head 23 = .ok (.iload_n 2, 1) := by decide +kernel
theorem dX8_head_24 : decode cX8_head 24 = .ok (.invokevirtual 278, 3) := by decide +kernel
theorem dX8_head_27 : decode cX8_head 27 = .ok (.ireturn, 1) := by decide +kernel
theorem dX8_heavyPaths_0 : decode cX8_heavyPaths 0 = .ok (.aload_n 0, 1) := by decide +kernel
theorem dX8_heavyPaths_1 : decode cX8_heavyPaths 1 = .ok (.iload_n 1, 1) := by decide +kernel
theorem dX8_heavyPaths_2 : decode cX8_heavyPaths 2 = .ok (.invokevirtual 92, 3) := by decide +kernel
theorem dX8_heavyPaths_5 : decode cX8_heavyPaths 5 = .ok (.aload_n 0, 1) := by decide +kernel
theorem dX8_heavyPaths_6 : decode cX8_heavyPaths 6 = .ok (.getfield 30, 3) := by decide +kernel
theorem dX8_heavyPaths_9 : decode cX8_heavyPaths 9 = .ok (.iload_n 1, 1) := by decide +kernel
theorem dX8_heavyPaths_10 : decode cX8_heavyPaths 10 = .ok (.iconst (-1), 1) := by decide +kernel
theorem dX8_heavyPaths_11 : decode cX8_heavyPaths 11 = .ok (.invokevirtual 198, 3) := by decide +kernel
theorem dX8_heavyPaths_14 : decode cX8_heavyPaths 14 = .ok (.aload_n 0, 1) := by decide +kernel
theorem dX8_heavyPaths_15 : decode cX8_heavyPaths 15 = .ok (.getfield 62, 3) := by decide +kernel
theorem dX8_heavyPaths_18 : decode cX8_heavyPaths 18 = .ok (.invokevirtual 227, 3) := by decide +kernel
theorem dX8_heavyPaths_21 : decode cX8_heavyPaths 21 = .ok (.aload_n 0, 1) := by decide +kernel
theorem dX8_heavyPaths_22 : decode cX8_heavyPaths 22 = .ok (.getfield 62, 3) := by decide +kernel
theorem dX8_heavyPaths_25 : decode cX8_heavyPaths 25 = .ok (.invokevirtual 281, 3) := by decide +kernel
theorem dX8_heavyPaths_28 : decode cX8_heavyPaths 28 = .ok (.ireturn, 1) := by decide +kernel
theorem dX8_lightEdges_0 : decode cX8_lightEdges 0 = .ok (.aload_n 0, 1) := by decide +kernel
theorem dX8_lightEdges_1 : decode cX8_lightEdges 1 = .ok (.iload_n 1, 1) := by decide +kernel
theorem dX8_lightEdges_2 : decode cX8_lightEdges 2 = .ok (.iload_n 2, 1) := by decide +kernel
theorem dX8_lightEdges_3 : decode cX8_lightEdges 3 = .ok (.invokevirtual 102, 3) := by decide +kernel
theorem dX8_lightEdges_6 : decode cX8_lightEdges 6 = .ok (.aload_n 0, 1) := by decide +kernel
theorem dX8_lightEdges_7 : decode cX8_lightEdges 7 = .ok (.iload_n 1, 1) := by decide +kernel
theorem dX8_lightEdges_8 : decode cX8_lightEdges 8 = .ok (.iload_n 2, 1) := by decide +kernel
theorem dX8_lightEdges_9 : decode cX8_lightEdges 9 = .ok (.invokevirtual 147, 3) := by decide +kernel
theorem dX8_lightEdges_12 : decode cX8_lightEdges 12 = .ok (.aload_n 0, 1) := by decide +kernel
theorem dX8_lightEdges_13 : decode cX8_lightEdges 13 = .ok (.getfield 62, 3) := by decide +kernel
theorem dX8_lightEdges_16 : decode cX8_lightEdges 16 = .ok (.invokevirtual 227, 3) := by decide +kernel
theorem dX8_lightEdges_19 : decode cX8_lightEdges 19 = .ok (.aload_n 0, 1) := by decide +kernel
theorem dX8_lightEdges_20 : decode cX8_lightEdges 20 = .ok (.getfield 62, 3) := by decide +kernel
theorem dX8_lightEdges_23 : decode cX8_lightEdges 23 = .ok (.iload_n 2, 1) := by decide +kernel
theorem dX8_lightEdges_24 : decode cX8_lightEdges 24 = .ok (.invokevirtual 284, 3) := by decide +kernel
theorem dX8_lightEdges_27 : decode cX8_lightEdges 27 = .ok (.ireturn, 1) := by decide +kernel
theorem dX8_diameter_0 : decode cX8_diameter 0 = .ok (.aload_n 0, 1) := by decide +kernel
theorem dX8_diameter_1 : decode cX8_diameter 1 = .ok (.iload_n 1, 1) := by decide +kernel
theorem dX8_diameter_2 : decode cX8_diameter 2 = .ok (.invokevirtual 92, 3) := by decide +kernel
theorem dX8_diameter_5 : decode cX8_diameter 5 = .ok (.aload_n 0, 1) := by decide +kernel
theorem dX8_diameter_6 : decode cX8_diameter 6 = .ok (.getfield 30, 3) := by decide +kernel
theorem dX8_diameter_9 : decode cX8_diameter 9 = .ok (.iload_n 1, 1) := by decide +kernel
theorem dX8_diameter_10 : decode cX8_diameter 10 = .ok (.iconst (-1), 1) := by decide +kernel
theorem dX8_diameter_11 : decode cX8_diameter 11 = .ok (.invokevirtual 198, 3) := by decide +kernel
theorem dX8_diameter_14 : decode cX8_diameter 14 = .ok (.aload_n 0, 1) := by decide +kernel
theorem dX8_diameter_15 : decode cX8_diameter 15 = .ok (.getfield 30, 3) := by decide +kernel
theorem dX8_diameter_18 : decode cX8_diameter 18 = .ok (.aload_n 0, 1) := by decide +kernel
theorem dX8_diameter_19 : decode cX8_diameter 19 = .ok (.getfield 30, 3) := by decide +kernel
theorem dX8_diameter_22 : decode cX8_diameter 22 = .ok (.invokevirtual 287, 3) := by decide +kernel
theorem dX8_diameter_25 : decode cX8_diameter 25 = .ok (.iconst (-1), 1) := by decide +kernel
theorem dX8_diameter_26 : decode cX8_diameter 26 = .ok (.invokevirtual 198, 3) := by decide +kernel
theorem dX8_diameter_29 : decode cX8_diameter 29 = .ok (.aload_n 0, 1) := by decide +kernel
theorem dX8_diameter_30 : decode cX8_diameter 30 = .ok (.getfield 30, 3) := by decide +kernel
theorem dX8_diameter_33 : decode cX8_diameter 33 = .ok (.aload_n 0, 1) := by decide +kernel
theorem dX8_diameter_34 : decode cX8_diameter 34 = .ok (.getfield 30, 3) := by decide +kernel
theorem dX8_diameter_37 : decode cX8_diameter 37 = .ok (.invokevirtual 287, 3) := by decide +kernel
theorem dX8_diameter_40 : decode cX8_diameter 40 = .ok (.invokevirtual 153, 3) := by decide +kernel
theorem dX8_diameter_43 : decode cX8_diameter 43 = .ok (.ireturn, 1) := by decide +kernel
theorem dX8_diameterByTrying_0 : decode cX8_diameterByTrying 0 = .ok (.aload_n 0, 1) := by decide +kernel
theorem dX8_diameterByTrying_1 : decode cX8_diameterByTrying 1 = .ok (.iload_n 1, 1) := by decide +kernel
theorem dX8_diameterByTrying_2 : decode cX8_diameterByTrying 2 = .ok (.invokevirtual 92, 3) := by decide +kernel
theorem dX8_diameterByTrying_5 : decode cX8_diameterByTrying 5 = .ok (.iconst 0, 1) := by decide +kernel
theorem dX8_diameterByTrying_6 : decode cX8_diameterByTrying 6 = .ok (.istore_n 2, 1) := by decide +kernel
theorem dX8_diameterByTrying_7 : decode cX8_diameterByTrying 7 = .ok (.iconst 0, 1) := by decide +kernel
theorem dX8_diameterByTrying_8 : decode cX8_diameterByTrying 8 = .ok (.istore_n 3, 1) := by decide +kernel
theorem dX8_diameterByTrying_9 : decode cX8_diameterByTrying 9 = .ok (.iload_n 3, 1) := by decide +kernel
theorem dX8_diameterByTrying_10 : decode cX8_diameterByTrying 10 = .ok (.aload_n 0, 1) := by decide +kernel
theorem dX8_diameterByTrying_11 : decode cX8_diameterByTrying 11 = .ok (.getfield 10, 3) := by decide +kernel
theorem dX8_diameterByTrying_14 : decode cX8_diameterByTrying 14 = .ok (.invokevirtual 77, 3) := by decide +kernel
theorem dX8_diameterByTrying_17 : decode cX8_diameterByTrying 17 = .ok (.if_icmp .ge 38, 3) := by decide +kernel
theorem dX8_diameterByTrying_20 : decode cX8_diameterByTrying 20 = .ok (.aload_n 0, 1) := by decide +kernel
theorem dX8_diameterByTrying_21 : decode cX8_diameterByTrying 21 = .ok (.getfield 30, 3) := by decide +kernel
theorem dX8_diameterByTrying_24 : decode cX8_diameterByTrying 24 = .ok (.iload_n 3, 1) := by decide +kernel
theorem dX8_diameterByTrying_25 : decode cX8_diameterByTrying 25 = .ok (.iconst (-1), 1) := by decide +kernel
theorem dX8_diameterByTrying_26 : decode cX8_diameterByTrying 26 = .ok (.invokevirtual 198, 3) := by decide +kernel
theorem dX8_diameterByTrying_29 : decode cX8_diameterByTrying 29 = .ok (.aload_n 0, 1) := by decide +kernel
theorem dX8_diameterByTrying_30 : decode cX8_diameterByTrying 30 = .ok (.getfield 30, 3) := by decide +kernel
theorem dX8_diameterByTrying_33 : decode cX8_diameterByTrying 33 = .ok (.iload_n 1, 1) := by decide +kernel
theorem dX8_diameterByTrying_34 : decode cX8_diameterByTrying 34 = .ok (.invokevirtual 201, 3) := by decide +kernel
theorem dX8_diameterByTrying_37 : decode cX8_diameterByTrying 37 = .ok (.ifCond .eq 12, 3) := by decide +kernel
theorem dX8_diameterByTrying_40 : decode cX8_diameterByTrying 40 = .ok (.iload_n 2, 1) := by decide +kernel
theorem dX8_diameterByTrying_41 : decode cX8_diameterByTrying 41 = .ok (.aload_n 0, 1) := by decide +kernel
theorem dX8_diameterByTrying_42 : decode cX8_diameterByTrying 42 = .ok (.invokevirtual 290, 3) := by decide +kernel
theorem dX8_diameterByTrying_45 : decode cX8_diameterByTrying 45 = .ok (.invokestatic 293, 3) := by decide +kernel
theorem dX8_diameterByTrying_48 : decode cX8_diameterByTrying 48 = .ok (.istore_n 2, 1) := by decide +kernel
theorem dX8_diameterByTrying_49 : decode cX8_diameterByTrying 49 = .ok (.iinc 3 1, 3) := by decide +kernel
theorem dX8_diameterByTrying_52 : decode cX8_diameterByTrying 52 = .ok (.goto (-43), 3) := by decide +kernel
theorem dX8_diameterByTrying_55 : decode cX8_diameterByTrying 55 = .ok (.iload_n 2, 1) := by decide +kernel
theorem dX8_diameterByTrying_56 : decode cX8_diameterByTrying 56 = .ok (.ireturn, 1) := by decide +kernel
theorem dX8_isBetween_0 : decode cX8_isBetween 0 = .ok (.iload_n 0, 1) := by decide +kernel
theorem dX8_isBetween_1 : decode cX8_isBetween 1 = .ok (.iload_n 1, 1) := by decide +kernel
theorem dX8_isBetween_2 : decode cX8_isBetween 2 = .ok (.if_icmp .lt 12, 3) := by decide +kernel
theorem dX8_isBetween_5 : decode cX8_isBetween 5 = .ok (.iload_n 0, 1) := by decide +kernel
theorem dX8_isBetween_6 : decode cX8_isBetween 6 = .ok (.iload_n 2, 1) := by decide +kernel
theorem dX8_isBetween_7 : decode cX8_isBetween 7 = .ok (.if_icmp .gt 7, 3) := by decide +kernel
theorem dX8_isBetween_10 : decode cX8_isBetween 10 = .ok (.iconst 1, 1) := by decide +kernel
theorem dX8_isBetween_11 : decode cX8_isBetween 11 = .ok (.goto 4, 3) := by decide +kernel
theorem dX8_isBetween_14 : decode cX8_isBetween 14 = .ok (.iconst 0, 1) := by decide +kernel
theorem dX8_isBetween_15 : decode cX8_isBetween 15 = .ok (.ireturn, 1) := by decide +kernel
theorem dX8_requireValue_0 : decode cX8_requireValue 0 = .ok (.iload_n 0, 1) := by decide +kernel
theorem dX8_requireValue_1 : decode cX8_requireValue 1 = .ok (.bipush (-99), 2) := by decide +kernel
theorem dX8_requireValue_3 : decode cX8_requireValue 3 = .ok (.bipush 99, 2) := by decide +kernel
theorem dX8_requireValue_5 : decode cX8_requireValue 5 = .ok (.invokestatic 138, 3) := by decide +kernel
theorem dX8_requireValue_8 : decode cX8_requireValue 8 = .ok (.ifCond .ne 14, 3) := by decide +kernel
theorem dX8_requireValue_11 : decode cX8_requireValue 11 = .ok (.new 142, 3) := by decide +kernel
theorem dX8_requireValue_14 : decode cX8_requireValue 14 = .ok (.dup, 1) := by decide +kernel
theorem dX8_requireValue_15 : decode cX8_requireValue 15 = .ok (.ldc_w 298, 3) := by decide +kernel
theorem dX8_requireValue_18 : decode cX8_requireValue 18 = .ok (.invokespecial 146, 3) := by decide +kernel
theorem dX8_requireValue_21 : decode cX8_requireValue 21 = .ok (.athrow, 1) := by decide +kernel
theorem dX8_requireValue_22 : decode cX8_requireValue 22 = .ok (.return_, 1) := by decide +kernel
theorem dX8_requireWeight_0 : decode cX8_requireWeight 0 = .ok (.iload_n 0, 1) := by decide +kernel
theorem dX8_requireWeight_1 : decode cX8_requireWeight 1 = .ok (.iconst 1, 1) := by decide +kernel
theorem dX8_requireWeight_2 : decode cX8_requireWeight 2 = .ok (.bipush 99, 2) := by decide +kernel
theorem dX8_requireWeight_4 : decode cX8_requireWeight 4 = .ok (.invokestatic 138, 3) := by decide +kernel
theorem dX8_requireWeight_7 : decode cX8_requireWeight 7 = .ok (.ifCond .ne 14, 3) := by decide +kernel
theorem dX8_requireWeight_10 : decode cX8_requireWeight 10 = .ok (.new 142, 3) := by decide +kernel
theorem dX8_requireWeight_13 : decode cX8_requireWeight 13 = .ok (.dup, 1) := by decide +kernel
theorem dX8_requireWeight_14 : decode cX8_requireWeight 14 = .ok (.ldc_w 300, 3) := by decide +kernel
theorem dX8_requireWeight_17 : decode cX8_requireWeight 17 = .ok (.invokespecial 146, 3) := by decide +kernel
theorem dX8_requireWeight_20 : decode cX8_requireWeight 20 = .ok (.athrow, 1) := by decide +kernel
theorem dX8_requireWeight_21 : decode cX8_requireWeight 21 = .ok (.return_, 1) := by decide +kernel
theorem dX8_requireDifferent_0 : decode cX8_requireDifferent 0 = .ok (.iload_n 0, 1) := by decide +kernel
theorem dX8_requireDifferent_1 : decode cX8_requireDifferent 1 = .ok (.iload_n 1, 1) := by decide +kernel
theorem dX8_requireDifferent_2 : decode cX8_requireDifferent 2 = .ok (.if_icmp .ne 14, 3) := by decide +kernel
theorem dX8_requireDifferent_5 : decode cX8_requireDifferent 5 = .ok (.new 245, 3) := by decide +kernel
theorem dX8_requireDifferent_8 : decode cX8_requireDifferent 8 = .ok (.dup, 1) := by decide +kernel
theorem dX8_requireDifferent_9 : decode cX8_requireDifferent 9 = .ok (.ldc_w 302, 3) := by decide +kernel
theorem dX8_requireDifferent_12 : decode cX8_requireDifferent 12 = .ok (.invokespecial 249, 3) := by decide +kernel
theorem dX8_requireDifferent_15 : decode cX8_requireDifferent 15 = .ok (.athrow, 1) := by decide +kernel
theorem dX8_requireDifferent_16 : decode cX8_requireDifferent 16 = .ok (.return_, 1) := by decide +kernel
theorem dX8_requireVertex_0 : decode cX8_requireVertex 0 = .ok (.aload_n 0, 1) := by decide +kernel
theorem dX8_requireVertex_1 : decode cX8_requireVertex 1 = .ok (.getfield 10, 3) := by decide +kernel
theorem dX8_requireVertex_4 : decode cX8_requireVertex 4 = .ok (.iload_n 1, 1) := by decide +kernel
theorem dX8_requireVertex_5 : decode cX8_requireVertex 5 = .ok (.invokevirtual 304, 3) := by decide +kernel
theorem dX8_requireVertex_8 : decode cX8_requireVertex 8 = .ok (.ifCond .ne 14, 3) := by decide +kernel
theorem dX8_requireVertex_11 : decode cX8_requireVertex 11 = .ok (.new 307, 3) := by decide +kernel
theorem dX8_requireVertex_14 : decode cX8_requireVertex 14 = .ok (.dup, 1) := by decide +kernel
theorem dX8_requireVertex_15 : decode cX8_requireVertex 15 = .ok (.ldc_w 309, 3) := by decide +kernel
theorem dX8_requireVertex_18 : decode cX8_requireVertex 18 = .ok (.invokespecial 311, 3) := by decide +kernel
theorem dX8_requireVertex_21 : decode cX8_requireVertex 21 = .ok (.athrow, 1) := by decide +kernel
theorem dX8_requireVertex_22 : decode cX8_requireVertex 22 = .ok (.return_, 1) := by decide +kernel
theorem dX8_requireVertices_0 : decode cX8_requireVertices 0 = .ok (.aload_n 0, 1) := by decide +kernel
theorem dX8_requireVertices_1 : decode cX8_requireVertices 1 = .ok (.iload_n 1, 1) := by decide +kernel
theorem dX8_requireVertices_2 : decode cX8_requireVertices 2 = .ok (.invokevirtual 92, 3) := by decide +kernel
theorem dX8_requireVertices_5 : decode cX8_requireVertices 5 = .ok (.aload_n 0, 1) := by decide +kernel
theorem dX8_requireVertices_6 : decode cX8_requireVertices 6 = .ok (.iload_n 2, 1) := by decide +kernel
theorem dX8_requireVertices_7 : decode cX8_requireVertices 7 = .ok (.invokevirtual 92, 3) := by decide +kernel
theorem dX8_requireVertices_10 : decode cX8_requireVertices 10 = .ok (.return_, 1) := by decide +kernel
theorem dX8_requireEdge_0 : decode cX8_requireEdge 0 = .ok (.aload_n 0, 1) := by decide +kernel
theorem dX8_requireEdge_1 : decode cX8_requireEdge 1 = .ok (.getfield 10, 3) := by decide +kernel
theorem dX8_requireEdge_4 : decode cX8_requireEdge 4 = .ok (.iload_n 1, 1) := by decide +kernel
theorem dX8_requireEdge_5 : decode cX8_requireEdge 5 = .ok (.invokevirtual 312, 3) := by decide +kernel
theorem dX8_requireEdge_8 : decode cX8_requireEdge 8 = .ok (.ifCond .ne 14, 3) := by decide +kernel
theorem dX8_requireEdge_11 : decode cX8_requireEdge 11 = .ok (.new 307, 3) := by decide +kernel
theorem dX8_requireEdge_14 : decode cX8_requireEdge 14 = .ok (.dup, 1) := by decide +kernel
theorem dX8_requireEdge_15 : decode cX8_requireEdge 15 = .ok (.ldc_w 315, 3) := by decide +kernel
theorem dX8_requireEdge_18 : decode cX8_requireEdge 18 = .ok (.invokespecial 311, 3) := by decide +kernel
theorem dX8_requireEdge_21 : decode cX8_requireEdge 21 = .ok (.athrow, 1) := by decide +kernel
theorem dX8_requireEdge_22 : decode cX8_requireEdge 22 = .ok (.return_, 1) := by decide +kernel
theorem dX8_requirePresent_0 : decode cX8_requirePresent 0 = .ok (.aload_n 0, 1) := by decide +kernel
theorem dX8_requirePresent_1 : decode cX8_requirePresent 1 = .ok (.getfield 10, 3) := by decide +kernel
theorem dX8_requirePresent_4 : decode cX8_requirePresent 4 = .ok (.iload_n 1, 1) := by decide +kernel
theorem dX8_requirePresent_5 : decode cX8_requirePresent 5 = .ok (.invokevirtual 156, 3) := by decide +kernel
theorem dX8_requirePresent_8 : decode cX8_requirePresent 8 = .ok (.ifCond .ne 14, 3) := by decide +kernel
theorem dX8_requirePresent_11 : decode cX8_requirePresent 11 = .ok (.new 81, 3) := by decide +kernel
theorem dX8_requirePresent_14 : decode cX8_requirePresent 14 = .ok (.dup, 1) := by decide +kernel
theorem dX8_requirePresent_15 : decode cX8_requirePresent 15 = .ok (.ldc_w 317, 3) := by decide +kernel
theorem dX8_requirePresent_18 : decode cX8_requirePresent 18 = .ok (.invokespecial 85, 3) := by decide +kernel
theorem dX8_requirePresent_21 : decode cX8_requirePresent 21 = .ok (.athrow, 1) := by decide +kernel
theorem dX8_requirePresent_22 : decode cX8_requirePresent 22 = .ok (.return_, 1) := by decide +kernel
theorem dX8_requireInForest_0 : decode cX8_requireInForest 0 = .ok (.aload_n 0, 1) := by decide +kernel
theorem dX8_requireInForest_1 : decode cX8_requireInForest 1 = .ok (.getfield 21, 3) := by decide +kernel
theorem dX8_requireInForest_4 : decode cX8_requireInForest 4 = .ok (.iload_n 1, 1) := by decide +kernel
theorem dX8_requireInForest_5 : decode cX8_requireInForest 5 = .ok (.invokevirtual 160, 3) := by decide +kernel
theorem dX8_requireInForest_8 : decode cX8_requireInForest 8 = .ok (.ifCond .ne 14, 3) := by decide +kernel
theorem dX8_requireInForest_11 : decode cX8_requireInForest 11 = .ok (.new 81, 3) := by decide +kernel
theorem dX8_requireInForest_14 : decode cX8_requireInForest 14 = .ok (.dup, 1) := by decide +kernel
theorem dX8_requireInForest_15 : decode cX8_requireInForest 15 = .ok (.ldc_w 319, 3) := by decide +kernel
theorem dX8_requireInForest_18 : decode cX8_requireInForest 18 = .ok (.invokespecial 85, 3) := by decide +kernel
theorem dX8_requireInForest_21 : decode cX8_requireInForest 21 = .ok (.athrow, 1) := by decide +kernel
theorem dX8_requireInForest_22 : decode cX8_requireInForest 22 = .ok (.return_, 1) := by decide +kernel
theorem dX8_requireReplacement_0 : decode cX8_requireReplacement 0 = .ok (.iload_n 0, 1) := by decide +kernel
theorem dX8_requireReplacement_1 : decode cX8_requireReplacement 1 = .ok (.iconst (-1), 1) := by decide +kernel
theorem dX8_requireReplacement_2 : decode cX8_requireReplacement 2 = .ok (.if_icmp .ne 14, 3) := by decide +kernel
theorem dX8_requireReplacement_5 : decode cX8_requireReplacement 5 = .ok (.new 167, 3) := by decide +kernel
theorem dX8_requireReplacement_8 : decode cX8_requireReplacement 8 = .ok (.dup, 1) := by decide +kernel
theorem dX8_requireReplacement_9 : decode cX8_requireReplacement 9 = .ok (.ldc_w 321, 3) := by decide +kernel
theorem dX8_requireReplacement_12 : decode cX8_requireReplacement 12 = .ok (.invokespecial 171, 3) := by decide +kernel
theorem dX8_requireReplacement_15 : decode cX8_requireReplacement 15 = .ok (.athrow, 1) := by decide +kernel
theorem dX8_requireReplacement_16 : decode cX8_requireReplacement 16 = .ok (.iload_n 0, 1) := by decide +kernel
theorem dX8_requireReplacement_17 : decode cX8_requireReplacement 17 = .ok (.ireturn, 1) := by decide +kernel
theorem dX8_requireInTree_0 : decode cX8_requireInTree 0 = .ok (.aload_n 0, 1) := by decide +kernel
theorem dX8_requireInTree_1 : decode cX8_requireInTree 1 = .ok (.getfield 30, 3) := by decide +kernel
theorem dX8_requireInTree_4 : decode cX8_requireInTree 4 = .ok (.iload_n 1, 1) := by decide +kernel
theorem dX8_requireInTree_5 : decode cX8_requireInTree 5 = .ok (.invokevirtual 201, 3) := by decide +kernel
theorem dX8_requireInTree_8 : decode cX8_requireInTree 8 = .ok (.ifCond .ne 14, 3) := by decide +kernel
theorem dX8_requireInTree_11 : decode cX8_requireInTree 11 = .ok (.new 167, 3) := by decide +kernel
theorem dX8_requireInTree_14 : decode cX8_requireInTree 14 = .ok (.dup, 1) := by decide +kernel
theorem dX8_requireInTree_15 : decode cX8_requireInTree 15 = .ok (.ldc_w 323, 3) := by decide +kernel
theorem dX8_requireInTree_18 : decode cX8_requireInTree 18 = .ok (.invokespecial 171, 3) := by decide +kernel
theorem dX8_requireInTree_21 : decode cX8_requireInTree 21 = .ok (.athrow, 1) := by decide +kernel
theorem dX8_requireInTree_22 : decode cX8_requireInTree 22 = .ok (.return_, 1) := by decide +kernel
theorem dX8_requireDistance_0 : decode cX8_requireDistance 0 = .ok (.iload_n 2, 1) := by decide +kernel
theorem dX8_requireDistance_1 : decode cX8_requireDistance 1 = .ok (.iconst 0, 1) := by decide +kernel
theorem dX8_requireDistance_2 : decode cX8_requireDistance 2 = .ok (.aload_n 0, 1) := by decide +kernel
theorem dX8_requireDistance_3 : decode cX8_requireDistance 3 = .ok (.getfield 30, 3) := by decide +kernel
theorem dX8_requireDistance_6 : decode cX8_requireDistance 6 = .ok (.iload_n 1, 1) := by decide +kernel
theorem dX8_requireDistance_7 : decode cX8_requireDistance 7 = .ok (.invokevirtual 153, 3) := by decide +kernel
theorem dX8_requireDistance_10 : decode cX8_requireDistance 10 = .ok (.invokestatic 138, 3) := by decide +kernel
theorem dX8_requireDistance_13 : decode cX8_requireDistance 13 = .ok (.ifCond .ne 14, 3) := by decide +kernel
theorem dX8_requireDistance_16 : decode cX8_requireDistance 16 = .ok (.new 142, 3) := by decide +kernel
theorem dX8_requireDistance_19 : decode cX8_requireDistance 19 = .ok (.dup, 1) := by decide +kernel
theorem dX8_requireDistance_20 : decode cX8_requireDistance 20 = .ok (.ldc_w 325, 3) := by decide +kernel
theorem dX8_requireDistance_23 : decode cX8_requireDistance 23 = .ok (.invokespecial 146, 3) := by decide +kernel
theorem dX8_requireDistance_26 : decode cX8_requireDistance 26 = .ok (.athrow, 1) := by decide +kernel
theorem dX8_requireDistance_27 : decode cX8_requireDistance 27 = .ok (.return_, 1) := by decide +kernel
theorem dX8_plantHolding_0 : decode cX8_plantHolding 0 = .ok (.aload_n 0, 1) := by decide +kernel
theorem dX8_plantHolding_1 : decode cX8_plantHolding 1 = .ok (.getfield 30, 3) := by decide +kernel
theorem dX8_plantHolding_4 : decode cX8_plantHolding 4 = .ok (.iload_n 1, 1) := by decide +kernel
theorem dX8_plantHolding_5 : decode cX8_plantHolding 5 = .ok (.iconst (-1), 1) := by decide +kernel
theorem dX8_plantHolding_6 : decode cX8_plantHolding 6 = .ok (.invokevirtual 198, 3) := by decide +kernel
theorem dX8_plantHolding_9 : decode cX8_plantHolding 9 = .ok (.aload_n 0, 1) := by decide +kernel
theorem dX8_plantHolding_10 : decode cX8_plantHolding 10 = .ok (.iload_n 2, 1) := by decide +kernel
theorem dX8_plantHolding_11 : decode cX8_plantHolding 11 = .ok (.invokevirtual 258, 3) := by decide +kernel
theorem dX8_plantHolding_14 : decode cX8_plantHolding 14 = .ok (.return_, 1) := by decide +kernel
theorem dX8_greatestDepth_0 : decode cX8_greatestDepth 0 = .ok (.iconst 0, 1) := by decide +kernel
theorem dX8_greatestDepth_1 : decode cX8_greatestDepth 1 = .ok (.istore_n 1, 1) := by decide +kernel
theorem dX8_greatestDepth_2 : decode cX8_greatestDepth 2 = .ok (.iconst 0, 1) := by decide +kernel
theorem dX8_greatestDepth_3 : decode cX8_greatestDepth 3 = .ok (.istore_n 2, 1) := by decide +kernel
theorem dX8_greatestDepth_4 : decode cX8_greatestDepth 4 = .ok (.iload_n 2, 1) := by decide +kernel
theorem dX8_greatestDepth_5 : decode cX8_greatestDepth 5 = .ok (.aload_n 0, 1) := by decide +kernel
theorem dX8_greatestDepth_6 : decode cX8_greatestDepth 6 = .ok (.getfield 10, 3) := by decide +kernel
theorem dX8_greatestDepth_9 : decode cX8_greatestDepth 9 = .ok (.invokevirtual 77, 3) := by decide +kernel
theorem dX8_greatestDepth_12 : decode cX8_greatestDepth 12 = .ok (.if_icmp .ge 33, 3) := by decide +kernel
theorem dX8_greatestDepth_15 : decode cX8_greatestDepth 15 = .ok (.aload_n 0, 1) := by decide +kernel
theorem dX8_greatestDepth_16 : decode cX8_greatestDepth 16 = .ok (.getfield 30, 3) := by decide +kernel
theorem dX8_greatestDepth_19 : decode cX8_greatestDepth 19 = .ok (.iload_n 2, 1) := by decide +kernel
theorem dX8_greatestDepth_20 : decode cX8_greatestDepth 20 = .ok (.invokevirtual 201, 3) := by decide +kernel
theorem dX8_greatestDepth_23 : decode cX8_greatestDepth 23 = .ok (.ifCond .eq 16, 3) := by decide +kernel
theorem dX8_greatestDepth_26 : decode cX8_greatestDepth 26 = .ok (.iload_n 1, 1) := by decide +kernel
theorem dX8_greatestDepth_27 : decode cX8_greatestDepth 27 = .ok (.aload_n 0, 1) := by decide +kernel
theorem dX8_greatestDepth_28 : decode cX8_greatestDepth 28 = .ok (.getfield 30, 3) := by decide +kernel
theorem dX8_greatestDepth_31 : decode cX8_greatestDepth 31 = .ok (.iload_n 2, 1) := by decide +kernel
theorem dX8_greatestDepth_32 : decode cX8_greatestDepth 32 = .ok (.invokevirtual 153, 3) := by decide +kernel
theorem dX8_greatestDepth_35 : decode cX8_greatestDepth 35 = .ok (.invokestatic 293, 3) := by decide +kernel
theorem dX8_greatestDepth_38 : decode cX8_greatestDepth 38 = .ok (.istore_n 1, 1) := by decide +kernel
theorem dX8_greatestDepth_39 : decode cX8_greatestDepth 39 = .ok (.iinc 2 1, 3) := by decide +kernel
theorem dX8_greatestDepth_42 : decode cX8_greatestDepth 42 = .ok (.goto (-38), 3) := by decide +kernel
theorem dX8_greatestDepth_45 : decode cX8_greatestDepth 45 = .ok (.iload_n 1, 1) := by decide +kernel
theorem dX8_greatestDepth_46 : decode cX8_greatestDepth 46 = .ok (.ireturn, 1) := by decide +kernel
theorem dX8_quotient_0 : decode cX8_quotient 0 = .ok (.iload_n 1, 1) := by decide +kernel
theorem dX8_quotient_1 : decode cX8_quotient 1 = .ok (.ifCond .ne 7, 3) := by decide +kernel
theorem dX8_quotient_4 : decode cX8_quotient 4 = .ok (.fconst 0, 1) := by decide +kernel
theorem dX8_quotient_5 : decode cX8_quotient 5 = .ok (.goto 8, 3) := by decide +kernel
theorem dX8_quotient_8 : decode cX8_quotient 8 = .ok (.iload_n 0, 1) := by decide +kernel
theorem dX8_quotient_9 : decode cX8_quotient 9 = .ok (.i2f, 1) := by decide +kernel
theorem dX8_quotient_10 : decode cX8_quotient 10 = .ok (.iload_n 1, 1) := by decide +kernel
theorem dX8_quotient_11 : decode cX8_quotient 11 = .ok (.i2f, 1) := by decide +kernel
theorem dX8_quotient_12 : decode cX8_quotient 12 = .ok (.fdiv, 1) := by decide +kernel
theorem dX8_quotient_13 : decode cX8_quotient 13 = .ok (.freturn, 1) := by decide +kernel
theorem dX9_init_0 : decode cX9_init 0 = .ok (.aload_n 0, 1) := by decide +kernel
theorem dX9_init_1 : decode cX9_init 1 = .ok (.invokespecial 1, 3) := by decide +kernel
theorem dX9_init_4 : decode cX9_init 4 = .ok (.aload_n 0, 1) := by decide +kernel
theorem dX9_init_5 : decode cX9_init 5 = .ok (.bipush 20, 2) := by decide +kernel
theorem dX9_init_7 : decode cX9_init 7 = .ok (.newarray .int, 2) := by decide +kernel
theorem dX9_init_9 : decode cX9_init 9 = .ok (.putfield 9, 3) := by decide +kernel
theorem dX9_init_12 : decode cX9_init 12 = .ok (.aload_n 0, 1) := by decide +kernel
theorem dX9_init_13 : decode cX9_init 13 = .ok (.bipush 60, 2) := by decide +kernel
theorem dX9_init_15 : decode cX9_init 15 = .ok (.newarray .int, 2) := by decide +kernel
theorem dX9_init_17 : decode cX9_init 17 = .ok (.putfield 13, 3) := by decide +kernel
theorem dX9_init_20 : decode cX9_init 20 = .ok (.aload_n 0, 1) := by decide +kernel
theorem dX9_init_21 : decode cX9_init 21 = .ok (.bipush 60, 2) := by decide +kernel
theorem dX9_init_23 : decode cX9_init 23 = .ok (.newarray .int, 2) := by decide +kernel
theorem dX9_init_25 : decode cX9_init 25 = .ok (.putfield 16, 3) := by decide +kernel
theorem dX9_init_28 : decode cX9_init 28 = .ok (.aload_n 0, 1) := by decide +kernel
theorem dX9_init_29 : decode cX9_init 29 = .ok (.bipush 60, 2) := by decide +kernel
theorem dX9_init_31 : decode cX9_init 31 = .ok (.newarray .int, 2) := by decide +kernel
theorem dX9_init_33 : decode cX9_init 33 = .ok (.putfield 19, 3) := by decide +kernel
theorem dX9_init_36 : decode cX9_init 36 = .ok (.aload_n 0, 1) := by decide +kernel
theorem dX9_init_37 : decode cX9_init 37 = .ok (.bipush 60, 2) := by decide +kernel
theorem dX9_init_39 : decode cX9_init 39 = .ok (.newarray .int, 2) := by decide +kernel
theorem dX9_init_41 : decode cX9_init 41 = .ok (.putfield 22, 3) := by decide +kernel
theorem dX9_init_44 : decode cX9_init 44 = .ok (.aload_n 0, 1) := by decide +kernel
theorem dX9_init_45 : decode cX9_init 45 = .ok (.bipush 20, 2) := by decide +kernel
theorem dX9_init_47 : decode cX9_init 47 = .ok (.newarray .int, 2) := by decide +kernel
theorem dX9_init_49 : decode cX9_init 49 = .ok (.putfield 25, 3) := by decide +kernel
theorem dX9_init_52 : decode cX9_init 52 = .ok (.aload_n 0, 1) := by decide +kernel
theorem dX9_init_53 : decode cX9_init 53 = .ok (.bipush 60, 2) := by decide +kernel
theorem dX9_init_55 : decode cX9_init 55 = .ok (.newarray .boolean, 2) := by decide +kernel
theorem dX9_init_57 : decode cX9_init 57 = .ok (.putfield 28, 3) := by decide +kernel
theorem dX9_init_60 : decode cX9_init 60 = .ok (.aload_n 0, 1) := by decide +kernel
theorem dX9_init_61 : decode cX9_init 61 = .ok (.bipush 60, 2) := by decide +kernel
theorem dX9_init_63 : decode cX9_init 63 = .ok (.newarray .boolean, 2) := by decide +kernel
theorem dX9_init_65 : decode cX9_init 65 = .ok (.putfield 32, 3) := by decide +kernel
theorem dX9_init_68 : decode cX9_init 68 = .ok (.aload_n 0, 1) := by decide +kernel
theorem dX9_init_69 : decode cX9_init 69 = .ok (.bipush 60, 2) := by decide +kernel
theorem dX9_init_71 : decode cX9_init 71 = .ok (.newarray .boolean, 2) := by decide +kernel
theorem dX9_init_73 : decode cX9_init 73 = .ok (.putfield 35, 3) := by decide +kernel
theorem dX9_init_76 : decode cX9_init 76 = .ok (.aload_n 0, 1) := by decide +kernel
theorem dX9_init_77 : decode cX9_init 77 = .ok (.bipush 20, 2) := by decide +kernel
theorem dX9_init_79 : decode cX9_init 79 = .ok (.newarray .int, 2) := by decide +kernel
theorem dX9_init_81 : decode cX9_init 81 = .ok (.putfield 38, 3) := by decide +kernel
theorem dX9_init_84 : decode cX9_init 84 = .ok (.aload_n 0, 1) := by decide +kernel
theorem dX9_init_85 : decode cX9_init 85 = .ok (.bipush 20, 2) := by decide +kernel
theorem dX9_init_87 : decode cX9_init 87 = .ok (.newarray .int, 2) := by decide +kernel
theorem dX9_init_89 : decode cX9_init 89 = .ok (.putfield 41, 3) := by decide +kernel
theorem dX9_init_92 : decode cX9_init 92 = .ok (.aload_n 0, 1) := by decide +kernel
theorem dX9_init_93 : decode cX9_init 93 = .ok (.bipush 20, 2) := by decide +kernel
theorem dX9_init_95 : decode cX9_init 95 = .ok (.newarray .int, 2) := by decide +kernel
theorem dX9_init_97 : decode cX9_init 97 = .ok (.putfield 44, 3) := by decide +kernel
theorem dX9_init_100 : decode cX9_init 100 = .ok (.aload_n 0, 1) := by decide +kernel
theorem dX9_init_101 : decode cX9_init 101 = .ok (.bipush 20, 2) := by decide +kernel
theorem dX9_init_103 : decode cX9_init 103 = .ok (.newarray .int, 2) := by decide +kernel
theorem dX9_init_105 : decode cX9_init 105 = .ok (.putfield 47, 3) := by decide +kernel
theorem dX9_init_108 : decode cX9_init 108 = .ok (.aload_n 0, 1) := by decide +kernel
theorem dX9_init_109 : decode cX9_init 109 = .ok (.bipush 20, 2) := by decide +kernel
theorem dX9_init_111 : decode cX9_init 111 = .ok (.newarray .int, 2) := by decide +kernel
theorem dX9_init_113 : decode cX9_init 113 = .ok (.putfield 50, 3) := by decide +kernel
theorem dX9_init_116 : decode cX9_init 116 = .ok (.return_, 1) := by decide +kernel
theorem dX9_thrown_0 : decode cX9_thrown 0 = .ok (.aload_n 0, 1) := by decide +kernel
theorem dX9_thrown_1 : decode cX9_thrown 1 = .ok (.getfield 53, 3) := by decide +kernel
theorem dX9_thrown_4 : decode cX9_thrown 4 = .ok (.ireturn, 1) := by decide +kernel
theorem dX9_fails_0 : decode cX9_fails 0 = .ok (.aload_n 0, 1) := by decide +kernel
theorem dX9_fails_1 : decode cX9_fails 1 = .ok (.iload_n 1, 1) := by decide +kernel
theorem dX9_fails_2 : decode cX9_fails 2 = .ok (.putfield 53, 3) := by decide +kernel
theorem dX9_fails_5 : decode cX9_fails 5 = .ok (.iconst 0, 1) := by decide +kernel
theorem dX9_fails_6 : decode cX9_fails 6 = .ok (.ireturn, 1) := by decide +kernel
theorem dX9_isBetween_0 : decode cX9_isBetween 0 = .ok (.iload_n 1, 1) := by decide +kernel
theorem dX9_isBetween_1 : decode cX9_isBetween 1 = .ok (.iload_n 0, 1) := by decide +kernel
theorem dX9_isBetween_2 : decode cX9_isBetween 2 = .ok (.if_icmp .gt 12, 3) := by decide +kernel
theorem dX9_isBetween_5 : decode cX9_isBetween 5 = .ok (.iload_n 0, 1) := by decide +kernel
theorem dX9_isBetween_6 : decode cX9_isBetween 6 = .ok (.iload_n 2, 1) := by decide +kernel
theorem dX9_isBetween_7 : decode cX9_isBetween 7 = .ok (.if_icmp .gt 7, 3) := by decide +kernel
theorem dX9_isBetween_10 : decode cX9_isBetween 10 = .ok (.iconst 1, 1) := by decide +kernel
theorem dX9_isBetween_11 : decode cX9_isBetween 11 = .ok (.goto 4, 3) := by decide +kernel
theorem dX9_isBetween_14 : decode cX9_isBetween 14 = .ok (.iconst 0, 1) := by decide +kernel
theorem dX9_isBetween_15 : decode cX9_isBetween 15 = .ok (.ireturn, 1) := by decide +kernel
theorem dX9_isVertex_0 : decode cX9_isVertex 0 = .ok (.iload_n 1, 1) := by decide +kernel
theorem dX9_isVertex_1 : decode cX9_isVertex 1 = .ok (.iconst 0, 1) := by decide +kernel
theorem dX9_isVertex_2 : decode cX9_isVertex 2 = .ok (.aload_n 0, 1) := by decide +kernel
theorem dX9_isVertex_3 : decode cX9_isVertex 3 = .ok (.getfield 57, 3) := by decide +kernel
theorem dX9_isVertex_6 : decode cX9_isVertex 6 = .ok (.iconst 1, 1) := by decide +kernel
theorem dX9_isVertex_7 : decode cX9_isVertex 7 = .ok (.isub, 1) := by decide +kernel
theorem dX9_isVertex_8 : decode cX9_isVertex 8 = .ok (.invokestatic 60, 3) := by decide +kernel
theorem dX9_isVertex_11 : decode cX9_isVertex 11 = .ok (.ireturn, 1) := by decide +kernel
theorem dX9_isEdge_0 : decode cX9_isEdge 0 = .ok (.iload_n 1, 1) := by decide +kernel
theorem dX9_isEdge_1 : decode cX9_isEdge 1 = .ok (.iconst 0, 1) := by decide +kernel
theorem dX9_isEdge_2 : decode cX9_isEdge 2 = .ok (.aload_n 0, 1) := by decide +kernel
theorem dX9_isEdge_3 : decode cX9_isEdge 3 = .ok (.getfield 64, 3) := by decide +kernel
theorem dX9_isEdge_6 : decode cX9_isEdge 6 = .ok (.iconst 1, 1) := by decide +kernel
theorem dX9_isEdge_7 : decode cX9_isEdge 7 = .ok (.isub, 1) := by decide +kernel
theorem dX9_isEdge_8 : decode cX9_isEdge 8 = .ok (.invokestatic 60, 3) := by decide +kernel
theorem dX9_isEdge_11 : decode cX9_isEdge 11 = .ok (.ireturn, 1) := by decide +kernel
theorem dX9_comesBefore_0 : decode cX9_comesBefore 0 = .ok (.aload_n 0, 1) := by decide +kernel
theorem dX9_comesBefore_1 : decode cX9_comesBefore 1 = .ok (.getfield 19, 3) := by decide +kernel
theorem dX9_comesBefore_4 : decode cX9_comesBefore 4 = .ok (.iload_n 1, 1) := by decide +kernel
theorem dX9_comesBefore_5 : decode cX9_comesBefore 5 = .ok (.iaload, 1) := by decide +kernel
theorem dX9_comesBefore_6 : decode cX9_comesBefore 6 = .ok (.aload_n 0, 1) := by decide +kernel
theorem dX9_comesBefore_7 : decode cX9_comesBefore 7 = .ok (.getfield 19, 3) := by decide +kernel
theorem dX9_comesBefore_10 : decode cX9_comesBefore 10 = .ok (.iload_n 2, 1) := by decide +kernel
theorem dX9_comesBefore_11 : decode cX9_comesBefore 11 = .ok (.iaload, 1) := by decide +kernel
theorem dX9_comesBefore_12 : decode cX9_comesBefore 12 = .ok (.if_icmp .eq 26, 3) := by decide +kernel
theorem dX9_comesBefore_15 : decode cX9_comesBefore 15 = .ok (.aload_n 0, 1) := by decide +kernel
theorem dX9_comesBefore_16 : decode cX9_comesBefore 16 = .ok (.getfield 19, 3) := by decide +kernel
theorem dX9_comesBefore_19 : decode cX9_comesBefore 19 = .ok (.iload_n 1, 1) := by decide +kernel
theorem dX9_comesBefore_20 : decode cX9_comesBefore 20 = .ok (.iaload, 1) := by decide +kernel
theorem dX9_comesBefore_21 : decode cX9_comesBefore 21 = .ok (.aload_n 0, 1) := by decide +kernel
theorem dX9_comesBefore_22 : decode cX9_comesBefore 22 = .ok (.getfield 19, 3) := by decide +kernel
theorem dX9_comesBefore_25 : decode cX9_comesBefore 25 = .ok (.iload_n 2, 1) := by decide +kernel
theorem dX9_comesBefore_26 : decode cX9_comesBefore 26 = .ok (.iaload, 1) := by decide +kernel
theorem dX9_comesBefore_27 : decode cX9_comesBefore 27 = .ok (.if_icmp .ge 7, 3) := by decide +kernel
theorem dX9_comesBefore_30 : decode cX9_comesBefore 30 = .ok (.iconst 1, 1) := by decide +kernel
theorem dX9_comesBefore_31 : decode cX9_comesBefore 31 = .ok (.goto 17, 3) := by decide +kernel
theorem dX9_comesBefore_34 : decode cX9_comesBefore 34 = .ok (.iconst 0, 1) := by decide +kernel
theorem dX9_comesBefore_35 : decode cX9_comesBefore 35 = .ok (.goto 13, 3) := by decide +kernel
theorem dX9_comesBefore_38 : decode cX9_comesBefore 38 = .ok (.iload_n 1, 1) := by decide +kernel
theorem dX9_comesBefore_39 : decode cX9_comesBefore 39 = .ok (.iload_n 2, 1) := by decide +kernel
theorem dX9_comesBefore_40 : decode cX9_comesBefore 40 = .ok (.if_icmp .ge 7, 3) := by decide +kernel
theorem dX9_comesBefore_43 : decode cX9_comesBefore 43 = .ok (.iconst 1, 1) := by decide +kernel
theorem dX9_comesBefore_44 : decode cX9_comesBefore 44 = .ok (.goto 4, 3) := by decide +kernel
theorem dX9_comesBefore_47 : decode cX9_comesBefore 47 = .ok (.iconst 0, 1) := by decide +kernel
theorem dX9_comesBefore_48 : decode cX9_comesBefore 48 = .ok (.ireturn, 1) := by decide +kernel
theorem dX9_sorts_0 : decode cX9_sorts 0 = .ok (.iconst 0, 1) := by decide +kernel
theorem dX9_sorts_1 : decode cX9_sorts 1 = .ok (.istore_n 1, 1) := by decide +kernel
theorem dX9_sorts_2 : decode cX9_sorts 2 = .ok (.iload_n 1, 1) := by decide +kernel
theorem dX9_sorts_3 : decode cX9_sorts 3 = .ok (.aload_n 0, 1) := by decide +kernel
theorem dX9_sorts_4 : decode cX9_sorts 4 = .ok (.getfield 64, 3) := by decide +kernel
theorem dX9_sorts_7 : decode cX9_sorts 7 = .ok (.if_icmp .ge 58, 3) := by decide +kernel
theorem dX9_sorts_10 : decode cX9_sorts 10 = .ok (.iload_n 1, 1) := by decide +kernel
theorem dX9_sorts_11 : decode cX9_sorts 11 = .ok (.istore_n 2, 1) := by decide +kernel
theorem dX9_sorts_12 : decode cX9_sorts 12 = .ok (.iload_n 2, 1) := by decide +kernel
theorem dX9_sorts_13 : decode cX9_sorts 13 = .ok (.ifCond .le 39, 3) := by decide +kernel
theorem dX9_sorts_16 : decode cX9_sorts 16 = .ok (.aload_n 0, 1) := by decide +kernel
theorem dX9_sorts_17 : decode cX9_sorts 17 = .ok (.iload_n 1, 1) := by decide +kernel
theorem dX9_sorts_18 : decode cX9_sorts 18 = .ok (.aload_n 0, 1) := by decide +kernel
theorem dX9_sorts_19 : decode cX9_sorts 19 = .ok (.getfield 22, 3) := by decide +kernel
theorem dX9_sorts_22 : decode cX9_sorts 22 = .ok (.iload_n 2, 1) := by decide +kernel
theorem dX9_sorts_23 : decode cX9_sorts 23 = .ok (.iconst 1, 1) := by decide +kernel
theorem dX9_sorts_24 : decode cX9_sorts 24 = .ok (.isub, 1) := by decide +kernel
theorem dX9_sorts_25 : decode cX9_sorts 25 = .ok (.iaload, 1) := by decide +kernel
theorem dX9_sorts_26 : decode cX9_sorts 26 = .ok (.invokevirtual 67, 3) := by decide +kernel
theorem dX9_sorts_29 : decode cX9_sorts 29 = .ok (.ifCond .eq 23, 3) := by decide +kernel
theorem dX9_sorts_32 : decode cX9_sorts 32 = .ok (.aload_n 0, 1) := by decide +kernel
theorem dX9_sorts_33 : decode cX9_sorts 33 = .ok (.getfield 22, 3) := by decide +kernel
theorem dX9_sorts_36 : decode cX9_sorts 36 = .ok (.iload_n 2, 1) := by decide +kernel
theorem dX9_sorts_37 : decode cX9_sorts 37 = .ok (.aload_n 0, 1) := by decide +kernel
theorem dX9_sorts_38 : decode cX9_sorts 38 = .ok (.getfield 22, 3) := by decide +kernel
theorem dX9_sorts_41 : decode cX9_sorts 41 = .ok (.iload_n 2, 1) := by decide +kernel
theorem dX9_sorts_42 : decode cX9_sorts 42 = .ok (.iconst 1, 1) := by decide +kernel
theorem dX9_sorts_43 : decode cX9_sorts 43 = .ok (.isub, 1) := by decide +kernel
theorem dX9_sorts_44 : decode cX9_sorts 44 = .ok (.iaload, 1) := by decide +kernel
theorem dX9_sorts_45 : decode cX9_sorts 45 = .ok (.iastore, 1) := by decide +kernel
theorem dX9_sorts_46 : decode cX9_sorts 46 = .ok (.iinc 2 (-1), 3) := by decide +kernel
theorem dX9_sorts_49 : decode cX9_sorts 49 = .ok (.goto (-37), 3) := by decide +kernel
theorem dX9_sorts_52 : decode cX9_sorts 52 = .ok (.aload_n 0, 1) := by decide +kernel
theorem dX9_sorts_53 : decode cX9_sorts 53 = .ok (.getfield 22, 3) := by decide +kernel
theorem dX9_sorts_56 : decode cX9_sorts 56 = .ok (.iload_n 2, 1) := by decide +kernel
theorem dX9_sorts_57 : decode cX9_sorts 57 = .ok (.iload_n 1, 1) := by decide +kernel
theorem dX9_sorts_58 : decode cX9_sorts 58 = .ok (.iastore, 1) := by decide +kernel
theorem dX9_sorts_59 : decode cX9_sorts 59 = .ok (.iinc 1 1, 3) := by decide +kernel
theorem dX9_sorts_62 : decode cX9_sorts 62 = .ok (.goto (-60), 3) := by decide +kernel
theorem dX9_sorts_65 : decode cX9_sorts 65 = .ok (.return_, 1) := by decide +kernel
theorem dX9_finds_0 : decode cX9_finds 0 = .ok (.aload_n 0, 1) := by decide +kernel
theorem dX9_finds_1 : decode cX9_finds 1 = .ok (.invokevirtual 71, 3) := by decide +kernel
theorem dX9_finds_4 : decode cX9_finds 4 = .ok (.iconst 0, 1) := by decide +kernel
theorem dX9_finds_5 : decode cX9_finds 5 = .ok (.istore_n 3, 1) := by decide +kernel
theorem dX9_finds_6 : decode cX9_finds 6 = .ok (.iload_n 3, 1) := by decide +kernel
theorem dX9_finds_7 : decode cX9_finds 7 = .ok (.aload_n 0, 1) := by decide +kernel
theorem dX9_finds_8 : decode cX9_finds 8 = .ok (.getfield 57, 3) := by decide +kernel
theorem dX9_finds_11 : decode cX9_finds 11 = .ok (.if_icmp .ge 16, 3) := by decide +kernel
theorem dX9_finds_14 : decode cX9_finds 14 = .ok (.aload_n 0, 1) := by decide +kernel
theorem dX9_finds_15 : decode cX9_finds 15 = .ok (.getfield 25, 3) := by decide +kernel
theorem dX9_finds_18 : decode cX9_finds 18 = .ok (.iload_n 3, 1) := by decide +kernel
theorem dX9_finds_19 : decode cX9_finds 19 = .ok (.iload_n 3, 1) := by decide +kernel
theorem dX9_finds_20 : decode cX9_finds 20 = .ok (.iastore, 1) := by decide +kernel
theorem dX9_finds_21 : decode cX9_finds 21 = .ok (.iinc 3 1, 3) := by decide +kernel
theorem dX9_finds_24 : decode cX9_finds 24 = .ok (.goto (-18), 3) := by decide +kernel
theorem dX9_finds_27 : decode cX9_finds 27 = .ok (.iconst 0, 1) := by decide +kernel
theorem dX9_finds_28 : decode cX9_finds 28 = .ok (.istore_n 3, 1) := by decide +kernel
theorem dX9_finds_29 : decode cX9_finds 29 = .ok (.iload_n 3, 1) := by decide +kernel
theorem dX9_finds_30 : decode cX9_finds 30 = .ok (.aload_n 0, 1) := by decide +kernel
theorem dX9_finds_31 : decode cX9_finds 31 = .ok (.getfield 64, 3) := by decide +kernel
theorem dX9_finds_34 : decode cX9_finds 34 = .ok (.if_icmp .ge 126, 3) := by decide +kernel
theorem dX9_finds_37 : decode cX9_finds 37 = .ok (.aload_n 0, 1) := by decide +kernel
theorem dX9_finds_38 : decode cX9_finds 38 = .ok (.getfield 22, 3) := by decide +kernel
theorem dX9_finds_41 : decode cX9_finds 41 = .ok (.iload_n 3, 1) := by decide +kernel
theorem dX9_finds_42 : decode cX9_finds 42 = .ok (.iaload, 1) := by decide +kernel
theorem dX9_finds_43 : decode cX9_finds 43 = .ok (.istore 4, 2) := by decide +kernel
theorem dX9_finds_45 : decode cX9_finds 45 = .ok (.aload_n 0, 1) := by decide +kernel
theorem dX9_finds_46 : decode cX9_finds 46 = .ok (.getfield 25, 3) := by decide +kernel
theorem dX9_finds_49 : decode cX9_finds 49 = .ok (.aload_n 0, 1) := by decide +kernel
theorem dX9_finds_50 : decode cX9_finds 50 = .ok (.getfield 13, 3) := by decide +kernel
theorem dX9_finds_53 : decode cX9_finds 53 = .ok (.iload 4, 2) := by decide +kernel
theorem dX9_finds_55 : decode cX9_finds 55 = .ok (.iaload, 1) := by decide +kernel
theorem dX9_finds_56 : decode cX9_finds 56 = .ok (.iaload, 1) := by decide +kernel
theorem dX9_finds_57 : decode cX9_finds 57 = .ok (.istore 5, 2) := by decide +kernel
theorem dX9_finds_59 : decode cX9_finds 59 = .ok (.aload_n 0, 1) := by decide +kernel
theorem dX9_finds_60 : decode cX9_finds 60 = .ok (.getfield 25, 3) := by decide +kernel
theorem dX9_finds_63 : decode cX9_finds 63 = .ok (.aload_n 0, 1) := by decide +kernel
theorem dX9_finds_64 : decode cX9_finds 64 = .ok (.getfield 16, 3) := by decide +kernel
theorem dX9_finds_67 : decode cX9_finds 67 = .ok (.iload 4, 2) := by decide +kernel
theorem dX9_finds_69 : decode cX9_finds 69 = .ok (.iaload, 1) := by decide +kernel
theorem dX9_finds_70 : decode cX9_finds 70 = .ok (.iaload, 1) := by decide +kernel
theorem dX9_finds_71 : decode cX9_finds 71 = .ok (.istore 6, 2) := by decide +kernel
theorem dX9_finds_73 : decode cX9_finds 73 = .ok (.aload_n 2, 1) := by decide +kernel
theorem dX9_finds_74 : decode cX9_finds 74 = .ok (.iload 4, 2) := by decide +kernel
theorem dX9_finds_76 : decode cX9_finds 76 = .ok (.aload_n 0, 1) := by decide +kernel
theorem dX9_finds_77 : decode cX9_finds 77 = .ok (.getfield 28, 3) := by decide +kernel
theorem dX9_finds_80 : decode cX9_finds 80 = .ok (.iload 4, 2) := by decide +kernel
theorem dX9_finds_82 : decode cX9_finds 82 = .ok (.baload, 1) := by decide +kernel
theorem dX9_finds_83 : decode cX9_finds 83 = .ok (.ifCond .eq 20, 3) := by decide +kernel
theorem dX9_finds_86 : decode cX9_finds 86 = .ok (.iload 4, 2) := by decide +kernel
theorem dX9_finds_88 : decode cX9_finds 88 = .ok (.iload_n 1, 1) := by decide +kernel
theorem dX9_finds_89 : decode cX9_finds 89 = .ok (.if_icmp .eq 14, 3) := by decide +kernel
theorem dX9_finds_92 : decode cX9_finds 92 = .ok (.iload 5, 2) := by decide +kernel
theorem dX9_finds_94 : decode cX9_finds 94 = .ok (.iload 6, 2) := by decide +kernel
theorem dX9_finds_96 : decode cX9_finds 96 = .ok (.if_icmp .eq 7, 3) := by decide +kernel
theorem dX9_finds_99 : decode cX9_finds 99 = .ok (.iconst 1, 1) := by decide +kernel
theorem dX9_finds_100 : decode cX9_finds 100 = .ok (.goto 4, 3) := by decide +kernel
theorem dX9_finds_103 : decode cX9_finds 103 = .ok (.iconst 0, 1) := by decide +kernel
theorem dX9_finds_104 : decode cX9_finds 104 = .ok (.bastore, 1) := by decide +kernel
theorem dX9_finds_105 : decode cX9_finds 105 = .ok (.aload_n 2, 1) := by decide +kernel
theorem dX9_finds_106 : decode cX9_finds 106 = .ok (.iload 4, 2) := by decide +kernel
theorem dX9_finds_108 : decode cX9_finds 108 = .ok (.baload, 1) := by decide +kernel
theorem dX9_finds_109 : decode cX9_finds 109 = .ok (.ifCond .ne 6, 3) := by decide +kernel
theorem dX9_finds_112 : decode cX9_finds 112 = .ok (.goto 42, 3) := by decide +kernel
theorem dX9_finds_115 : decode cX9_finds 115 = .ok (.iconst 0, 1) := by decide +kernel
theorem dX9_finds_116 : decode cX9_finds 116 = .ok (.istore 7, 2) := by decide +kernel
theorem dX9_finds_118 : decode cX9_finds 118 = .ok (.iload 7, 2) := by decide +kernel
theorem dX9_finds_120 : decode cX9_finds 120 = .ok (.aload_n 0, 1) := by decide +kernel
theorem dX9_finds_121 : decode cX9_finds 121 = .ok (.getfield 57, 3) := by decide +kernel
theorem dX9_finds_124 : decode cX9_finds 124 = .ok (.if_icmp .ge 30, 3) := by decide +kernel
theorem dX9_finds_127 : decode cX9_finds 127 = .ok (.aload_n 0, 1) := by decide +kernel
theorem dX9_finds_128 : decode cX9_finds 128 = .ok (.getfield 25, 3) := by decide +kernel
theorem dX9_finds_131 : decode cX9_finds 131 = .ok (.iload 7, 2) := by decide +kernel
theorem dX9_finds_133 : decode cX9_finds 133 = .ok (.iaload, 1) := by decide +kernel
theorem dX9_finds_134 : decode cX9_finds 134 = .ok (.iload 6, 2) := by decide +kernel
theorem dX9_finds_136 : decode cX9_finds 136 = .ok (.if_icmp .ne 12, 3) := by decide +kernel
theorem dX9_finds_139 : decode cX9_finds 139 = .ok (.aload_n 0, 1) := by decide +kernel
theorem dX9_finds_140 : decode cX9_finds 140 = .ok (.getfield 25, 3) := by decide +kernel
theorem dX9_finds_143 : decode cX9_finds 143 = .ok (.iload 7, 2) := by decide +kernel
theorem dX9_finds_145 : decode cX9_finds 145 = .ok (.iload 5, 2) := by decide +kernel
theorem dX9_finds_147 : decode cX9_finds 147 = .ok (.iastore, 1) := by decide +kernel
theorem dX9_finds_148 : decode cX9_finds 148 = .ok (.iinc 7 1, 3) := by decide +kernel
theorem dX9_finds_151 : decode cX9_finds 151 = .ok (.goto (-33), 3) := by decide +kernel
theorem dX9_finds_154 : decode cX9_finds 154 = .ok (.iinc 3 1, 3) := by decide +kernel
theorem dX9_finds_157 : decode cX9_finds 157 = .ok (.goto (-128), 3) := by decide +kernel
theorem dX9_finds_160 : decode cX9_finds 160 = .ok (.return_, 1) := by decide +kernel
theorem dX9_finds__0 : decode cX9_finds_ 0 = .ok (.aload_n 0, 1) := by decide +kernel
theorem dX9_finds__1 : decode cX9_finds_ 1 = .ok (.iconst (-1), 1) := by decide +kernel
theorem dX9_finds__2 : decode cX9_finds_ 2 = .ok (.aload_n 0, 1) := by decide +kernel
theorem dX9_finds__3 : decode cX9_finds_ 3 = .ok (.getfield 32, 3) := by decide +kernel
theorem dX9_finds__6 : decode cX9_finds_ 6 = .ok (.invokevirtual 74, 3) := by decide +kernel
theorem dX9_finds__9 : decode cX9_finds_ 9 = .ok (.return_, 1) := by decide +kernel
theorem dX9_addVertex_0 : decode cX9_addVertex 0 = .ok (.aload_n 0, 1) := by decide +kernel
theorem dX9_addVertex_1 : decode cX9_addVertex 1 = .ok (.iconst 0, 1) := by decide +kernel
theorem dX9_addVertex_2 : decode cX9_addVertex 2 = .ok (.putfield 53, 3) := by decide +kernel
theorem dX9_addVertex_5 : decode cX9_addVertex 5 = .ok (.iload_n 1, 1) := by decide +kernel
theorem dX9_addVertex_6 : decode cX9_addVertex 6 = .ok (.bipush (-99), 2) := by decide +kernel
theorem dX9_addVertex_8 : decode cX9_addVertex 8 = .ok (.bipush 99, 2) := by decide +kernel
theorem dX9_addVertex_10 : decode cX9_addVertex 10 = .ok (.invokestatic 60, 3) := by decide +kernel
theorem dX9_addVertex_13 : decode cX9_addVertex 13 = .ok (.ifCond .ne 9, 3) := by decide +kernel
theorem dX9_addVertex_16 : decode cX9_addVertex 16 = .ok (.aload_n 0, 1) := by decide +kernel
theorem dX9_addVertex_17 : decode cX9_addVertex 17 = .ok (.iconst 1, 1) := by decide +kernel
theorem dX9_addVertex_18 : decode cX9_addVertex 18 = .ok (.invokevirtual 78, 3) := by decide +kernel
theorem dX9_addVertex_21 : decode cX9_addVertex 21 = .ok (.ireturn, 1) := by decide +kernel
theorem dX9_addVertex_22 : decode cX9_addVertex 22 = .ok (.aload_n 0, 1) := by decide +kernel
theorem dX9_addVertex_23 : decode cX9_addVertex 23 = .ok (.getfield 57, 3) := by decide +kernel
theorem dX9_addVertex_26 : decode cX9_addVertex 26 = .ok (.bipush 20, 2) := by decide +kernel
theorem dX9_addVertex_28 : decode cX9_addVertex 28 = .ok (.if_icmp .ne 9, 3) := by decide +kernel
theorem dX9_addVertex_31 : decode cX9_addVertex 31 = .ok (.aload_n 0, 1) := by decide +kernel
theorem dX9_addVertex_32 : decode cX9_addVertex 32 = .ok (.iconst 2, 1) := by decide +kernel
theorem dX9_addVertex_33 : decode cX9_addVertex 33 = .ok (.invokevirtual 78, 3) := by decide +kernel
theorem dX9_addVertex_36 : decode cX9_addVertex 36 = .ok (.ireturn, 1) := by decide +kernel
theorem dX9_addVertex_37 : decode cX9_addVertex 37 = .ok (.aload_n 0, 1) := by decide +kernel
theorem dX9_addVertex_38 : decode cX9_addVertex 38 = .ok (.getfield 9, 3) := by decide +kernel
theorem dX9_addVertex_41 : decode cX9_addVertex 41 = .ok (.aload_n 0, 1) := by decide +kernel
theorem dX9_addVertex_42 : decode cX9_addVertex 42 = .ok (.getfield 57, 3) := by decide +kernel
theorem dX9_addVertex_45 : decode cX9_addVertex 45 = .ok (.iload_n 1, 1) := by decide +kernel
theorem dX9_addVertex_46 : decode cX9_addVertex 46 = .ok (.iastore, 1) := by decide +kernel
theorem dX9_addVertex_47 : decode cX9_addVertex 47 = .ok (.aload_n 0, 1) := by decide +kernel
theorem dX9_addVertex_48 : decode cX9_addVertex 48 = .ok (.dup, 1) := by decide +kernel
theorem dX9_addVertex_49 : decode cX9_addVertex 49 = .ok (.getfield 57, 3) := by decide +kernel
theorem dX9_addVertex_52 : decode cX9_addVertex 52 = .ok (.iconst 1, 1) := by decide +kernel
theorem dX9_addVertex_53 : decode cX9_addVertex 53 = .ok (.iadd, 1) := by decide +kernel
theorem dX9_addVertex_54 : decode cX9_addVertex 54 = .ok (.putfield 57, 3) := by decide +kernel
theorem dX9_addVertex_57 : decode cX9_addVertex 57 = .ok (.aload_n 0, 1) := by decide +kernel
theorem dX9_addVertex_58 : decode cX9_addVertex 58 = .ok (.invokevirtual 82, 3) := by decide +kernel
theorem dX9_addVertex_61 : decode cX9_addVertex 61 = .ok (.aload_n 0, 1) := by decide +kernel
theorem dX9_addVertex_62 : decode cX9_addVertex 62 = .ok (.getfield 57, 3) := by decide +kernel
theorem dX9_addVertex_65 : decode cX9_addVertex 65 = .ok (.iconst 1, 1) := by decide +kernel
theorem dX9_addVertex_66 : decode cX9_addVertex 66 = .ok (.isub, 1) := by decide +kernel
theorem dX9_addVertex_67 : decode cX9_addVertex 67 = .ok (.ireturn, 1) := by decide +kernel
theorem dX9_setValue_0 : decode cX9_setValue 0 = .ok (.aload_n 0, 1) := by decide +kernel
theorem dX9_setValue_1 : decode cX9_setValue 1 = .ok (.iconst 0, 1) := by decide +kernel
theorem dX9_setValue_2 : decode cX9_setValue 2 = .ok (.putfield 53, 3) := by decide +kernel
theorem dX9_setValue_5 : decode cX9_setValue 5 = .ok (.aload_n 0, 1) := by decide +kernel
theorem dX9_setValue_6 : decode cX9_setValue 6 = .ok (.iload_n 1, 1) := by decide +kernel
theorem dX9_setValue_7 : decode cX9_setValue 7 = .ok (.invokevirtual 84, 3) := by decide +kernel
theorem dX9_setValue_10 : decode cX9_setValue 10 = .ok (.ifCond .ne 9, 3) := by decide +kernel
theorem dX9_setValue_13 : decode cX9_setValue 13 = .ok (.aload_n 0, 1) := by decide +kernel
theorem dX9_setValue_14 : decode cX9_setValue 14 = .ok (.iconst 1, 1) := by decide +kernel
theorem dX9_setValue_15 : decode cX9_setValue 15 = .ok (.invokevirtual 78, 3) := by decide +kernel
theorem dX9_setValue_18 : decode cX9_setValue 18 = .ok (.ireturn, 1) := by decide +kernel
theorem dX9_setValue_19 : decode cX9_setValue 19 = .ok (.iload_n 2, 1) := by decide +kernel
theorem dX9_setValue_20 : decode cX9_setValue 20 = .ok (.bipush (-99), 2) := by decide +kernel
theorem dX9_setValue_22 : decode cX9_setValue 22 = .ok (.bipush 99, 2) := by decide +kernel
theorem dX9_setValue_24 : decode cX9_setValue 24 = .ok (.invokestatic 60, 3) := by decide +kernel
theorem dX9_setValue_27 : decode cX9_setValue 27 = .ok (.ifCond .ne 9, 3) := by decide +kernel
theorem dX9_setValue_30 : decode cX9_setValue 30 = .ok (.aload_n 0, 1) := by decide +kernel
theorem dX9_setValue_31 : decode cX9_setValue 31 = .ok (.iconst 2, 1) := by decide +kernel
theorem dX9_setValue_32 : decode cX9_setValue 32 = .ok (.invokevirtual 78, 3) := by decide +kernel
theorem dX9_setValue_35 : decode cX9_setValue 35 = .ok (.ireturn, 1) := by decide +kernel
theorem dX9_setValue_36 : decode cX9_setValue 36 = .ok (.aload_n 0, 1) := by decide +kernel
theorem dX9_setValue_37 : decode cX9_setValue 37 = .ok (.getfield 9, 3) := by decide +kernel
theorem dX9_setValue_40 : decode cX9_setValue 40 = .ok (.iload_n 1, 1) := by decide +kernel
theorem dX9_setValue_41 : decode cX9_setValue 41 = .ok (.iaload, 1) := by decide +kernel
theorem dX9_setValue_42 : decode cX9_setValue 42 = .ok (.istore_n 3, 1) := by decide +kernel
theorem dX9_setValue_43 : decode cX9_setValue 43 = .ok (.aload_n 0, 1) := by decide +kernel
theorem dX9_setValue_44 : decode cX9_setValue 44 = .ok (.getfield 9, 3) := by decide +kernel
theorem dX9_setValue_47 : decode cX9_setValue 47 = .ok (.iload_n 1, 1) := by decide +kernel
theorem dX9_setValue_48 : decode cX9_setValue 48 = .ok (.iload_n 2, 1) := by decide +kernel
theorem dX9_setValue_49 : decode cX9_setValue 49 = .ok (.iastore, 1) := by decide +kernel
theorem dX9_setValue_50 : decode cX9_setValue 50 = .ok (.iload_n 3, 1) := by decide +kernel
theorem dX9_setValue_51 : decode cX9_setValue 51 = .ok (.ireturn, 1) := by decide +kernel
theorem dX9_addEdge_0 : decode cX9_addEdge 0 = .ok (.aload_n 0, 1) := by decide +kernel
theorem dX9_addEdge_1 : decode cX9_addEdge 1 = .ok (.iconst 0, 1) := by decide +kernel
theorem dX9_addEdge_2 : decode cX9_addEdge 2 = .ok (.putfield 53, 3) := by decide +kernel
theorem dX9_addEdge_5 : decode cX9_addEdge 5 = .ok (.aload_n 0, 1) := by decide +kernel
theorem dX9_addEdge_6 : decode cX9_addEdge 6 = .ok (.iload_n 1, 1) := by decide +kernel
theorem dX9_addEdge_7 : decode cX9_addEdge 7 = .ok (.invokevirtual 84, 3) := by decide +kernel
theorem dX9_addEdge_10 : decode cX9_addEdge 10 = .ok (.ifCond .eq 11, 3) := by decide +kernel
theorem dX9_addEdge_13 : decode cX9_addEdge 13 = .ok (.aload_n 0, 1) := by decide +kernel
theorem dX9_addEdge_14 : decode cX9_addEdge 14 = .ok (.iload_n 2, 1) := by decide +kernel
theorem dX9_addEdge_15 : decode cX9_addEdge 15 = .ok (.invokevirtual 84, 3) := by decide +kernel
theorem dX9_addEdge_18 : decode cX9_addEdge 18 = .ok (.ifCond .ne 9, 3) := by decide +kernel
theorem dX9_addEdge_21 : decode cX9_addEdge 21 = .ok (.aload_n 0, 1) := by decide +kernel
theorem dX9_addEdge_22 : decode cX9_addEdge 22 = .ok (.iconst 1, 1) := by decide +kernel
theorem dX9_addEdge_23 : decode cX9_addEdge 23 = .ok (.invokevirtual 78, 3) := by decide +kernel
theorem dX9_addEdge_26 : decode cX9_addEdge 26 = .ok (.ireturn, 1) := by decide +kernel
theorem dX9_addEdge_27 : decode cX9_addEdge 27 = .ok (.iload_n 3, 1) := by decide +kernel
theorem dX9_addEdge_28 : decode cX9_addEdge 28 = .ok (.iconst 1, 1) := by decide +kernel
theorem dX9_addEdge_29 : decode cX9_addEdge 29 = .ok (.bipush 99, 2) := by decide +kernel
theorem dX9_addEdge_31 : decode cX9_addEdge 31 = .ok (.invokestatic 60, 3) := by decide +kernel
theorem dX9_addEdge_34 : decode cX9_addEdge 34 = .ok (.ifCond .ne 9, 3) := by decide +kernel
theorem dX9_addEdge_37 : decode cX9_addEdge 37 = .ok (.aload_n 0, 1) := by decide +kernel
theorem dX9_addEdge_38 : decode cX9_addEdge 38 = .ok (.iconst 2, 1) := by decide +kernel
theorem dX9_addEdge_39 : decode cX9_addEdge 39 = .ok (.invokevirtual 78, 3) := by decide +kernel
theorem dX9_addEdge_42 : decode cX9_addEdge 42 = .ok (.ireturn, 1) := by decide +kernel
theorem dX9_addEdge_43 : decode cX9_addEdge 43 = .ok (.iload_n 1, 1) := by decide +kernel
theorem dX9_addEdge_44 : decode cX9_addEdge 44 = .ok (.iload_n 2, 1) := by decide +kernel
theorem dX9_addEdge_45 : decode cX9_addEdge 45 = .ok (.if_icmp .ne 9, 3) := by decide +kernel
theorem dX9_addEdge_48 : decode cX9_addEdge 48 = .ok (.aload_n 0, 1) := by decide +kernel
theorem dX9_addEdge_49 : decode cX9_addEdge 49 = .ok (.iconst 3, 1) := by decide +kernel
theorem dX9_addEdge_50 : decode cX9_addEdge 50 = .ok (.invokevirtual 78, 3) := by decide +kernel
theorem dX9_addEdge_53 : decode cX9_addEdge 53 = .ok (.ireturn, 1) := by decide +kernel
theorem dX9_addEdge_54 : decode cX9_addEdge 54 = .ok (.aload_n 0, 1) := by decide +kernel
theorem dX9_addEdge_55 : decode cX9_addEdge 55 = .ok (.getfield 64, 3) := by decide +kernel
theorem dX9_addEdge_58 : decode cX9_addEdge 58 = .ok (.bipush 60, 2) := by decide +kernel
theorem dX9_addEdge_60 : decode cX9_addEdge 60 = .ok (.if_icmp .ne 9, 3) := by decide +kernel
theorem dX9_addEdge_63 : decode cX9_addEdge 63 = .ok (.aload_n 0, 1) := by decide +kernel
theorem dX9_addEdge_64 : decode cX9_addEdge 64 = .ok (.iconst 4, 1) := by decide +kernel
theorem dX9_addEdge_65 : decode cX9_addEdge 65 = .ok (.invokevirtual 78, 3) := by decide +kernel
theorem dX9_addEdge_68 : decode cX9_addEdge 68 = .ok (.ireturn, 1) := by decide +kernel
theorem dX9_addEdge_69 : decode cX9_addEdge 69 = .ok (.aload_n 0, 1) := by decide +kernel
theorem dX9_addEdge_70 : decode cX9_addEdge 70 = .ok (.getfield 13, 3) := by decide +kernel
theorem dX9_addEdge_73 : decode cX9_addEdge 73 = .ok (.aload_n 0, 1) := by decide +kernel
theorem dX9_addEdge_74 : decode cX9_addEdge 74 = .ok (.getfield 64, 3) := by decide +kernel
theorem dX9_addEdge_77 : decode cX9_addEdge 77 = .ok (.iload_n 1, 1) := by decide +kernel
theorem dX9_addEdge_78 : decode cX9_addEdge 78 = .ok (.iastore, 1) := by decide +kernel
theorem dX9_addEdge_79 : decode cX9_addEdge 79 = .ok (.aload_n 0, 1) := by decide +kernel
theorem dX9_addEdge_80 : decode cX9_addEdge 80 = .ok (.getfield 16, 3) := by decide +kernel
theorem dX9_addEdge_83 : decode cX9_addEdge 83 = .ok (.aload_n 0, 1) := by decide +kernel
theorem dX9_addEdge_84 : decode cX9_addEdge 84 = .ok (.getfield 64, 3) := by decide +kernel
theorem dX9_addEdge_87 : decode cX9_addEdge 87 = .ok (.iload_n 2, 1) := by decide +kernel
theorem dX9_addEdge_88 : decode cX9_addEdge 88 = .ok (.iastore, 1) := by decide +kernel
theorem dX9_addEdge_89 : decode cX9_addEdge 89 = .ok (.aload_n 0, 1) := by decide +kernel
theorem dX9_addEdge_90 : decode cX9_addEdge 90 = .ok (.getfield 19, 3) := by decide +kernel
theorem dX9_addEdge_93 : decode cX9_addEdge 93 = .ok (.aload_n 0, 1) := by decide +kernel
theorem dX9_addEdge_94 : decode cX9_addEdge 94 = .ok (.getfield 64, 3) := by decide +kernel
theorem dX9_addEdge_97 : decode cX9_addEdge 97 = .ok (.iload_n 3, 1) := by decide +kernel
theorem dX9_addEdge_98 : decode cX9_addEdge 98 = .ok (.iastore, 1) := by decide +kernel
theorem dX9_addEdge_99 : decode cX9_addEdge 99 = .ok (.aload_n 0, 1) := by decide +kernel
theorem dX9_addEdge_100 : decode cX9_addEdge 100 = .ok (.getfield 28, 3) := by decide +kernel
theorem dX9_addEdge_103 : decode cX9_addEdge 103 = .ok (.aload_n 0, 1) := by decide +kernel
theorem dX9_addEdge_104 : decode cX9_addEdge 104 = .ok (.getfield 64, 3) := by decide +kernel
theorem dX9_addEdge_107 : decode cX9_addEdge 107 = .ok (.iconst 1, 1) := by decide +kernel
theorem dX9_addEdge_108 : decode cX9_addEdge 108 = .ok (.bastore, 1) := by decide +kernel
theorem dX9_addEdge_109 : decode cX9_addEdge 109 = .ok (.aload_n 0, 1) := by decide +kernel
theorem dX9_addEdge_110 : decode cX9_addEdge 110 = .ok (.dup, 1) := by decide +kernel
theorem dX9_addEdge_111 : decode cX9_addEdge 111 = .ok (.getfield 64, 3) := by decide +kernel
theorem dX9_addEdge_114 : decode cX9_addEdge 114 = .ok (.iconst 1, 1) := by decide +kernel
theorem dX9_addEdge_115 : decode cX9_addEdge 115 = .ok (.iadd, 1) := by decide +kernel
theorem dX9_addEdge_116 : decode cX9_addEdge 116 = .ok (.putfield 64, 3) := by decide +kernel
theorem dX9_addEdge_119 : decode cX9_addEdge 119 = .ok (.aload_n 0, 1) := by decide +kernel
theorem dX9_addEdge_120 : decode cX9_addEdge 120 = .ok (.invokevirtual 82, 3) := by decide +kernel
theorem dX9_addEdge_123 : decode cX9_addEdge 123 = .ok (.aload_n 0, 1) := by decide +kernel
theorem dX9_addEdge_124 : decode cX9_addEdge 124 = .ok (.getfield 64, 3) := by decide +kernel
theorem dX9_addEdge_127 : decode cX9_addEdge 127 = .ok (.iconst 1, 1) := by decide +kernel
theorem dX9_addEdge_128 : decode cX9_addEdge 128 = .ok (.isub, 1) := by decide +kernel
theorem dX9_addEdge_129 : decode cX9_addEdge 129 = .ok (.ireturn, 1) := by decide +kernel
theorem dX9_joining_0 : decode cX9_joining 0 = .ok (.aload_n 0, 1) := by decide +kernel
theorem dX9_joining_1 : decode cX9_joining 1 = .ok (.iload_n 1, 1) := by decide +kernel
theorem dX9_joining_2 : decode cX9_joining 2 = .ok (.aload_n 0, 1) := by decide +kernel
theorem dX9_joining_3 : decode cX9_joining 3 = .ok (.getfield 35, 3) := by decide +kernel
theorem dX9_joining_6 : decode cX9_joining 6 = .ok (.invokevirtual 74, 3) := by decide +kernel
theorem dX9_joining_9 : decode cX9_joining 9 = .ok (.iconst (-1), 1) := by decide +kernel
theorem dX9_joining_10 : decode cX9_joining 10 = .ok (.istore_n 2, 1) := by decide +kernel
theorem dX9_joining_11 : decode cX9_joining 11 = .ok (.iconst 0, 1) := by decide +kernel
theorem dX9_joining_12 : decode cX9_joining 12 = .ok (.istore_n 3, 1) := by decide +kernel
theorem dX9_joining_13 : decode cX9_joining 13 = .ok (.iload_n 3, 1) := by decide +kernel
theorem dX9_joining_14 : decode cX9_joining 14 = .ok (.aload_n 0, 1) := by decide +kernel
theorem dX9_joining_15 : decode cX9_joining 15 = .ok (.getfield 64, 3) := by decide +kernel
theorem dX9_joining_18 : decode cX9_joining 18 = .ok (.if_icmp .ge 29, 3) := by decide +kernel
theorem dX9_joining_21 : decode cX9_joining 21 = .ok (.aload_n 0, 1) := by decide +kernel
theorem dX9_joining_22 : decode cX9_joining 22 = .ok (.getfield 35, 3) := by decide +kernel
theorem dX9_joining_25 : decode cX9_joining 25 = .ok (.iload_n 3, 1) := by decide +kernel
theorem dX9_joining_26 : decode cX9_joining 26 = .ok (.baload, 1) := by decide +kernel
theorem dX9_joining_27 : decode cX9_joining 27 = .ok (.ifCond .eq 14, 3) := by decide +kernel
theorem dX9_joining_30 : decode cX9_joining 30 = .ok (.aload_n 0, 1) := by decide +kernel
theorem dX9_joining_31 : decode cX9_joining 31 = .ok (.getfield 32, 3) := by decide +kernel
theorem dX9_joining_34 : decode cX9_joining 34 = .ok (.iload_n 3, 1) := by decide +kernel
theorem dX9_joining_35 : decode cX9_joining 35 = .ok (.baload, 1) := by decide +kernel
theorem dX9_joining_36 : decode cX9_joining 36 = .ok (.ifCond .ne 5, 3) := by decide +kernel
theorem dX9_joining_39 : decode cX9_joining 39 = .ok (.iload_n 3, 1) := by decide +kernel
theorem dX9_joining_40 : decode cX9_joining 40 = .ok (.istore_n 2, 1) := by decide +kernel
theorem dX9_joining_41 : decode cX9_joining 41 = .ok (.iinc 3 1, 3) := by decide +kernel
theorem dX9_joining_44 : decode cX9_joining 44 = .ok (.goto (-31), 3) := by decide +kernel
theorem dX9_joining_47 : decode cX9_joining 47 = .ok (.aload_n 0, 1) := by decide +kernel
theorem dX9_joining_48 : decode cX9_joining 48 = .ok (.invokevirtual 82, 3) := by decide +kernel
theorem dX9_joining_51 : decode cX9_joining 51 = .ok (.iload_n 2, 1) := by decide +kernel
theorem dX9_joining_52 : decode cX9_joining 52 = .ok (.ireturn, 1) := by decide +kernel
theorem dX9_removeEdge_0 : decode cX9_removeEdge 0 = .ok (.aload_n 0, 1) := by decide +kernel
theorem dX9_removeEdge_1 : decode cX9_removeEdge 1 = .ok (.iconst 0, 1) := by decide +kernel
theorem dX9_removeEdge_2 : decode cX9_removeEdge 2 = .ok (.putfield 53, 3) := by decide +kernel
theorem dX9_removeEdge_5 : decode cX9_removeEdge 5 = .ok (.aload_n 0, 1) := by decide +kernel
theorem dX9_removeEdge_6 : decode cX9_removeEdge 6 = .ok (.iload_n 1, 1) := by decide +kernel
theorem dX9_removeEdge_7 : decode cX9_removeEdge 7 = .ok (.invokevirtual 88, 3) := by decide +kernel
theorem dX9_removeEdge_10 : decode cX9_removeEdge 10 = .ok (.ifCond .ne 9, 3) := by decide +kernel
theorem dX9_removeEdge_13 : decode cX9_removeEdge 13 = .ok (.aload_n 0, 1) := by decide +kernel
theorem dX9_removeEdge_14 : decode cX9_removeEdge 14 = .ok (.iconst 1, 1) := by decide +kernel
theorem dX9_removeEdge_15 : decode cX9_removeEdge 15 = .ok (.invokevirtual 78, 3) := by decide +kernel
theorem dX9_removeEdge_18 : decode cX9_removeEdge 18 = .ok (.ireturn, 1) := by decide +kernel
theorem dX9_removeEdge_19 : decode cX9_removeEdge 19 = .ok (.aload_n 0, 1) := by decide +kernel
theorem dX9_removeEdge_20 : decode cX9_removeEdge 20 = .ok (.getfield 28, 3) := by decide +kernel
theorem dX9_removeEdge_23 : decode cX9_removeEdge 23 = .ok (.iload_n 1, 1) := by decide +kernel
theorem dX9_removeEdge_24 : decode cX9_removeEdge 24 = .ok (.baload, 1) := by decide +kernel
theorem dX9_removeEdge_25 : decode cX9_removeEdge 25 = .ok (.ifCond .ne 9, 3) := by decide +kernel
theorem dX9_removeEdge_28 : decode cX9_removeEdge 28 = .ok (.aload_n 0, 1) := by decide +kernel
theorem dX9_removeEdge_29 : decode cX9_removeEdge 29 = .ok (.iconst 2, 1) := by decide +kernel
theorem dX9_removeEdge_30 : decode cX9_removeEdge 30 = .ok (.invokevirtual 78, 3) := by decide +kernel
theorem dX9_removeEdge_33 : decode cX9_removeEdge 33 = .ok (.ireturn, 1) := by decide +kernel
theorem dX9_removeEdge_34 : decode cX9_removeEdge 34 = .ok (.aload_n 0, 1) := by decide +kernel
theorem dX9_removeEdge_35 : decode cX9_removeEdge 35 = .ok (.iload_n 1, 1) := by decide +kernel
theorem dX9_removeEdge_36 : decode cX9_removeEdge 36 = .ok (.invokevirtual 91, 3) := by decide +kernel
theorem dX9_removeEdge_39 : decode cX9_removeEdge 39 = .ok (.istore_n 2, 1) := by decide +kernel
theorem dX9_removeEdge_40 : decode cX9_removeEdge 40 = .ok (.aload_n 0, 1) := by decide +kernel
theorem dX9_removeEdge_41 : decode cX9_removeEdge 41 = .ok (.getfield 28, 3) := by decide +kernel
theorem dX9_removeEdge_44 : decode cX9_removeEdge 44 = .ok (.iload_n 1, 1) := by decide +kernel
theorem dX9_removeEdge_45 : decode cX9_removeEdge 45 = .ok (.iconst 0, 1) := by decide +kernel
theorem dX9_removeEdge_46 : decode cX9_removeEdge 46 = .ok (.bastore, 1) := by decide +kernel
theorem dX9_removeEdge_47 : decode cX9_removeEdge 47 = .ok (.aload_n 0, 1) := by decide +kernel
theorem dX9_removeEdge_48 : decode cX9_removeEdge 48 = .ok (.invokevirtual 82, 3) := by decide +kernel
theorem dX9_removeEdge_51 : decode cX9_removeEdge 51 = .ok (.iload_n 2, 1) := by decide +kernel
theorem dX9_removeEdge_52 : decode cX9_removeEdge 52 = .ok (.ireturn, 1) := by decide +kernel
theorem dX9_setWeight_0 : decode cX9_setWeight 0 = .ok (.aload_n 0, 1) := by decide +kernel
theorem dX9_setWeight_1 : decode cX9_setWeight 1 = .ok (.iconst 0, 1) := by decide +kernel
theorem dX9_setWeight_2 : decode cX9_setWeight 2 = .ok (.putfield 53, 3) := by decide +kernel
theorem dX9_setWeight_5 : decode cX9_setWeight 5 = .ok (.aload_n 0, 1) := by decide +kernel
theorem dX9_setWeight_6 : decode cX9_setWeight 6 = .ok (.iload_n 1, 1) := by decide +kernel
theorem dX9_setWeight_7 : decode cX9_setWeight 7 = .ok (.invokevirtual 88, 3) := by decide +kernel
theorem dX9_setWeight_10 : decode cX9_setWeight 10 = .ok (.ifCond .ne 9, 3) := by decide +kernel
theorem dX9_setWeight_13 : decode cX9_setWeight 13 = .ok (.aload_n 0, 1) := by decide +kernel
theorem dX9_setWeight_14 : decode cX9_setWeight 14 = .ok (.iconst 1, 1) := by decide +kernel
theorem dX9_setWeight_15 : decode cX9_setWeight 15 = .ok (.invokevirtual 78, 3) := by decide +kernel
theorem dX9_setWeight_18 : decode cX9_setWeight 18 = .ok (.ireturn, 1) := by decide +kernel
theorem dX9_setWeight_19 : decode cX9_setWeight 19 = .ok (.iload_n 2, 1) := by decide +kernel
theorem dX9_setWeight_20 : decode cX9_setWeight 20 = .ok (.iconst 1, 1) := by decide +kernel
theorem dX9_setWeight_21 : decode cX9_setWeight 21 = .ok (.bipush 99, 2) := by decide +kernel
theorem dX9_setWeight_23 : decode cX9_setWeight 23 = .ok (.invokestatic 60, 3) := by decide +kernel
theorem dX9_setWeight_26 : decode cX9_setWeight 26 = .ok (.ifCond .ne 9, 3) := by decide +kernel
theorem dX9_setWeight_29 : decode cX9_setWeight 29 = .ok (.aload_n 0, 1) := by decide +kernel
theorem dX9_setWeight_30 : decode cX9_setWeight 30 = .ok (.iconst 2, 1) := by decide +kernel
theorem dX9_setWeight_31 : decode cX9_setWeight 31 = .ok (.invokevirtual 78, 3) := by decide +kernel
theorem dX9_setWeight_34 : decode cX9_setWeight 34 = .ok (.ireturn, 1) := by decide +kernel
theorem dX9_setWeight_35 : decode cX9_setWeight 35 = .ok (.aload_n 0, 1) := by decide +kernel
theorem dX9_setWeight_36 : decode cX9_setWeight 36 = .ok (.getfield 28, 3) := by decide +kernel
theorem dX9_setWeight_39 : decode cX9_setWeight 39 = .ok (.iload_n 1, 1) := by decide +kernel
theorem dX9_setWeight_40 : decode cX9_setWeight 40 = .ok (.baload, 1) := by decide +kernel
theorem dX9_setWeight_41 : decode cX9_setWeight 41 = .ok (.ifCond .ne 9, 3) := by decide +kernel
theorem dX9_setWeight_44 : decode cX9_setWeight 44 = .ok (.aload_n 0, 1) := by decide +kernel
theorem dX9_setWeight_45 : decode cX9_setWeight 45 = .ok (.iconst 3, 1) := by decide +kernel
theorem dX9_setWeight_46 : decode cX9_setWeight 46 = .ok (.invokevirtual 78, 3) := by decide +kernel
theorem dX9_setWeight_49 : decode cX9_setWeight 49 = .ok (.ireturn, 1) := by decide +kernel
theorem dX9_setWeight_50 : decode cX9_setWeight 50 = .ok (.aload_n 0, 1) := by decide +kernel
theorem dX9_setWeight_51 : decode cX9_setWeight 51 = .ok (.getfield 19, 3) := by decide +kernel
theorem dX9_setWeight_54 : decode cX9_setWeight 54 = .ok (.iload_n 1, 1) := by decide +kernel
theorem dX9_setWeight_55 : decode cX9_setWeight 55 = .ok (.iaload, 1) := by decide +kernel
theorem dX9_setWeight_56 : decode cX9_setWeight 56 = .ok (.istore_n 3, 1) := by decide +kernel
theorem dX9_setWeight_57 : decode cX9_setWeight 57 = .ok (.aload_n 0, 1) := by decide +kernel
theorem dX9_setWeight_58 : decode cX9_setWeight 58 = .ok (.getfield 19, 3) := by decide +kernel
theorem dX9_setWeight_61 : decode cX9_setWeight 61 = .ok (.iload_n 1, 1) := by decide +kernel
theorem dX9_setWeight_62 : decode cX9_setWeight 62 = .ok (.iload_n 2, 1) := by decide +kernel
theorem dX9_setWeight_63 : decode cX9_setWeight 63 = .ok (.iastore, 1) := by decide +kernel
theorem dX9_setWeight_64 : decode cX9_setWeight 64 = .ok (.aload_n 0, 1) := by decide +kernel
theorem dX9_setWeight_65 : decode cX9_setWeight 65 = .ok (.invokevirtual 82, 3) := by decide +kernel
theorem dX9_setWeight_68 : decode cX9_setWeight 68 = .ok (.iload_n 3, 1) := by decide +kernel
theorem dX9_setWeight_69 : decode cX9_setWeight 69 = .ok (.ireturn, 1) := by decide +kernel
theorem dX9_roots_0 : decode cX9_roots 0 = .ok (.iconst 0, 1) := by decide +kernel
theorem dX9_roots_1 : decode cX9_roots 1 = .ok (.istore_n 2, 1) := by decide +kernel
theorem dX9_roots_2 : decode cX9_roots 2 = .ok (.iload_n 2, 1) := by decide +kernel
theorem dX9_roots_3 : decode cX9_roots 3 = .ok (.aload_n 0, 1) := by decide +kernel
theorem dX9_roots_4 : decode cX9_roots 4 = .ok (.getfield 57, 3) := by decide +kernel
theorem dX9_roots_7 : decode cX9_roots 7 = .ok (.if_icmp .ge 31, 3) := by decide +kernel
theorem dX9_roots_10 : decode cX9_roots 10 = .ok (.aload_n 0, 1) := by decide +kernel
theorem dX9_roots_11 : decode cX9_roots 11 = .ok (.getfield 38, 3) := by decide +kernel
theorem dX9_roots_14 : decode cX9_roots 14 = .ok (.iload_n 2, 1) := by decide +kernel
theorem dX9_roots_15 : decode cX9_roots 15 = .ok (.bipush (-2), 2) := by decide +kernel
theorem dX9_roots_17 : decode cX9_roots 17 = .ok (.iastore, 1) := by decide +kernel
theorem dX9_roots_18 : decode cX9_roots 18 = .ok (.aload_n 0, 1) := by decide +kernel
theorem dX9_roots_19 : decode cX9_roots 19 = .ok (.getfield 44, 3) := by decide +kernel
theorem dX9_roots_22 : decode cX9_roots 22 = .ok (.iload_n 2, 1) := by decide +kernel
theorem dX9_roots_23 : decode cX9_roots 23 = .ok (.iconst 1, 1) := by decide +kernel
theorem dX9_roots_24 : decode cX9_roots 24 = .ok (.iastore, 1) := by decide +kernel
theorem dX9_roots_25 : decode cX9_roots 25 = .ok (.aload_n 0, 1) := by decide +kernel
theorem dX9_roots_26 : decode cX9_roots 26 = .ok (.getfield 47, 3) := by decide +kernel
theorem dX9_roots_29 : decode cX9_roots 29 = .ok (.iload_n 2, 1) := by decide +kernel
theorem dX9_roots_30 : decode cX9_roots 30 = .ok (.iconst (-1), 1) := by decide +kernel
theorem dX9_roots_31 : decode cX9_roots 31 = .ok (.iastore, 1) := by decide +kernel
theorem dX9_roots_32 : decode cX9_roots 32 = .ok (.iinc 2 1, 3) := by decide +kernel
theorem dX9_roots_35 : decode cX9_roots 35 = .ok (.goto (-33), 3) := by decide +kernel
theorem dX9_roots_38 : decode cX9_roots 38 = .ok (.aload_n 0, 1) := by decide +kernel
theorem dX9_roots_39 : decode cX9_roots 39 = .ok (.getfield 38, 3) := by decide +kernel
theorem dX9_roots_42 : decode cX9_roots 42 = .ok (.iload_n 1, 1) := by decide +kernel
theorem dX9_roots_43 : decode cX9_roots 43 = .ok (.iconst (-1), 1) := by decide +kernel
theorem dX9_roots_44 : decode cX9_roots 44 = .ok (.iastore, 1) := by decide +kernel
theorem dX9_roots_45 : decode cX9_roots 45 = .ok (.aload_n 0, 1) := by decide +kernel
theorem dX9_roots_46 : decode cX9_roots 46 = .ok (.getfield 41, 3) := by decide +kernel
theorem dX9_roots_49 : decode cX9_roots 49 = .ok (.iload_n 1, 1) := by decide +kernel
theorem dX9_roots_50 : decode cX9_roots 50 = .ok (.iconst 0, 1) := by decide +kernel
theorem dX9_roots_51 : decode cX9_roots 51 = .ok (.iastore, 1) := by decide +kernel
theorem dX9_roots_52 : decode cX9_roots 52 = .ok (.aload_n 0, 1) := by decide +kernel
theorem dX9_roots_53 : decode cX9_roots 53 = .ok (.getfield 50, 3) := by decide +kernel
theorem dX9_roots_56 : decode cX9_roots 56 = .ok (.iconst 0, 1) := by decide +kernel
theorem dX9_roots_57 : decode cX9_roots 57 = .ok (.iload_n 1, 1) := by decide +kernel
theorem dX9_roots_58 : decode cX9_roots 58 = .ok (.iastore, 1) := by decide +kernel
theorem dX9_roots_59 : decode cX9_roots 59 = .ok (.aload_n 0, 1) := by decide +kernel
theorem dX9_roots_60 : decode cX9_roots 60 = .ok (.iconst 1, 1) := by decide +kernel
theorem dX9_roots_61 : decode cX9_roots 61 = .ok (.putfield 94, 3) := by decide +kernel
theorem dX9_roots_64 : decode cX9_roots 64 = .ok (.iconst 0, 1) := by decide +kernel
theorem dX9_roots_65 : decode cX9_roots 65 = .ok (.istore_n 2, 1) := by decide +kernel
theorem dX9_roots_66 : decode cX9_roots 66 = .ok (.iload_n 2, 1) := by decide +kernel
theorem dX9_roots_67 : decode cX9_roots 67 = .ok (.aload_n 0, 1) := by decide +kernel
theorem dX9_roots_68 : decode cX9_roots 68 = .ok (.getfield 94, 3) := by decide +kernel
theorem dX9_roots_71 : decode cX9_roots 71 = .ok (.if_icmp .ge 158, 3) := by decide +kernel
theorem dX9_roots_74 : decode cX9_roots 74 = .ok (.iconst 0, 1) := by decide +kernel
theorem dX9_roots_75 : decode cX9_roots 75 = .ok (.istore_n 3, 1) := by decide +kernel
theorem dX9_roots_76 : decode cX9_roots 76 = .ok (.iload_n 3, 1) := by decide +kernel
theorem dX9_roots_77 : decode cX9_roots 77 = .ok (.aload_n 0, 1) := by decide +kernel
theorem dX9_roots_78 : decode cX9_roots 78 = .ok (.getfield 64, 3) := by decide +kernel
theorem dX9_roots_81 : decode cX9_roots 81 = .ok (.if_icmp .ge 142, 3) := by decide +kernel
theorem dX9_roots_84 : decode cX9_roots 84 = .ok (.aload_n 0, 1) := by decide +kernel
theorem dX9_roots_85 : decode cX9_roots 85 = .ok (.getfield 32, 3) := by decide +kernel
theorem dX9_roots_88 : decode cX9_roots 88 = .ok (.iload_n 3, 1) := by decide +kernel
theorem dX9_roots_89 : decode cX9_roots 89 = .ok (.baload, 1) := by decide +kernel
theorem dX9_roots_90 : decode cX9_roots 90 = .ok (.ifCond .eq 127, 3) := by decide +kernel
theorem dX9_roots_93 : decode cX9_roots 93 = .ok (.aload_n 0, 1) := by decide +kernel
theorem dX9_roots_94 : decode cX9_roots 94 = .ok (.getfield 13, 3) := by decide +kernel
theorem dX9_roots_97 : decode cX9_roots 97 = .ok (.iload_n 3, 1) := by decide +kernel
theorem dX9_roots_98 : decode cX9_roots 98 = .ok (.iaload, 1) := by decide +kernel
theorem dX9_roots_99 : decode cX9_roots 99 = .ok (.aload_n 0, 1) := by decide +kernel
theorem dX9_roots_100 : decode cX9_roots 100 = .ok (.getfield 50, 3) := by decide +kernel
theorem dX9_roots_103 : decode cX9_roots 103 = .ok (.iload_n 2, 1) := by decide +kernel
theorem dX9_roots_104 : decode cX9_roots 104 = .ok (.iaload, 1) := by decide +kernel
theorem dX9_roots_105 : decode cX9_roots 105 = .ok (.if_icmp .eq 21, 3) := by decide +kernel
theorem dX9_roots_108 : decode cX9_roots 108 = .ok (.aload_n 0, 1) := by decide +kernel
theorem dX9_roots_109 : decode cX9_roots 109 = .ok (.getfield 16, 3) := by decide +kernel
theorem dX9_roots_112 : decode cX9_roots 112 = .ok (.iload_n 3, 1) := by decide +kernel
theorem dX9_roots_113 : decode cX9_roots 113 = .ok (.iaload, 1) := by decide +kernel
theorem dX9_roots_114 : decode cX9_roots 114 = .ok (.aload_n 0, 1) := by decide +kernel
theorem dX9_roots_115 : decode cX9_roots 115 = .ok (.getfield 50, 3) := by decide +kernel
theorem dX9_roots_118 : decode cX9_roots 118 = .ok (.iload_n 2, 1) := by decide +kernel
theorem dX9_roots_119 : decode cX9_roots 119 = .ok (.iaload, 1) := by decide +kernel
theorem dX9_roots_120 : decode cX9_roots 120 = .ok (.if_icmp .eq 6, 3) := by decide +kernel
theorem dX9_roots_123 : decode cX9_roots 123 = .ok (.goto 94, 3) := by decide +kernel
theorem dX9_roots_126 : decode cX9_roots 126 = .ok (.aload_n 0, 1) := by decide +kernel
theorem dX9_roots_127 : decode cX9_roots 127 = .ok (.getfield 13, 3) := by decide +kernel
theorem dX9_roots_130 : decode cX9_roots 130 = .ok (.iload_n 3, 1) := by decide +kernel
theorem dX9_roots_131 : decode cX9_roots 131 = .ok (.iaload, 1) := by decide +kernel
theorem dX9_roots_132 : decode cX9_roots 132 = .ok (.aload_n 0, 1) := by decide +kernel
theorem dX9_roots_133 : decode cX9_roots 133 = .ok (.getfield 16, 3) := by decide +kernel
theorem dX9_roots_136 : decode cX9_roots 136 = .ok (.iload_n 3, 1) := by decide +kernel
theorem dX9_roots_137 : decode cX9_roots 137 = .ok (.iaload, 1) := by decide +kernel
theorem dX9_roots_138 : decode cX9_roots 138 = .ok (.iadd, 1) := by decide +kernel
theorem dX9_roots_139 : decode cX9_roots 139 = .ok (.aload_n 0, 1) := by decide +kernel
theorem dX9_roots_140 : decode cX9_roots 140 = .ok (.getfield 50, 3) := by decide +kernel
theorem dX9_roots_143 : decode cX9_roots 143 = .ok (.iload_n 2, 1) := by decide +kernel
theorem dX9_roots_144 : decode cX9_roots 144 = .ok (.iaload, 1) := by decide +kernel
theorem dX9_roots_145 : decode cX9_roots 145 = .ok (.isub, 1) := by decide +kernel
theorem dX9_roots_146 : decode cX9_roots 146 = .ok (.istore 4, 2) := by decide +kernel
theorem dX9_roots_148 : decode cX9_roots 148 = .ok (.aload_n 0, 1) := by decide +kernel
theorem dX9_roots_149 : decode cX9_roots 149 = .ok (.getfield 38, 3) := by decide +kernel
theorem dX9_roots_152 : decode cX9_roots 152 = .ok (.iload 4, 2) := by decide +kernel
theorem dX9_roots_154 : decode cX9_roots 154 = .ok (.iaload, 1) := by decide +kernel
theorem dX9_roots_155 : decode cX9_roots 155 = .ok (.bipush (-2), 2) := by decide +kernel
theorem dX9_roots_157 : decode cX9_roots 157 = .ok (.if_icmp .eq 6, 3) := by decide +kernel
theorem dX9_roots_160 : decode cX9_roots 160 = .ok (.goto 57, 3) := by decide +kernel
theorem dX9_roots_163 : decode cX9_roots 163 = .ok (.aload_n 0, 1) := by decide +kernel
theorem dX9_roots_164 : decode cX9_roots 164 = .ok (.getfield 38, 3) := by decide +kernel
theorem dX9_roots_167 : decode cX9_roots 167 = .ok (.iload 4, 2) := by decide +kernel
theorem dX9_roots_169 : decode cX9_roots 169 = .ok (.aload_n 0, 1) := by decide +kernel
theorem dX9_roots_170 : decode cX9_roots 170 = .ok (.getfield 50, 3) := by decide +kernel
theorem dX9_roots_173 : decode cX9_roots 173 = .ok (.iload_n 2, 1) := by decide +kernel
theorem dX9_roots_174 : decode cX9_roots 174 = .ok (.iaload, 1) := by decide +kernel
theorem dX9_roots_175 : decode cX9_roots 175 = .ok (.iastore, 1) := by decide +kernel
theorem dX9_roots_176 : decode cX9_roots 176 = .ok (.aload_n 0, 1) := by decide +kernel
theorem dX9_roots_177 : decode cX9_roots 177 = .ok (.getfield 41, 3) := by decide +kernel
theorem dX9_roots_180 : decode cX9_roots 180 = .ok (.iload 4, 2) := by decide +kernel
theorem dX9_roots_182 : decode cX9_roots 182 = .ok (.aload_n 0, 1) := by decide +kernel
theorem dX9_roots_183 : decode cX9_roots 183 = .ok (.getfield 41, 3) := by decide +kernel
theorem dX9_roots_186 : decode cX9_roots 186 = .ok (.aload_n 0, 1) := by decide +kernel
theorem dX9_roots_187 : decode cX9_roots 187 = .ok (.getfield 50, 3) := by decide +kernel
theorem dX9_roots_190 : decode cX9_roots 190 = .ok (.iload_n 2, 1) := by decide +kernel
theorem dX9_roots_191 : decode cX9_roots 191 = .ok (.iaload, 1) := by decide +kernel
theorem dX9_roots_192 : decode cX9_roots 192 = .ok (.iaload, 1) := by decide +kernel
theorem dX9_roots_193 : decode cX9_roots 193 = .ok (.iconst 1, 1) := by decide +kernel
theorem dX9_roots_194 : decode cX9_roots 194 = .ok (.iadd, 1) := by decide +kernel
theorem dX9_roots_195 : decode cX9_roots 195 = .ok (.iastore, 1) := by decide +kernel
theorem dX9_roots_196 : decode cX9_roots 196 = .ok (.aload_n 0, 1) := by decide +kernel
theorem dX9_roots_197 : decode cX9_roots 197 = .ok (.getfield 50, 3) := by decide +kernel
theorem dX9_roots_200 : decode cX9_roots 200 = .ok (.aload_n 0, 1) := by decide +kernel
theorem dX9_roots_201 : decode cX9_roots 201 = .ok (.getfield 94, 3) := by decide +kernel
theorem dX9_roots_204 : decode cX9_roots 204 = .ok (.iload 4, 2) := by decide +kernel
theorem dX9_roots_206 : decode cX9_roots 206 = .ok (.iastore, 1) := by decide +kernel
theorem dX9_roots_207 : decode cX9_roots 207 = .ok (.aload_n 0, 1) := by decide +kernel
theorem dX9_roots_208 : decode cX9_roots 208 = .ok (.dup, 1) := by decide +kernel
theorem dX9_roots_209 : decode cX9_roots 209 = .ok (.getfield 94, 3) := by decide +kernel
theorem dX9_roots_212 : decode cX9_roots 212 = .ok (.iconst 1, 1) := by decide +kernel
theorem dX9_roots_213 : decode cX9_roots 213 = .ok (.iadd, 1) := by decide +kernel
theorem dX9_roots_214 : decode cX9_roots 214 = .ok (.putfield 94, 3) := by decide +kernel
theorem dX9_roots_217 : decode cX9_roots 217 = .ok (.iinc 3 1, 3) := by decide +kernel
theorem dX9_roots_220 : decode cX9_roots 220 = .ok (.goto (-144), 3) := by decide +kernel
theorem dX9_roots_223 : decode cX9_roots 223 = .ok (.iinc 2 1, 3) := by decide +kernel
theorem dX9_roots_226 : decode cX9_roots 226 = .ok (.goto (-160), 3) := by decide +kernel
theorem dX9_roots_229 : decode cX9_roots 229 = .ok (.aload_n 0, 1) := by decide +kernel
theorem dX9_roots_230 : decode cX9_roots 230 = .ok (.getfield 94, 3) := by decide +kernel
theorem dX9_roots_233 : decode cX9_roots 233 = .ok (.iconst 1, 1) := by decide +kernel
theorem dX9_roots_234 : decode cX9_roots 234 = .ok (.isub, 1) := by decide +kernel
theorem dX9_roots_235 : decode cX9_roots 235 = .ok (.istore_n 2, 1) := by decide +kernel
theorem dX9_roots_236 : decode cX9_roots 236 = .ok (.iload_n 2, 1) := by decide +kernel
theorem dX9_roots_237 : decode cX9_roots 237 = .ok (.ifCond .le 39, 3) := by decide +kernel
theorem dX9_roots_240 : decode cX9_roots 240 = .ok (.aload_n 0, 1) := by decide +kernel
theorem dX9_roots_241 : decode cX9_roots 241 = .ok (.getfield 44, 3) := by decide +kernel
theorem dX9_roots_244 : decode cX9_roots 244 = .ok (.aload_n 0, 1) := by decide +kernel
theorem dX9_roots_245 : decode cX9_roots 245 = .ok (.getfield 38, 3) := by decide +kernel
theorem dX9_roots_248 : decode cX9_roots 248 = .ok (.aload_n 0, 1) := by decide +kernel
theorem dX9_roots_249 : decode cX9_roots 249 = .ok (.getfield 50, 3) := by decide +kernel
theorem dX9_roots_252 : decode cX9_roots 252 = .ok (.iload_n 2, 1) := by decide +kernel
theorem dX9_roots_253 : decode cX9_roots 253 = .ok (.iaload, 1) := by decide +kernel
theorem dX9_roots_254 : decode cX9_roots 254 = .ok (.iaload, 1) := by decide +kernel
theorem dX9_roots_255 : decode cX9_roots 255 = .ok (.dup2, 1) := by decide +kernel
theorem dX9_roots_256 : decode cX9_roots 256 = .ok (.iaload, 1) := by decide +kernel
theorem dX9_roots_257 : decode cX9_roots 257 = .ok (.aload_n 0, 1) := by decide +kernel
theorem dX9_roots_258 : decode cX9_roots 258 = .ok (.getfield 44, 3) := by decide +kernel
theorem dX9_roots_261 : decode cX9_roots 261 = .ok (.aload_n 0, 1) := by decide +kernel
theorem dX9_roots_262 : decode cX9_roots 262 = .ok (.getfield 50, 3) := by decide +kernel
theorem dX9_roots_265 : decode cX9_roots 265 = .ok (.iload_n 2, 1) := by decide +kernel
theorem dX9_roots_266 : decode cX9_roots 266 = .ok (.iaload, 1) := by decide +kernel
theorem dX9_roots_267 : decode cX9_roots 267 = .ok (.iaload, 1) := by decide +kernel
theorem dX9_roots_268 : decode cX9_roots 268 = .ok (.iadd, 1) := by decide +kernel
theorem dX9_roots_269 : decode cX9_roots 269 = .ok (.iastore, 1) := by decide +kernel
theorem dX9_roots_270 : decode cX9_roots 270 = .ok (.iinc 2 (-1), 3) := by decide +kernel
theorem dX9_roots_273 : decode cX9_roots 273 = .ok (.goto (-37), 3) := by decide +kernel
theorem dX9_roots_276 : decode cX9_roots 276 = .ok (.iconst 0, 1) := by decide +kernel
theorem dX9_roots_277 : decode cX9_roots 277 = .ok (.istore_n 2, 1) := by decide +kernel
theorem dX9_roots_278 : decode cX9_roots 278 = .ok (.iload_n 2, 1) := by decide +kernel
theorem dX9_roots_279 : decode cX9_roots 279 = .ok (.aload_n 0, 1) := by decide +kernel
theorem dX9_roots_280 : decode cX9_roots 280 = .ok (.getfield 57, 3) := by decide +kernel
theorem dX9_roots_283 : decode cX9_roots 283 = .ok (.if_icmp .ge 64, 3) := by decide +kernel
theorem dX9_roots_286 : decode cX9_roots 286 = .ok (.aload_n 0, 1) := by decide +kernel
theorem dX9_roots_287 : decode cX9_roots 287 = .ok (.getfield 38, 3) := by decide +kernel
theorem dX9_roots_290 : decode cX9_roots 290 = .ok (.iload_n 2, 1) := by decide +kernel
theorem dX9_roots_291 : decode cX9_roots 291 = .ok (.iaload, 1) := by decide +kernel
theorem dX9_roots_292 : decode cX9_roots 292 = .ok (.ifCond .ge 6, 3) := by decide +kernel
theorem dX9_roots_295 : decode cX9_roots 295 = .ok (.goto 46, 3) := by decide +kernel
theorem dX9_roots_298 : decode cX9_roots 298 = .ok (.aload_n 0, 1) := by decide +kernel
theorem dX9_roots_299 : decode cX9_roots 299 = .ok (.getfield 38, 3) := by decide +kernel
theorem dX9_roots_302 : decode cX9_roots 302 = .ok (.iload_n 2, 1) := by decide +kernel
theorem dX9_roots_303 : decode cX9_roots 303 = .ok (.iaload, 1) := by decide +kernel
theorem dX9_roots_304 : decode cX9_roots 304 = .ok (.istore_n 3, 1) := by decide +kernel
theorem dX9_roots_305 : decode cX9_roots 305 = .ok (.aload_n 0, 1) := by decide +kernel
theorem dX9_roots_306 : decode cX9_roots 306 = .ok (.getfield 47, 3) := by decide +kernel
theorem dX9_roots_309 : decode cX9_roots 309 = .ok (.iload_n 3, 1) := by decide +kernel
theorem dX9_roots_310 : decode cX9_roots 310 = .ok (.iaload, 1) := by decide +kernel
theorem dX9_roots_311 : decode cX9_roots 311 = .ok (.ifCond .lt 23, 3) := by decide +kernel
theorem dX9_roots_314 : decode cX9_roots 314 = .ok (.aload_n 0, 1) := by decide +kernel
theorem dX9_roots_315 : decode cX9_roots 315 = .ok (.getfield 44, 3) := by decide +kernel
theorem dX9_roots_318 : decode cX9_roots 318 = .ok (.iload_n 2, 1) := by decide +kernel
theorem dX9_roots_319 : decode cX9_roots 319 = .ok (.iaload, 1) := by decide +kernel
theorem dX9_roots_320 : decode cX9_roots 320 = .ok (.aload_n 0, 1) := by decide +kernel
theorem dX9_roots_321 : decode cX9_roots 321 = .ok (.getfield 44, 3) := by decide +kernel
theorem dX9_roots_324 : decode cX9_roots 324 = .ok (.aload_n 0, 1) := by decide +kernel
theorem dX9_roots_325 : decode cX9_roots 325 = .ok (.getfield 47, 3) := by decide +kernel
theorem dX9_roots_328 : decode cX9_roots 328 = .ok (.iload_n 3, 1) := by decide +kernel
theorem dX9_roots_329 : decode cX9_roots 329 = .ok (.iaload, 1) := by decide +kernel
theorem dX9_roots_330 : decode cX9_roots 330 = .ok (.iaload, 1) := by decide +kernel
theorem dX9_roots_331 : decode cX9_roots 331 = .ok (.if_icmp .le 10, 3) := by decide +kernel
theorem dX9_roots_334 : decode cX9_roots 334 = .ok (.aload_n 0, 1) := by decide +kernel
theorem dX9_roots_335 : decode cX9_roots 335 = .ok (.getfield 47, 3) := by decide +kernel
theorem dX9_roots_338 : decode cX9_roots 338 = .ok (.iload_n 3, 1) := by decide +kernel
theorem dX9_roots_339 : decode cX9_roots 339 = .ok (.iload_n 2, 1) := by decide +kernel
theorem dX9_roots_340 : decode cX9_roots 340 = .ok (.iastore, 1) := by decide +kernel
theorem dX9_roots_341 : decode cX9_roots 341 = .ok (.iinc 2 1, 3) := by decide +kernel
theorem dX9_roots_344 : decode cX9_roots 344 = .ok (.goto (-66), 3) := by decide +kernel
theorem dX9_roots_347 : decode cX9_roots 347 = .ok (.return_, 1) := by decide +kernel
theorem dX9_isApart_0 : decode cX9_isApart 0 = .ok (.aload_n 0, 1) := by decide +kernel
theorem dX9_isApart_1 : decode cX9_isApart 1 = .ok (.iconst 0, 1) := by decide +kernel
theorem dX9_isApart_2 : decode cX9_isApart 2 = .ok (.putfield 53, 3) := by decide +kernel
theorem dX9_isApart_5 : decode cX9_isApart 5 = .ok (.aload_n 0, 1) := by decide +kernel
theorem dX9_isApart_6 : decode cX9_isApart 6 = .ok (.iload_n 1, 1) := by decide +kernel
theorem dX9_isApart_7 : decode cX9_isApart 7 = .ok (.invokevirtual 84, 3) := by decide +kernel
theorem dX9_isApart_10 : decode cX9_isApart 10 = .ok (.ifCond .eq 11, 3) := by decide +kernel
theorem dX9_isApart_13 : decode cX9_isApart 13 = .ok (.aload_n 0, 1) := by decide +kernel
theorem dX9_isApart_14 : decode cX9_isApart 14 = .ok (.iload_n 2, 1) := by decide +kernel
theorem dX9_isApart_15 : decode cX9_isApart 15 = .ok (.invokevirtual 84, 3) := by decide +kernel
theorem dX9_isApart_18 : decode cX9_isApart 18 = .ok (.ifCond .ne 11, 3) := by decide +kernel
theorem dX9_isApart_21 : decode cX9_isApart 21 = .ok (.aload_n 0, 1) := by decide +kernel
theorem dX9_isApart_22 : decode cX9_isApart 22 = .ok (.iconst 1, 1) := by decide +kernel
theorem dX9_isApart_23 : decode cX9_isApart 23 = .ok (.invokevirtual 78, 3) := by decide +kernel
theorem dX9_isApart_26 : decode cX9_isApart 26 = .ok (.pop, 1) := by decide +kernel
theorem dX9_isApart_27 : decode cX9_isApart 27 = .ok (.iconst 1, 1) := by decide +kernel
theorem dX9_isApart_28 : decode cX9_isApart 28 = .ok (.ireturn, 1) := by decide +kernel
theorem dX9_isApart_29 : decode cX9_isApart 29 = .ok (.aload_n 0, 1) := by decide +kernel
theorem dX9_isApart_30 : decode cX9_isApart 30 = .ok (.iload_n 1, 1) := by decide +kernel
theorem dX9_isApart_31 : decode cX9_isApart 31 = .ok (.invokevirtual 97, 3) := by decide +kernel
theorem dX9_isApart_34 : decode cX9_isApart 34 = .ok (.aload_n 0, 1) := by decide +kernel
theorem dX9_isApart_35 : decode cX9_isApart 35 = .ok (.getfield 38, 3) := by decide +kernel
theorem dX9_isApart_38 : decode cX9_isApart 38 = .ok (.iload_n 2, 1) := by decide +kernel
theorem dX9_isApart_39 : decode cX9_isApart 39 = .ok (.iaload, 1) := by decide +kernel
theorem dX9_isApart_40 : decode cX9_isApart 40 = .ok (.bipush (-2), 2) := by decide +kernel
theorem dX9_isApart_42 : decode cX9_isApart 42 = .ok (.if_icmp .ne 9, 3) := by decide +kernel
theorem dX9_isApart_45 : decode cX9_isApart 45 = .ok (.aload_n 0, 1) := by decide +kernel
theorem dX9_isApart_46 : decode cX9_isApart 46 = .ok (.iconst 2, 1) := by decide +kernel
theorem dX9_isApart_47 : decode cX9_isApart 47 = .ok (.invokevirtual 78, 3) := by decide +kernel
theorem dX9_isApart_50 : decode cX9_isApart 50 = .ok (.pop, 1) := by decide +kernel
theorem dX9_isApart_51 : decode cX9_isApart 51 = .ok (.aload_n 0, 1) := by decide +kernel
theorem dX9_isApart_52 : decode cX9_isApart 52 = .ok (.getfield 53, 3) := by decide +kernel
theorem dX9_isApart_55 : decode cX9_isApart 55 = .ok (.ifCond .le 7, 3) := by decide +kernel
theorem dX9_isApart_58 : decode cX9_isApart 58 = .ok (.iconst 1, 1) := by decide +kernel
theorem dX9_isApart_59 : decode cX9_isApart 59 = .ok (.goto 4, 3) := by decide +kernel
theorem dX9_isApart_62 : decode cX9_isApart 62 = .ok (.iconst 0, 1) := by decide +kernel
theorem dX9_isApart_63 : decode cX9_isApart 63 = .ok (.ireturn, 1) := by decide +kernel
theorem dX9_addOnPath_0 : decode cX9_addOnPath 0 = .ok (.aload_n 0, 1) := by decide +kernel
theorem dX9_addOnPath_1 : decode cX9_addOnPath 1 = .ok (.iconst 0, 1) := by decide +kernel
theorem dX9_addOnPath_2 : decode cX9_addOnPath 2 = .ok (.putfield 53, 3) := by decide +kernel
theorem dX9_addOnPath_5 : decode cX9_addOnPath 5 = .ok (.aload_n 0, 1) := by decide +kernel
theorem dX9_addOnPath_6 : decode cX9_addOnPath 6 = .ok (.iload_n 1, 1) := by decide +kernel
theorem dX9_addOnPath_7 : decode cX9_addOnPath 7 = .ok (.invokevirtual 84, 3) := by decide +kernel
theorem dX9_addOnPath_10 : decode cX9_addOnPath 10 = .ok (.ifCond .eq 11, 3) := by decide +kernel
theorem dX9_addOnPath_13 : decode cX9_addOnPath 13 = .ok (.aload_n 0, 1) := by decide +kernel
theorem dX9_addOnPath_14 : decode cX9_addOnPath 14 = .ok (.iload_n 2, 1) := by decide +kernel
theorem dX9_addOnPath_15 : decode cX9_addOnPath 15 = .ok (.invokevirtual 84, 3) := by decide +kernel
theorem dX9_addOnPath_18 : decode cX9_addOnPath 18 = .ok (.ifCond .ne 9, 3) := by decide +kernel
theorem dX9_addOnPath_21 : decode cX9_addOnPath 21 = .ok (.aload_n 0, 1) := by decide +kernel
theorem dX9_addOnPath_22 : decode cX9_addOnPath 22 = .ok (.iconst 1, 1) := by decide +kernel
theorem dX9_addOnPath_23 : decode cX9_addOnPath 23 = .ok (.invokevirtual 78, 3) := by decide +kernel
theorem dX9_addOnPath_26 : decode cX9_addOnPath 26 = .ok (.ireturn, 1) := by decide +kernel
theorem dX9_addOnPath_27 : decode cX9_addOnPath 27 = .ok (.iload_n 3, 1) := by decide +kernel
theorem dX9_addOnPath_28 : decode cX9_addOnPath 28 = .ok (.bipush (-9), 2) := by decide +kernel
theorem dX9_addOnPath_30 : decode cX9_addOnPath 30 = .ok (.bipush 9, 2) := by decide +kernel
theorem dX9_addOnPath_32 : decode cX9_addOnPath 32 = .ok (.invokestatic 60, 3) := by decide +kernel
theorem dX9_addOnPath_35 : decode cX9_addOnPath 35 = .ok (.ifCond .ne 9, 3) := by decide +kernel
theorem dX9_addOnPath_38 : decode cX9_addOnPath 38 = .ok (.aload_n 0, 1) := by decide +kernel
theorem dX9_addOnPath_39 : decode cX9_addOnPath 39 = .ok (.iconst 2, 1) := by decide +kernel
theorem dX9_addOnPath_40 : decode cX9_addOnPath 40 = .ok (.invokevirtual 78, 3) := by decide +kernel
theorem dX9_addOnPath_43 : decode cX9_addOnPath 43 = .ok (.ireturn, 1) := by decide +kernel
theorem dX9_addOnPath_44 : decode cX9_addOnPath 44 = .ok (.aload_n 0, 1) := by decide +kernel
theorem dX9_addOnPath_45 : decode cX9_addOnPath 45 = .ok (.getfield 25, 3) := by decide +kernel
theorem dX9_addOnPath_48 : decode cX9_addOnPath 48 = .ok (.iload_n 1, 1) := by decide +kernel
theorem dX9_addOnPath_49 : decode cX9_addOnPath 49 = .ok (.iaload, 1) := by decide +kernel
theorem dX9_addOnPath_50 : decode cX9_addOnPath 50 = .ok (.aload_n 0, 1) := by decide +kernel
theorem dX9_addOnPath_51 : decode cX9_addOnPath 51 = .ok (.getfield 25, 3) := by decide +kernel
theorem dX9_addOnPath_54 : decode cX9_addOnPath 54 = .ok (.iload_n 2, 1) := by decide +kernel
theorem dX9_addOnPath_55 : decode cX9_addOnPath 55 = .ok (.iaload, 1) := by decide +kernel
theorem dX9_addOnPath_56 : decode cX9_addOnPath 56 = .ok (.if_icmp .eq 9, 3) := by decide +kernel
theorem dX9_addOnPath_59 : decode cX9_addOnPath 59 = .ok (.aload_n 0, 1) := by decide +kernel
theorem dX9_addOnPath_60 : decode cX9_addOnPath 60 = .ok (.iconst 3, 1) := by decide +kernel
theorem dX9_addOnPath_61 : decode cX9_addOnPath 61 = .ok (.invokevirtual 78, 3) := by decide +kernel
theorem dX9_addOnPath_64 : decode cX9_addOnPath 64 = .ok (.ireturn, 1) := by decide +kernel
theorem dX9_addOnPath_65 : decode cX9_addOnPath 65 = .ok (.aload_n 0, 1) := by decide +kernel
theorem dX9_addOnPath_66 : decode cX9_addOnPath 66 = .ok (.iload_n 2, 1) := by decide +kernel
theorem dX9_addOnPath_67 : decode cX9_addOnPath 67 = .ok (.invokevirtual 97, 3) := by decide +kernel
theorem dX9_addOnPath_70 : decode cX9_addOnPath 70 = .ok (.iload_n 1, 1) := by decide +kernel
theorem dX9_addOnPath_71 : decode cX9_addOnPath 71 = .ok (.istore 4, 2) := by decide +kernel
theorem dX9_addOnPath_73 : decode cX9_addOnPath 73 = .ok (.iload 4, 2) := by decide +kernel
theorem dX9_addOnPath_75 : decode cX9_addOnPath 75 = .ok (.iconst (-1), 1) := by decide +kernel
theorem dX9_addOnPath_76 : decode cX9_addOnPath 76 = .ok (.if_icmp .eq 26, 3) := by decide +kernel
theorem dX9_addOnPath_79 : decode cX9_addOnPath 79 = .ok (.aload_n 0, 1) := by decide +kernel
theorem dX9_addOnPath_80 : decode cX9_addOnPath 80 = .ok (.getfield 9, 3) := by decide +kernel
theorem dX9_addOnPath_83 : decode cX9_addOnPath 83 = .ok (.iload 4, 2) := by decide +kernel
theorem dX9_addOnPath_85 : decode cX9_addOnPath 85 = .ok (.dup2, 1) := by decide +kernel
theorem dX9_addOnPath_86 : decode cX9_addOnPath 86 = .ok (.iaload, 1) := by decide +kernel
theorem dX9_addOnPath_87 : decode cX9_addOnPath 87 = .ok (.iload_n 3, 1) := by decide +kernel
theorem dX9_addOnPath_88 : decode cX9_addOnPath 88 = .ok (.iadd, 1) := by decide +kernel
theorem dX9_addOnPath_89 : decode cX9_addOnPath 89 = .ok (.iastore, 1) := by decide +kernel
theorem dX9_addOnPath_90 : decode cX9_addOnPath 90 = .ok (.aload_n 0, 1) := by decide +kernel
theorem dX9_addOnPath_91 : decode cX9_addOnPath 91 = .ok (.getfield 38, 3) := by decide +kernel
theorem dX9_addOnPath_94 : decode cX9_addOnPath 94 = .ok (.iload 4, 2) := by decide +kernel
theorem dX9_addOnPath_96 : decode cX9_addOnPath 96 = .ok (.iaload, 1) := by decide +kernel
theorem dX9_addOnPath_97 : decode cX9_addOnPath 97 = .ok (.istore 4, 2) := by decide +kernel
theorem dX9_addOnPath_99 : decode cX9_addOnPath 99 = .ok (.goto (-26), 3) := by decide +kernel
theorem dX9_addOnPath_102 : decode cX9_addOnPath 102 = .ok (.aload_n 0, 1) := by decide +kernel
theorem dX9_addOnPath_103 : decode cX9_addOnPath 103 = .ok (.getfield 41, 3) := by decide +kernel
theorem dX9_addOnPath_106 : decode cX9_addOnPath 106 = .ok (.iload_n 1, 1) := by decide +kernel
theorem dX9_addOnPath_107 : decode cX9_addOnPath 107 = .ok (.iaload, 1) := by decide +kernel
theorem dX9_addOnPath_108 : decode cX9_addOnPath 108 = .ok (.iconst 1, 1) := by decide +kernel
theorem dX9_addOnPath_109 : decode cX9_addOnPath 109 = .ok (.iadd, 1) := by decide +kernel
theorem dX9_addOnPath_110 : decode cX9_addOnPath 110 = .ok (.ireturn, 1) := by decide +kernel
theorem dX9_vertices_0 : decode cX9_vertices 0 = .ok (.aload_n 0, 1) := by decide +kernel
theorem dX9_vertices_1 : decode cX9_vertices 1 = .ok (.iconst 0, 1) := by decide +kernel
theorem dX9_vertices_2 : decode cX9_vertices 2 = .ok (.putfield 53, 3) := by decide +kernel
theorem dX9_vertices_5 : decode cX9_vertices 5 = .ok (.aload_n 0, 1) := by decide +kernel
theorem dX9_vertices_6 : decode cX9_vertices 6 = .ok (.getfield 57, 3) := by decide +kernel
theorem dX9_vertices_9 : decode cX9_vertices 9 = .ok (.ireturn, 1) := by decide +kernel
theorem dX9_edges_0 : decode cX9_edges 0 = .ok (.aload_n 0, 1) := by decide +kernel
theorem dX9_edges_1 : decode cX9_edges 1 = .ok (.iconst 0, 1) := by decide +kernel
theorem dX9_edges_2 : decode cX9_edges 2 = .ok (.putfield 53, 3) := by decide +kernel
theorem dX9_edges_5 : decode cX9_edges 5 = .ok (.aload_n 0, 1) := by decide +kernel
theorem dX9_edges_6 : decode cX9_edges 6 = .ok (.getfield 64, 3) := by decide +kernel
theorem dX9_edges_9 : decode cX9_edges 9 = .ok (.ireturn, 1) := by decide +kernel
theorem dX9_value_0 : decode cX9_value 0 = .ok (.aload_n 0, 1) := by decide +kernel
theorem dX9_value_1 : decode cX9_value 1 = .ok (.iconst 0, 1) := by decide +kernel
theorem dX9_value_2 : decode cX9_value 2 = .ok (.putfield 53, 3) := by decide +kernel
theorem dX9_value_5 : decode cX9_value 5 = .ok (.aload_n 0, 1) := by decide +kernel
theorem dX9_value_6 : decode cX9_value 6 = .ok (.iload_n 1, 1) := by decide +kernel
theorem dX9_value_7 : decode cX9_value 7 = .ok (.invokevirtual 84, 3) := by decide +kernel
theorem dX9_value_10 : decode cX9_value 10 = .ok (.ifCond .eq 12, 3) := by decide +kernel
theorem dX9_value_13 : decode cX9_value 13 = .ok (.aload_n 0, 1) := by decide +kernel
theorem dX9_value_14 : decode cX9_value 14 = .ok (.getfield 9, 3) := by decide +kernel
theorem dX9_value_17 : decode cX9_value 17 = .ok (.iload_n 1, 1) := by decide +kernel
theorem dX9_value_18 : decode cX9_value 18 = .ok (.iaload, 1) := by decide +kernel
theorem dX9_value_19 : decode cX9_value 19 = .ok (.goto 8, 3) := by decide +kernel
theorem dX9_value_22 : decode cX9_value 22 = .ok (.aload_n 0, 1) := by decide +kernel
theorem dX9_value_23 : decode cX9_value 23 = .ok (.iconst 1, 1) := by decide +kernel
theorem dX9_value_24 : decode cX9_value 24 = .ok (.invokevirtual 78, 3) := by decide +kernel
theorem dX9_value_27 : decode cX9_value 27 = .ok (.ireturn, 1) := by decide +kernel
theorem dX9_weight_0 : decode cX9_weight 0 = .ok (.aload_n 0, 1) := by decide +kernel
theorem dX9_weight_1 : decode cX9_weight 1 = .ok (.iconst 0, 1) := by decide +kernel
theorem dX9_weight_2 : decode cX9_weight 2 = .ok (.putfield 53, 3) := by decide +kernel
theorem dX9_weight_5 : decode cX9_weight 5 = .ok (.aload_n 0, 1) := by decide +kernel
theorem dX9_weight_6 : decode cX9_weight 6 = .ok (.iload_n 1, 1) := by decide +kernel
theorem dX9_weight_7 : decode cX9_weight 7 = .ok (.invokevirtual 88, 3) := by decide +kernel
theorem dX9_weight_10 : decode cX9_weight 10 = .ok (.ifCond .eq 12, 3) := by decide +kernel
theorem dX9_weight_13 : decode cX9_weight 13 = .ok (.aload_n 0, 1) := by decide +kernel
theorem dX9_weight_14 : decode cX9_weight 14 = .ok (.getfield 19, 3) := by decide +kernel
theorem dX9_weight_17 : decode cX9_weight 17 = .ok (.iload_n 1, 1) := by decide +kernel
theorem dX9_weight_18 : decode cX9_weight 18 = .ok (.iaload, 1) := by decide +kernel
theorem dX9_weight_19 : decode cX9_weight 19 = .ok (.goto 8, 3) := by decide +kernel
theorem dX9_weight_22 : decode cX9_weight 22 = .ok (.aload_n 0, 1) := by decide +kernel
theorem dX9_weight_23 : decode cX9_weight 23 = .ok (.iconst 1, 1) := by decide +kernel
theorem dX9_weight_24 : decode cX9_weight 24 = .ok (.invokevirtual 78, 3) := by decide +kernel
theorem dX9_weight_27 : decode cX9_weight 27 = .ok (.ireturn, 1) := by decide +kernel
theorem dX9_state_0 : decode cX9_state 0 = .ok (.aload_n 0, 1) := by decide +kernel
theorem dX9_state_1 : decode cX9_state 1 = .ok (.iconst 0, 1) := by decide +kernel
theorem dX9_state_2 : decode cX9_state 2 = .ok (.putfield 53, 3) := by decide +kernel
theorem dX9_state_5 : decode cX9_state 5 = .ok (.aload_n 0, 1) := by decide +kernel
theorem dX9_state_6 : decode cX9_state 6 = .ok (.iload_n 1, 1) := by decide +kernel
theorem dX9_state_7 : decode cX9_state 7 = .ok (.invokevirtual 88, 3) := by decide +kernel
theorem dX9_state_10 : decode cX9_state 10 = .ok (.ifCond .ne 10, 3) := by decide +kernel
theorem dX9_state_13 : decode cX9_state 13 = .ok (.aload_n 0, 1) := by decide +kernel
theorem dX9_state_14 : decode cX9_state 14 = .ok (.iconst 1, 1) := by decide +kernel
theorem dX9_state_15 : decode cX9_state 15 = .ok (.invokevirtual 78, 3) := by decide +kernel
theorem dX9_state_18 : decode cX9_state 18 = .ok (.i2c, 1) := by decide +kernel
theorem dX9_state_19 : decode cX9_state 19 = .ok (.ireturn, 1) := by decide +kernel
theorem dX9_state_20 : decode cX9_state 20 = .ok (.aload_n 0, 1) := by decide +kernel
theorem dX9_state_21 : decode cX9_state 21 = .ok (.getfield 32, 3) := by decide +kernel
theorem dX9_state_24 : decode cX9_state 24 = .ok (.iload_n 1, 1) := by decide +kernel
theorem dX9_state_25 : decode cX9_state 25 = .ok (.baload, 1) := by decide +kernel
theorem dX9_state_26 : decode cX9_state 26 = .ok (.ifCond .eq 8, 3) := by decide +kernel
theorem dX9_state_29 : decode cX9_state 29 = .ok (.bipush 102, 2) := by decide +kernel
theorem dX9_state_31 : decode cX9_state 31 = .ok (.goto 19, 3) := by decide +kernel
theorem dX9_state_34 : decode cX9_state 34 = .ok (.aload_n 0, 1) := by decide +kernel
theorem dX9_state_35 : decode cX9_state 35 = .ok (.getfield 28, 3) := by decide +kernel
theorem dX9_state_38 : decode cX9_state 38 = .ok (.iload_n 1, 1) := by decide +kernel
theorem dX9_state_39 : decode cX9_state 39 = .ok (.baload, 1) := by decide +kernel
theorem dX9_state_40 : decode cX9_state 40 = .ok (.ifCond .eq 8, 3) := by decide +kernel
theorem dX9_state_43 : decode cX9_state 43 = .ok (.bipush 111, 2) := by decide +kernel
theorem dX9_state_45 : decode cX9_state 45 = .ok (.goto 5, 3) := by decide +kernel
theorem dX9_state_48 : decode cX9_state 48 = .ok (.bipush 114, 2) := by decide +kernel
theorem dX9_state_50 : decode cX9_state 50 = .ok (.ireturn, 1) := by decide +kernel
theorem dX9_otherEnd_0 : decode cX9_otherEnd 0 = .ok (.aload_n 0, 1) := by decide +kernel
theorem dX9_otherEnd_1 : decode cX9_otherEnd 1 = .ok (.iconst 0, 1) := by decide +kernel
theorem dX9_otherEnd_2 : decode cX9_otherEnd 2 = .ok (.putfield 53, 3) := by decide +kernel
theorem dX9_otherEnd_5 : decode cX9_otherEnd 5 = .ok (.aload_n 0, 1) := by decide +kernel
theorem dX9_otherEnd_6 : decode cX9_otherEnd 6 = .ok (.iload_n 1, 1) := by decide +kernel
theorem dX9_otherEnd_7 : decode cX9_otherEnd 7 = .ok (.invokevirtual 88, 3) := by decide +kernel
theorem dX9_otherEnd_10 : decode cX9_otherEnd 10 = .ok (.ifCond .eq 11, 3) := by decide +kernel
theorem dX9_otherEnd_13 : decode cX9_otherEnd 13 = .ok (.aload_n 0, 1) := by decide +kernel
theorem dX9_otherEnd_14 : decode cX9_otherEnd 14 = .ok (.iload_n 2, 1) := by decide +kernel
theorem dX9_otherEnd_15 : decode cX9_otherEnd 15 = .ok (.invokevirtual 84, 3) := by decide +kernel
theorem dX9_otherEnd_18 : decode cX9_otherEnd 18 = .ok (.ifCond .ne 9, 3) := by decide +kernel
theorem dX9_otherEnd_21 : decode cX9_otherEnd 21 = .ok (.aload_n 0, 1) := by decide +kernel
theorem dX9_otherEnd_22 : decode cX9_otherEnd 22 = .ok (.iconst 1, 1) := by decide +kernel
theorem dX9_otherEnd_23 : decode cX9_otherEnd 23 = .ok (.invokevirtual 78, 3) := by decide +kernel
theorem dX9_otherEnd_26 : decode cX9_otherEnd 26 = .ok (.ireturn, 1) := by decide +kernel
theorem dX9_otherEnd_27 : decode cX9_otherEnd 27 = .ok (.aload_n 0, 1) := by decide +kernel
theorem dX9_otherEnd_28 : decode cX9_otherEnd 28 = .ok (.getfield 13, 3) := by decide +kernel
theorem dX9_otherEnd_31 : decode cX9_otherEnd 31 = .ok (.iload_n 1, 1) := by decide +kernel
theorem dX9_otherEnd_32 : decode cX9_otherEnd 32 = .ok (.iaload, 1) := by decide +kernel
theorem dX9_otherEnd_33 : decode cX9_otherEnd 33 = .ok (.iload_n 2, 1) := by decide +kernel
theorem dX9_otherEnd_34 : decode cX9_otherEnd 34 = .ok (.if_icmp .eq 19, 3) := by decide +kernel
theorem dX9_otherEnd_37 : decode cX9_otherEnd 37 = .ok (.aload_n 0, 1) := by decide +kernel
theorem dX9_otherEnd_38 : decode cX9_otherEnd 38 = .ok (.getfield 16, 3) := by decide +kernel
theorem dX9_otherEnd_41 : decode cX9_otherEnd 41 = .ok (.iload_n 1, 1) := by decide +kernel
theorem dX9_otherEnd_42 : decode cX9_otherEnd 42 = .ok (.iaload, 1) := by decide +kernel
theorem dX9_otherEnd_43 : decode cX9_otherEnd 43 = .ok (.iload_n 2, 1) := by decide +kernel
theorem dX9_otherEnd_44 : decode cX9_otherEnd 44 = .ok (.if_icmp .eq 9, 3) := by decide +kernel
theorem dX9_otherEnd_47 : decode cX9_otherEnd 47 = .ok (.aload_n 0, 1) := by decide +kernel
theorem dX9_otherEnd_48 : decode cX9_otherEnd 48 = .ok (.iconst 2, 1) := by decide +kernel
theorem dX9_otherEnd_49 : decode cX9_otherEnd 49 = .ok (.invokevirtual 78, 3) := by decide +kernel
theorem dX9_otherEnd_52 : decode cX9_otherEnd 52 = .ok (.ireturn, 1) := by decide +kernel
theorem dX9_otherEnd_53 : decode cX9_otherEnd 53 = .ok (.aload_n 0, 1) := by decide +kernel
theorem dX9_otherEnd_54 : decode cX9_otherEnd 54 = .ok (.getfield 13, 3) := by decide +kernel
theorem dX9_otherEnd_57 : decode cX9_otherEnd 57 = .ok (.iload_n 1, 1) := by decide +kernel
theorem dX9_otherEnd_58 : decode cX9_otherEnd 58 = .ok (.iaload, 1) := by decide +kernel
theorem dX9_otherEnd_59 : decode cX9_otherEnd 59 = .ok (.aload_n 0, 1) := by decide +kernel
theorem dX9_otherEnd_60 : decode cX9_otherEnd 60 = .ok (.getfield 16, 3) := by decide +kernel
theorem dX9_otherEnd_63 : decode cX9_otherEnd 63 = .ok (.iload_n 1, 1) := by decide +kernel
theorem dX9_otherEnd_64 : decode cX9_otherEnd 64 = .ok (.iaload, 1) := by decide +kernel
theorem dX9_otherEnd_65 : decode cX9_otherEnd 65 = .ok (.iadd, 1) := by decide +kernel
theorem dX9_otherEnd_66 : decode cX9_otherEnd 66 = .ok (.iload_n 2, 1) := by decide +kernel
theorem dX9_otherEnd_67 : decode cX9_otherEnd 67 = .ok (.isub, 1) := by decide +kernel
theorem dX9_otherEnd_68 : decode cX9_otherEnd 68 = .ok (.ireturn, 1) := by decide +kernel
theorem dX9_joins_0 : decode cX9_joins 0 = .ok (.aload_n 0, 1) := by decide +kernel
theorem dX9_joins_1 : decode cX9_joins 1 = .ok (.getfield 13, 3) := by decide +kernel
theorem dX9_joins_4 : decode cX9_joins 4 = .ok (.iload_n 1, 1) := by decide +kernel
theorem dX9_joins_5 : decode cX9_joins 5 = .ok (.iaload, 1) := by decide +kernel
theorem dX9_joins_6 : decode cX9_joins 6 = .ok (.iload_n 2, 1) := by decide +kernel
theorem dX9_joins_7 : decode cX9_joins 7 = .ok (.if_icmp .ne 13, 3) := by decide +kernel
theorem dX9_joins_10 : decode cX9_joins 10 = .ok (.aload_n 0, 1) := by decide +kernel
theorem dX9_joins_11 : decode cX9_joins 11 = .ok (.getfield 16, 3) := by decide +kernel
theorem dX9_joins_14 : decode cX9_joins 14 = .ok (.iload_n 1, 1) := by decide +kernel
theorem dX9_joins_15 : decode cX9_joins 15 = .ok (.iaload, 1) := by decide +kernel
theorem dX9_joins_16 : decode cX9_joins 16 = .ok (.iload_n 3, 1) := by decide +kernel
theorem dX9_joins_17 : decode cX9_joins 17 = .ok (.if_icmp .eq 23, 3) := by decide +kernel
theorem dX9_joins_20 : decode cX9_joins 20 = .ok (.aload_n 0, 1) := by decide +kernel
theorem dX9_joins_21 : decode cX9_joins 21 = .ok (.getfield 13, 3) := by decide +kernel
theorem dX9_joins_24 : decode cX9_joins 24 = .ok (.iload_n 1, 1) := by decide +kernel
theorem dX9_joins_25 : decode cX9_joins 25 = .ok (.iaload, 1) := by decide +kernel
theorem dX9_joins_26 : decode cX9_joins 26 = .ok (.iload_n 3, 1) := by decide +kernel
theorem dX9_joins_27 : decode cX9_joins 27 = .ok (.if_icmp .ne 17, 3) := by decide +kernel
theorem dX9_joins_30 : decode cX9_joins 30 = .ok (.aload_n 0, 1) := by decide +kernel
theorem dX9_joins_31 : decode cX9_joins 31 = .ok (.getfield 16, 3) := by decide +kernel
theorem dX9_joins_34 : decode cX9_joins 34 = .ok (.iload_n 1, 1) := by decide +kernel
theorem dX9_joins_35 : decode cX9_joins 35 = .ok (.iaload, 1) := by decide +kernel
theorem dX9_joins_36 : decode cX9_joins 36 = .ok (.iload_n 2, 1) := by decide +kernel
theorem dX9_joins_37 : decode cX9_joins 37 = .ok (.if_icmp .ne 7, 3) := by decide +kernel
theorem dX9_joins_40 : decode cX9_joins 40 = .ok (.iconst 1, 1) := by decide +kernel
theorem dX9_joins_41 : decode cX9_joins 41 = .ok (.goto 4, 3) := by decide +kernel
theorem dX9_joins_44 : decode cX9_joins 44 = .ok (.iconst 0, 1) := by decide +kernel
theorem dX9_joins_45 : decode cX9_joins 45 = .ok (.ireturn, 1) := by decide +kernel
theorem dX9_parallel_0 : decode cX9_parallel 0 = .ok (.aload_n 0, 1) := by decide +kernel
theorem dX9_parallel_1 : decode cX9_parallel 1 = .ok (.iconst 0, 1) := by decide +kernel
theorem dX9_parallel_2 : decode cX9_parallel 2 = .ok (.putfield 53, 3) := by decide +kernel
theorem dX9_parallel_5 : decode cX9_parallel 5 = .ok (.aload_n 0, 1) := by decide +kernel
theorem dX9_parallel_6 : decode cX9_parallel 6 = .ok (.iload_n 1, 1) := by decide +kernel
theorem dX9_parallel_7 : decode cX9_parallel 7 = .ok (.invokevirtual 84, 3) := by decide +kernel
theorem dX9_parallel_10 : decode cX9_parallel 10 = .ok (.ifCond .eq 11, 3) := by decide +kernel
theorem dX9_parallel_13 : decode cX9_parallel 13 = .ok (.aload_n 0, 1) := by decide +kernel
theorem dX9_parallel_14 : decode cX9_parallel 14 = .ok (.iload_n 2, 1) := by decide +kernel
theorem dX9_parallel_15 : decode cX9_parallel 15 = .ok (.invokevirtual 84, 3) := by decide +kernel
theorem dX9_parallel_18 : decode cX9_parallel 18 = .ok (.ifCond .ne 9, 3) := by decide +kernel
theorem dX9_parallel_21 : decode cX9_parallel 21 = .ok (.aload_n 0, 1) := by decide +kernel
theorem dX9_parallel_22 : decode cX9_parallel 22 = .ok (.iconst 1, 1) := by decide +kernel
theorem dX9_parallel_23 : decode cX9_parallel 23 = .ok (.invokevirtual 78, 3) := by decide +kernel
theorem dX9_parallel_26 : decode cX9_parallel 26 = .ok (.ireturn, 1) := by decide +kernel
theorem dX9_parallel_27 : decode cX9_parallel 27 = .ok (.iconst 0, 1) := by decide +kernel
theorem dX9_parallel_28 : decode cX9_parallel 28 = .ok (.istore_n 3, 1) := by decide +kernel
theorem dX9_parallel_29 : decode cX9_parallel 29 = .ok (.iconst 0, 1) := by decide +kernel
theorem dX9_parallel_30 : decode cX9_parallel 30 = .ok (.istore 4, 2) := by decide +kernel
theorem dX9_parallel_32 : decode cX9_parallel 32 = .ok (.iload 4, 2) := by decide +kernel
theorem dX9_parallel_34 : decode cX9_parallel 34 = .ok (.aload_n 0, 1) := by decide +kernel
theorem dX9_parallel_35 : decode cX9_parallel 35 = .ok (.getfield 64, 3) := by decide +kernel
theorem dX9_parallel_38 : decode cX9_parallel 38 = .ok (.if_icmp .ge 38, 3) := by decide +kernel
theorem dX9_parallel_41 : decode cX9_parallel 41 = .ok (.iload_n 3, 1) := by decide +kernel
theorem dX9_parallel_42 : decode cX9_parallel 42 = .ok (.aload_n 0, 1) := by decide +kernel
theorem dX9_parallel_43 : decode cX9_parallel 43 = .ok (.getfield 28, 3) := by decide +kernel
theorem dX9_parallel_46 : decode cX9_parallel 46 = .ok (.iload 4, 2) := by decide +kernel
theorem dX9_parallel_48 : decode cX9_parallel 48 = .ok (.baload, 1) := by decide +kernel
theorem dX9_parallel_49 : decode cX9_parallel 49 = .ok (.ifCond .eq 18, 3) := by decide +kernel
theorem dX9_parallel_52 : decode cX9_parallel 52 = .ok (.aload_n 0, 1) := by decide +kernel
theorem dX9_parallel_53 : decode cX9_parallel 53 = .ok (.iload 4, 2) := by decide +kernel
theorem dX9_parallel_55 : decode cX9_parallel 55 = .ok (.iload_n 1, 1) := by decide +kernel
theorem dX9_parallel_56 : decode cX9_parallel 56 = .ok (.iload_n 2, 1) := by decide +kernel
theorem dX9_parallel_57 : decode cX9_parallel 57 = .ok (.invokevirtual 101, 3) := by decide +kernel
theorem dX9_parallel_60 : decode cX9_parallel 60 = .ok (.ifCond .eq 7, 3) := by decide +kernel
theorem dX9_parallel_63 : decode cX9_parallel 63 = .ok (.iconst 1, 1) := by decide +kernel
theorem dX9_parallel_64 : decode cX9_parallel 64 = .ok (.goto 4, 3) := by decide +kernel
theorem dX9_parallel_67 : decode cX9_parallel 67 = .ok (.iconst 0, 1) := by decide +kernel
theorem dX9_parallel_68 : decode cX9_parallel 68 = .ok (.iadd, 1) := by decide +kernel
theorem dX9_parallel_69 : decode cX9_parallel 69 = .ok (.istore_n 3, 1) := by decide +kernel
theorem dX9_parallel_70 : decode cX9_parallel 70 = .ok (.iinc 4 1, 3) := by decide +kernel
theorem dX9_parallel_73 : decode cX9_parallel 73 = .ok (.goto (-41), 3) := by decide +kernel
theorem dX9_parallel_76 : decode cX9_parallel 76 = .ok (.iload_n 3, 1) := by decide +kernel
theorem dX9_parallel_77 : decode cX9_parallel 77 = .ok (.ireturn, 1) := by decide +kernel
theorem dX9_lightest_0 : decode cX9_lightest 0 = .ok (.aload_n 0, 1) := by decide +kernel
theorem dX9_lightest_1 : decode cX9_lightest 1 = .ok (.iconst 0, 1) := by decide +kernel
theorem dX9_lightest_2 : decode cX9_lightest 2 = .ok (.putfield 53, 3) := by decide +kernel
theorem dX9_lightest_5 : decode cX9_lightest 5 = .ok (.aload_n 0, 1) := by decide +kernel
theorem dX9_lightest_6 : decode cX9_lightest 6 = .ok (.iload_n 1, 1) := by decide +kernel
theorem dX9_lightest_7 : decode cX9_lightest 7 = .ok (.invokevirtual 84, 3) := by decide +kernel
theorem dX9_lightest_10 : decode cX9_lightest 10 = .ok (.ifCond .eq 11, 3) := by decide +kernel
theorem dX9_lightest_13 : decode cX9_lightest 13 = .ok (.aload_n 0, 1) := by decide +kernel
theorem dX9_lightest_14 : decode cX9_lightest 14 = .ok (.iload_n 2, 1) := by decide +kernel
theorem dX9_lightest_15 : decode cX9_lightest 15 = .ok (.invokevirtual 84, 3) := by decide +kernel
theorem dX9_lightest_18 : decode cX9_lightest 18 = .ok (.ifCond .ne 9, 3) := by decide +kernel
theorem dX9_lightest_21 : decode cX9_lightest 21 = .ok (.aload_n 0, 1) := by decide +kernel
theorem dX9_lightest_22 : decode cX9_lightest 22 = .ok (.iconst 1, 1) := by decide +kernel
theorem dX9_lightest_23 : decode cX9_lightest 23 = .ok (.invokevirtual 78, 3) := by decide +kernel
theorem dX9_lightest_26 : decode cX9_lightest 26 = .ok (.ireturn, 1) := by decide +kernel
theorem dX9_lightest_27 : decode cX9_lightest 27 = .ok (.iconst (-1), 1) := by decide +kernel
theorem dX9_lightest_28 : decode cX9_lightest 28 = .ok (.istore_n 3, 1) := by decide +kernel
theorem dX9_lightest_29 : decode cX9_lightest 29 = .ok (.iconst 0, 1) := by decide +kernel
theorem dX9_lightest_30 : decode cX9_lightest 30 = .ok (.istore 4, 2) := by decide +kernel
theorem dX9_lightest_32 : decode cX9_lightest 32 = .ok (.iload 4, 2) := by decide +kernel
theorem dX9_lightest_34 : decode cX9_lightest 34 = .ok (.aload_n 0, 1) := by decide +kernel
theorem dX9_lightest_35 : decode cX9_lightest 35 = .ok (.getfield 64, 3) := by decide +kernel
theorem dX9_lightest_38 : decode cX9_lightest 38 = .ok (.if_icmp .ge 47, 3) := by decide +kernel
theorem dX9_lightest_41 : decode cX9_lightest 41 = .ok (.aload_n 0, 1) := by decide +kernel
theorem dX9_lightest_42 : decode cX9_lightest 42 = .ok (.getfield 28, 3) := by decide +kernel
theorem dX9_lightest_45 : decode cX9_lightest 45 = .ok (.iload 4, 2) := by decide +kernel
theorem dX9_lightest_47 : decode cX9_lightest 47 = .ok (.baload, 1) := by decide +kernel
theorem dX9_lightest_48 : decode cX9_lightest 48 = .ok (.ifCond .eq 31, 3) := by decide +kernel
theorem dX9_lightest_51 : decode cX9_lightest 51 = .ok (.aload_n 0, 1) := by decide +kernel
theorem dX9_lightest_52 : decode cX9_lightest 52 = .ok (.iload 4, 2) := by decide +kernel
theorem dX9_lightest_54 : decode cX9_lightest 54 = .ok (.iload_n 1, 1) := by decide +kernel
theorem dX9_lightest_55 : decode cX9_lightest 55 = .ok (.iload_n 2, 1) := by decide +kernel
theorem dX9_lightest_56 : decode cX9_lightest 56 = .ok (.invokevirtual 101, 3) := by decide +kernel
theorem dX9_lightest_59 : decode cX9_lightest 59 = .ok (.ifCond .eq 20, 3) := by decide +kernel
theorem dX9_lightest_62 : decode cX9_lightest 62 = .ok (.iload_n 3, 1) := by decide +kernel
theorem dX9_lightest_63 : decode cX9_lightest 63 = .ok (.ifCond .lt 13, 3) := by decide +kernel
theorem dX9_lightest_66 : decode cX9_lightest 66 = .ok (.aload_n 0, 1) := by decide +kernel
theorem dX9_lightest_67 : decode cX9_lightest 67 = .ok (.iload 4, 2) := by decide +kernel
theorem dX9_lightest_69 : decode cX9_lightest 69 = .ok (.iload_n 3, 1) := by decide +kernel
theorem dX9_lightest_70 : decode cX9_lightest 70 = .ok (.invokevirtual 67, 3) := by decide +kernel
theorem dX9_lightest_73 : decode cX9_lightest 73 = .ok (.ifCond .eq 6, 3) := by decide +kernel
theorem dX9_lightest_76 : decode cX9_lightest 76 = .ok (.iload 4, 2) := by decide +kernel
theorem dX9_lightest_78 : decode cX9_lightest 78 = .ok (.istore_n 3, 1) := by decide +kernel
theorem dX9_lightest_79 : decode cX9_lightest 79 = .ok (.iinc 4 1, 3) := by decide +kernel
theorem dX9_lightest_82 : decode cX9_lightest 82 = .ok (.goto (-50), 3) := by decide +kernel
theorem dX9_lightest_85 : decode cX9_lightest 85 = .ok (.iload_n 3, 1) := by decide +kernel
theorem dX9_lightest_86 : decode cX9_lightest 86 = .ok (.ifCond .ge 11, 3) := by decide +kernel
theorem dX9_lightest_89 : decode cX9_lightest 89 = .ok (.aload_n 0, 1) := by decide +kernel
theorem dX9_lightest_90 : decode cX9_lightest 90 = .ok (.iconst 2, 1) := by decide +kernel
theorem dX9_lightest_91 : decode cX9_lightest 91 = .ok (.invokevirtual 78, 3) := by decide +kernel
theorem dX9_lightest_94 : decode cX9_lightest 94 = .ok (.goto 4, 3) := by decide +kernel
theorem dX9_lightest_97 : decode cX9_lightest 97 = .ok (.iload_n 3, 1) := by decide +kernel
theorem dX9_lightest_98 : decode cX9_lightest 98 = .ok (.ireturn, 1) := by decide +kernel
theorem dX9_forestWeight_0 : decode cX9_forestWeight 0 = .ok (.aload_n 0, 1) := by decide +kernel
theorem dX9_forestWeight_1 : decode cX9_forestWeight 1 = .ok (.iconst 0, 1) := by decide +kernel
theorem dX9_forestWeight_2 : decode cX9_forestWeight 2 = .ok (.putfield 53, 3) := by decide +kernel
theorem dX9_forestWeight_5 : decode cX9_forestWeight 5 = .ok (.iconst 0, 1) := by decide +kernel
theorem dX9_forestWeight_6 : decode cX9_forestWeight 6 = .ok (.istore_n 1, 1) := by decide +kernel
theorem dX9_forestWeight_7 : decode cX9_forestWeight 7 = .ok (.iconst 0, 1) := by decide +kernel
theorem dX9_forestWeight_8 : decode cX9_forestWeight 8 = .ok (.istore_n 2, 1) := by decide +kernel
theorem dX9_forestWeight_9 : decode cX9_forestWeight 9 = .ok (.iload_n 2, 1) := by decide +kernel
theorem dX9_forestWeight_10 : decode cX9_forestWeight 10 = .ok (.aload_n 0, 1) := by decide +kernel
theorem dX9_forestWeight_11 : decode cX9_forestWeight 11 = .ok (.getfield 64, 3) := by decide +kernel
theorem dX9_forestWeight_14 : decode cX9_forestWeight 14 = .ok (.if_icmp .ge 31, 3) := by decide +kernel
theorem dX9_forestWeight_17 : decode cX9_forestWeight 17 = .ok (.iload_n 1, 1) := by decide +kernel
theorem dX9_forestWeight_18 : decode cX9_forestWeight 18 = .ok (.aload_n 0, 1) := by decide +kernel
theorem dX9_forestWeight_19 : decode cX9_forestWeight 19 = .ok (.getfield 32, 3) := by decide +kernel
theorem dX9_forestWeight_22 : decode cX9_forestWeight 22 = .ok (.iload_n 2, 1) := by decide +kernel
theorem dX9_forestWeight_23 : decode cX9_forestWeight 23 = .ok (.baload, 1) := by decide +kernel
theorem dX9_forestWeight_24 : decode cX9_forestWeight 24 = .ok (.ifCond .eq 12, 3) := by decide +kernel
theorem dX9_forestWeight_27 : decode cX9_forestWeight 27 = .ok (.aload_n 0, 1) := by decide +kernel
theorem dX9_forestWeight_28 : decode cX9_forestWeight 28 = .ok (.getfield 19, 3) := by decide +kernel
theorem dX9_forestWeight_31 : decode cX9_forestWeight 31 = .ok (.iload_n 2, 1) := by decide +kernel
theorem dX9_forestWeight_32 : decode cX9_forestWeight 32 = .ok (.iaload, 1) := by decide +kernel
theorem dX9_forestWeight_33 : decode cX9_forestWeight 33 = .ok (.goto 4, 3) := by decide +kernel
theorem dX9_forestWeight_36 : decode cX9_forestWeight 36 = .ok (.iconst 0, 1) := by decide +kernel
theorem dX9_forestWeight_37 : decode cX9_forestWeight 37 = .ok (.iadd, 1) := by decide +kernel
theorem dX9_forestWeight_38 : decode cX9_forestWeight 38 = .ok (.istore_n 1, 1) := by decide +kernel
theorem dX9_forestWeight_39 : decode cX9_forestWeight 39 = .ok (.iinc 2 1, 3) := by decide +kernel
theorem dX9_forestWeight_42 : decode cX9_forestWeight 42 = .ok (.goto (-33), 3) := by decide +kernel
theorem dX9_forestWeight_45 : decode cX9_forestWeight 45 = .ok (.iload_n 1, 1) := by decide +kernel
theorem dX9_forestWeight_46 : decode cX9_forestWeight 46 = .ok (.ireturn, 1) := by decide +kernel
theorem dX9_forestWeightAnew_0 : decode cX9_forestWeightAnew 0 = .ok (.aload_n 0, 1) := by decide +kernel
theorem dX9_forestWeightAnew_1 : decode cX9_forestWeightAnew 1 = .ok (.invokevirtual 104, 3) := by decide +kernel
theorem dX9_forestWeightAnew_4 : decode cX9_forestWeightAnew 4 = .ok (.ireturn, 1) := by decide +kernel
theorem dX9_trees_0 : decode cX9_trees 0 = .ok (.aload_n 0, 1) := by decide +kernel
theorem dX9_trees_1 : decode cX9_trees 1 = .ok (.iconst 0, 1) := by decide +kernel
theorem dX9_trees_2 : decode cX9_trees 2 = .ok (.putfield 53, 3) := by decide +kernel
theorem dX9_trees_5 : decode cX9_trees 5 = .ok (.aload_n 0, 1) := by decide +kernel
theorem dX9_trees_6 : decode cX9_trees 6 = .ok (.getfield 57, 3) := by decide +kernel
theorem dX9_trees_9 : decode cX9_trees 9 = .ok (.istore_n 1, 1) := by decide +kernel
theorem dX9_trees_10 : decode cX9_trees 10 = .ok (.iconst 0, 1) := by decide +kernel
theorem dX9_trees_11 : decode cX9_trees 11 = .ok (.istore_n 2, 1) := by decide +kernel
theorem dX9_trees_12 : decode cX9_trees 12 = .ok (.iload_n 2, 1) := by decide +kernel
theorem dX9_trees_13 : decode cX9_trees 13 = .ok (.aload_n 0, 1) := by decide +kernel
theorem dX9_trees_14 : decode cX9_trees 14 = .ok (.getfield 64, 3) := by decide +kernel
theorem dX9_trees_17 : decode cX9_trees 17 = .ok (.if_icmp .ge 26, 3) := by decide +kernel
theorem dX9_trees_20 : decode cX9_trees 20 = .ok (.iload_n 1, 1) := by decide +kernel
theorem dX9_trees_21 : decode cX9_trees 21 = .ok (.aload_n 0, 1) := by decide +kernel
theorem dX9_trees_22 : decode cX9_trees 22 = .ok (.getfield 32, 3) := by decide +kernel
theorem dX9_trees_25 : decode cX9_trees 25 = .ok (.iload_n 2, 1) := by decide +kernel
theorem dX9_trees_26 : decode cX9_trees 26 = .ok (.baload, 1) := by decide +kernel
theorem dX9_trees_27 : decode cX9_trees 27 = .ok (.ifCond .eq 7, 3) := by decide +kernel
theorem dX9_trees_30 : decode cX9_trees 30 = .ok (.iconst 1, 1) := by decide +kernel
theorem dX9_trees_31 : decode cX9_trees 31 = .ok (.goto 4, 3) := by decide +kernel
theorem dX9_trees_34 : decode cX9_trees 34 = .ok (.iconst 0, 1) := by decide +kernel
theorem dX9_trees_35 : decode cX9_trees 35 = .ok (.isub, 1) := by decide +kernel
theorem dX9_trees_36 : decode cX9_trees 36 = .ok (.istore_n 1, 1) := by decide +kernel
theorem dX9_trees_37 : decode cX9_trees 37 = .ok (.iinc 2 1, 3) := by decide +kernel
theorem dX9_trees_40 : decode cX9_trees 40 = .ok (.goto (-28), 3) := by decide +kernel
theorem dX9_trees_43 : decode cX9_trees 43 = .ok (.iload_n 1, 1) := by decide +kernel
theorem dX9_trees_44 : decode cX9_trees 44 = .ok (.ireturn, 1) := by decide +kernel
theorem dX9_isNeighbour_0 : decode cX9_isNeighbour 0 = .ok (.iconst 0, 1) := by decide +kernel
theorem dX9_isNeighbour_1 : decode cX9_isNeighbour 1 = .ok (.istore_n 3, 1) := by decide +kernel
theorem dX9_isNeighbour_2 : decode cX9_isNeighbour 2 = .ok (.iload_n 3, 1) := by decide +kernel
theorem dX9_isNeighbour_3 : decode cX9_isNeighbour 3 = .ok (.aload_n 0, 1) := by decide +kernel
theorem dX9_isNeighbour_4 : decode cX9_isNeighbour 4 = .ok (.getfield 64, 3) := by decide +kernel
theorem dX9_isNeighbour_7 : decode cX9_isNeighbour 7 = .ok (.if_icmp .ge 30, 3) := by decide +kernel
theorem dX9_isNeighbour_10 : decode cX9_isNeighbour 10 = .ok (.aload_n 0, 1) := by decide +kernel
theorem dX9_isNeighbour_11 : decode cX9_isNeighbour 11 = .ok (.getfield 32, 3) := by decide +kernel
theorem dX9_isNeighbour_14 : decode cX9_isNeighbour 14 = .ok (.iload_n 3, 1) := by decide +kernel
theorem dX9_isNeighbour_15 : decode cX9_isNeighbour 15 = .ok (.baload, 1) := by decide +kernel
theorem dX9_isNeighbour_16 : decode cX9_isNeighbour 16 = .ok (.ifCond .eq 15, 3) := by decide +kernel
theorem dX9_isNeighbour_19 : decode cX9_isNeighbour 19 = .ok (.aload_n 0, 1) := by decide +kernel
theorem dX9_isNeighbour_20 : decode cX9_isNeighbour 20 = .ok (.iload_n 3, 1) := by decide +kernel
theorem dX9_isNeighbour_21 : decode cX9_isNeighbour 21 = .ok (.iload_n 1, 1) := by decide +kernel
theorem dX9_isNeighbour_22 : decode cX9_isNeighbour 22 = .ok (.iload_n 2, 1) := by decide +kernel
theorem dX9_isNeighbour_23 : decode cX9_isNeighbour 23 = .ok (.invokevirtual 101, 3) := by decide +kernel
theorem dX9_isNeighbour_26 : decode cX9_isNeighbour 26 = .ok (.ifCond .eq 5, 3) := by decide +kernel
theorem dX9_isNeighbour_29 : decode cX9_isNeighbour 29 = .ok (.iconst 1, 1) := by decide +kernel
theorem dX9_isNeighbour_30 : decode cX9_isNeighbour 30 = .ok (.ireturn, 1) := by decide +kernel
theorem dX9_isNeighbour_31 : decode cX9_isNeighbour 31 = .ok (.iinc 3 1, 3) := by decide +kernel
theorem dX9_isNeighbour_34 : decode cX9_isNeighbour 34 = .ok (.goto (-32), 3) := by decide +kernel
theorem dX9_isNeighbour_37 : decode cX9_isNeighbour 37 = .ok (.iconst 0, 1) := by decide +kernel
theorem dX9_isNeighbour_38 : decode cX9_isNeighbour 38 = .ok (.ireturn, 1) := by decide +kernel
theorem dX9_degree_0 : decode cX9_degree 0 = .ok (.aload_n 0, 1) := by decide +kernel
theorem dX9_degree_1 : decode cX9_degree 1 = .ok (.iconst 0, 1) := by decide +kernel
theorem dX9_degree_2 : decode cX9_degree 2 = .ok (.putfield 53, 3) := by decide +kernel
theorem dX9_degree_5 : decode cX9_degree 5 = .ok (.aload_n 0, 1) := by decide +kernel
theorem dX9_degree_6 : decode cX9_degree 6 = .ok (.iload_n 1, 1) := by decide +kernel
theorem dX9_degree_7 : decode cX9_degree 7 = .ok (.invokevirtual 84, 3) := by decide +kernel
theorem dX9_degree_10 : decode cX9_degree 10 = .ok (.ifCond .ne 9, 3) := by decide +kernel
theorem dX9_degree_13 : decode cX9_degree 13 = .ok (.aload_n 0, 1) := by decide +kernel
theorem dX9_degree_14 : decode cX9_degree 14 = .ok (.iconst 1, 1) := by decide +kernel
theorem dX9_degree_15 : decode cX9_degree 15 = .ok (.invokevirtual 78, 3) := by decide +kernel
theorem dX9_degree_18 : decode cX9_degree 18 = .ok (.ireturn, 1) := by decide +kernel
theorem dX9_degree_19 : decode cX9_degree 19 = .ok (.iconst 0, 1) := by decide +kernel
theorem dX9_degree_20 : decode cX9_degree 20 = .ok (.istore_n 2, 1) := by decide +kernel
theorem dX9_degree_21 : decode cX9_degree 21 = .ok (.iconst 0, 1) := by decide +kernel
theorem dX9_degree_22 : decode cX9_degree 22 = .ok (.istore_n 3, 1) := by decide +kernel
theorem dX9_degree_23 : decode cX9_degree 23 = .ok (.iload_n 3, 1) := by decide +kernel
theorem dX9_degree_24 : decode cX9_degree 24 = .ok (.aload_n 0, 1) := by decide +kernel
theorem dX9_degree_25 : decode cX9_degree 25 = .ok (.getfield 57, 3) := by decide +kernel
theorem dX9_degree_28 : decode cX9_degree 28 = .ok (.if_icmp .ge 26, 3) := by decide +kernel
theorem dX9_degree_31 : decode cX9_degree 31 = .ok (.iload_n 2, 1) := by decide +kernel
theorem dX9_degree_32 : decode cX9_degree 32 = .ok (.aload_n 0, 1) := by decide +kernel
theorem dX9_degree_33 : decode cX9_degree 33 = .ok (.iload_n 1, 1) := by decide +kernel
theorem dX9_degree_34 : decode cX9_degree 34 = .ok (.iload_n 3, 1) := by decide +kernel
theorem dX9_degree_35 : decode cX9_degree 35 = .ok (.invokevirtual 108, 3) := by decide +kernel
theorem dX9_degree_38 : decode cX9_degree 38 = .ok (.ifCond .eq 7, 3) := by decide +kernel
theorem dX9_degree_41 : decode cX9_degree 41 = .ok (.iconst 1, 1) := by decide +kernel
theorem dX9_degree_42 : decode cX9_degree 42 = .ok (.goto 4, 3) := by decide +kernel
theorem dX9_degree_45 : decode cX9_degree 45 = .ok (.iconst 0, 1) := by decide +kernel
theorem dX9_degree_46 : decode cX9_degree 46 = .ok (.iadd, 1) := by decide +kernel
theorem dX9_degree_47 : decode cX9_degree 47 = .ok (.istore_n 2, 1) := by decide +kernel
theorem dX9_degree_48 : decode cX9_degree 48 = .ok (.iinc 3 1, 3) := by decide +kernel
theorem dX9_degree_51 : decode cX9_degree 51 = .ok (.goto (-28), 3) := by decide +kernel
theorem dX9_degree_54 : decode cX9_degree 54 = .ok (.iload_n 2, 1) := by decide +kernel
theorem dX9_degree_55 : decode cX9_degree 55 = .ok (.ireturn, 1) := by decide +kernel
theorem dX9_neighbour_0 : decode cX9_neighbour 0 = .ok (.aload_n 0, 1) := by decide +kernel
theorem dX9_neighbour_1 : decode cX9_neighbour 1 = .ok (.iconst 0, 1) := by decide +kernel
theorem dX9_neighbour_2 : decode cX9_neighbour 2 = .ok (.putfield 53, 3) := by decide +kernel
theorem dX9_neighbour_5 : decode cX9_neighbour 5 = .ok (.aload_n 0, 1) := by decide +kernel
theorem dX9_neighbour_6 : decode cX9_neighbour 6 = .ok (.iload_n 1, 1) := by decide +kernel
theorem dX9_neighbour_7 : decode cX9_neighbour 7 = .ok (.invokevirtual 84, 3) := by decide +kernel
theorem dX9_neighbour_10 : decode cX9_neighbour 10 = .ok (.ifCond .ne 9, 3) := by decide +kernel
theorem dX9_neighbour_13 : decode cX9_neighbour 13 = .ok (.aload_n 0, 1) := by decide +kernel
theorem dX9_neighbour_14 : decode cX9_neighbour 14 = .ok (.iconst 1, 1) := by decide +kernel
theorem dX9_neighbour_15 : decode cX9_neighbour 15 = .ok (.invokevirtual 78, 3) := by decide +kernel
theorem dX9_neighbour_18 : decode cX9_neighbour 18 = .ok (.ireturn, 1) := by decide +kernel
theorem dX9_neighbour_19 : decode cX9_neighbour 19 = .ok (.iload_n 2, 1) := by decide +kernel
theorem dX9_neighbour_20 : decode cX9_neighbour 20 = .ok (.istore_n 3, 1) := by decide +kernel
theorem dX9_neighbour_21 : decode cX9_neighbour 21 = .ok (.iconst 0, 1) := by decide +kernel
theorem dX9_neighbour_22 : decode cX9_neighbour 22 = .ok (.istore 4, 2) := by decide +kernel
theorem dX9_neighbour_24 : decode cX9_neighbour 24 = .ok (.iload 4, 2) := by decide +kernel
theorem dX9_neighbour_26 : decode cX9_neighbour 26 = .ok (.aload_n 0, 1) := by decide +kernel
theorem dX9_neighbour_27 : decode cX9_neighbour 27 = .ok (.getfield 57, 3) := by decide +kernel
theorem dX9_neighbour_30 : decode cX9_neighbour 30 = .ok (.if_icmp .ge 32, 3) := by decide +kernel
theorem dX9_neighbour_33 : decode cX9_neighbour 33 = .ok (.aload_n 0, 1) := by decide +kernel
theorem dX9_neighbour_34 : decode cX9_neighbour 34 = .ok (.iload_n 1, 1) := by decide +kernel
theorem dX9_neighbour_35 : decode cX9_neighbour 35 = .ok (.iload 4, 2) := by decide +kernel
theorem dX9_neighbour_37 : decode cX9_neighbour 37 = .ok (.invokevirtual 108, 3) := by decide +kernel
theorem dX9_neighbour_40 : decode cX9_neighbour 40 = .ok (.ifCond .ne 6, 3) := by decide +kernel
theorem dX9_neighbour_43 : decode cX9_neighbour 43 = .ok (.goto 13, 3) := by decide +kernel
theorem dX9_neighbour_46 : decode cX9_neighbour 46 = .ok (.iload_n 3, 1) := by decide +kernel
theorem dX9_neighbour_47 : decode cX9_neighbour 47 = .ok (.ifCond .ne 6, 3) := by decide +kernel
theorem dX9_neighbour_50 : decode cX9_neighbour 50 = .ok (.iload 4, 2) := by decide +kernel
theorem dX9_neighbour_52 : decode cX9_neighbour 52 = .ok (.ireturn, 1) := by decide +kernel
theorem dX9_neighbour_53 : decode cX9_neighbour 53 = .ok (.iinc 3 (-1), 3) := by decide +kernel
theorem dX9_neighbour_56 : decode cX9_neighbour 56 = .ok (.iinc 4 1, 3) := by decide +kernel
theorem dX9_neighbour_59 : decode cX9_neighbour 59 = .ok (.goto (-35), 3) := by decide +kernel
theorem dX9_neighbour_62 : decode cX9_neighbour 62 = .ok (.aload_n 0, 1) := by decide +kernel
theorem dX9_neighbour_63 : decode cX9_neighbour 63 = .ok (.iconst 2, 1) := by decide +kernel
theorem dX9_neighbour_64 : decode cX9_neighbour 64 = .ok (.invokevirtual 78, 3) := by decide +kernel
theorem dX9_neighbour_67 : decode cX9_neighbour 67 = .ok (.ireturn, 1) := by decide +kernel
theorem dX9_isConnected_0 : decode cX9_isConnected 0 = .ok (.aload_n 0, 1) := by decide +kernel
theorem dX9_isConnected_1 : decode cX9_isConnected 1 = .ok (.iconst 0, 1) := by decide +kernel
theorem dX9_isConnected_2 : decode cX9_isConnected 2 = .ok (.putfield 53, 3) := by decide +kernel
theorem dX9_isConnected_5 : decode cX9_isConnected 5 = .ok (.aload_n 0, 1) := by decide +kernel
theorem dX9_isConnected_6 : decode cX9_isConnected 6 = .ok (.iload_n 1, 1) := by decide +kernel
theorem dX9_isConnected_7 : decode cX9_isConnected 7 = .ok (.invokevirtual 84, 3) := by decide +kernel
theorem dX9_isConnected_10 : decode cX9_isConnected 10 = .ok (.ifCond .eq 11, 3) := by decide +kernel
theorem dX9_isConnected_13 : decode cX9_isConnected 13 = .ok (.aload_n 0, 1) := by decide +kernel
theorem dX9_isConnected_14 : decode cX9_isConnected 14 = .ok (.iload_n 2, 1) := by decide +kernel
theorem dX9_isConnected_15 : decode cX9_isConnected 15 = .ok (.invokevirtual 84, 3) := by decide +kernel
theorem dX9_isConnected_18 : decode cX9_isConnected 18 = .ok (.ifCond .ne 17, 3) := by decide +kernel
theorem dX9_isConnected_21 : decode cX9_isConnected 21 = .ok (.aload_n 0, 1) := by decide +kernel
theorem dX9_isConnected_22 : decode cX9_isConnected 22 = .ok (.iconst 1, 1) := by decide +kernel
theorem dX9_isConnected_23 : decode cX9_isConnected 23 = .ok (.invokevirtual 78, 3) := by decide +kernel
theorem dX9_isConnected_26 : decode cX9_isConnected 26 = .ok (.ifCond .le 7, 3) := by decide +kernel
theorem dX9_isConnected_29 : decode cX9_isConnected 29 = .ok (.iconst 1, 1) := by decide +kernel
theorem dX9_isConnected_30 : decode cX9_isConnected 30 = .ok (.goto 4, 3) := by decide +kernel
theorem dX9_isConnected_33 : decode cX9_isConnected 33 = .ok (.iconst 0, 1) := by decide +kernel
theorem dX9_isConnected_34 : decode cX9_isConnected 34 = .ok (.ireturn, 1) := by decide +kernel
theorem dX9_isConnected_35 : decode cX9_isConnected 35 = .ok (.aload_n 0, 1) := by decide +kernel
theorem dX9_isConnected_36 : decode cX9_isConnected 36 = .ok (.getfield 25, 3) := by decide +kernel
theorem dX9_isConnected_39 : decode cX9_isConnected 39 = .ok (.iload_n 1, 1) := by decide +kernel
theorem dX9_isConnected_40 : decode cX9_isConnected 40 = .ok (.iaload, 1) := by decide +kernel
theorem dX9_isConnected_41 : decode cX9_isConnected 41 = .ok (.aload_n 0, 1) := by decide +kernel
theorem dX9_isConnected_42 : decode cX9_isConnected 42 = .ok (.getfield 25, 3) := by decide +kernel
theorem dX9_isConnected_45 : decode cX9_isConnected 45 = .ok (.iload_n 2, 1) := by decide +kernel
theorem dX9_isConnected_46 : decode cX9_isConnected 46 = .ok (.iaload, 1) := by decide +kernel
theorem dX9_isConnected_47 : decode cX9_isConnected 47 = .ok (.if_icmp .ne 7, 3) := by decide +kernel
theorem dX9_isConnected_50 : decode cX9_isConnected 50 = .ok (.iconst 1, 1) := by decide +kernel
theorem dX9_isConnected_51 : decode cX9_isConnected 51 = .ok (.goto 4, 3) := by decide +kernel
theorem dX9_isConnected_54 : decode cX9_isConnected 54 = .ok (.iconst 0, 1) := by decide +kernel
theorem dX9_isConnected_55 : decode cX9_isConnected 55 = .ok (.ireturn, 1) := by decide +kernel
theorem dX9_isConnectedByWalk_0 : decode cX9_isConnectedByWalk 0 = .ok (.aload_n 0, 1) := by decide +kernel
theorem dX9_isConnectedByWalk_1 : decode cX9_isConnectedByWalk 1 = .ok (.iload_n 1, 1) := by decide +kernel
theorem dX9_isConnectedByWalk_2 : decode cX9_isConnectedByWalk 2 = .ok (.iload_n 2, 1) := by decide +kernel
theorem dX9_isConnectedByWalk_3 : decode cX9_isConnectedByWalk 3 = .ok (.invokevirtual 111, 3) := by decide +kernel
theorem dX9_isConnectedByWalk_6 : decode cX9_isConnectedByWalk 6 = .ok (.ireturn, 1) := by decide +kernel
theorem dX9_replacement_0 : decode cX9_replacement 0 = .ok (.aload_n 0, 1) := by decide +kernel
theorem dX9_replacement_1 : decode cX9_replacement 1 = .ok (.iconst 0, 1) := by decide +kernel
theorem dX9_replacement_2 : decode cX9_replacement 2 = .ok (.putfield 53, 3) := by decide +kernel
theorem dX9_replacement_5 : decode cX9_replacement 5 = .ok (.aload_n 0, 1) := by decide +kernel
theorem dX9_replacement_6 : decode cX9_replacement 6 = .ok (.iload_n 1, 1) := by decide +kernel
theorem dX9_replacement_7 : decode cX9_replacement 7 = .ok (.invokevirtual 88, 3) := by decide +kernel
theorem dX9_replacement_10 : decode cX9_replacement 10 = .ok (.ifCond .ne 9, 3) := by decide +kernel
theorem dX9_replacement_13 : decode cX9_replacement 13 = .ok (.aload_n 0, 1) := by decide +kernel
theorem dX9_replacement_14 : decode cX9_replacement 14 = .ok (.iconst 1, 1) := by decide +kernel
theorem dX9_replacement_15 : decode cX9_replacement 15 = .ok (.invokevirtual 78, 3) := by decide +kernel
theorem dX9_replacement_18 : decode cX9_replacement 18 = .ok (.ireturn, 1) := by decide +kernel
theorem dX9_replacement_19 : decode cX9_replacement 19 = .ok (.aload_n 0, 1) := by decide +kernel
theorem dX9_replacement_20 : decode cX9_replacement 20 = .ok (.getfield 32, 3) := by decide +kernel
theorem dX9_replacement_23 : decode cX9_replacement 23 = .ok (.iload_n 1, 1) := by decide +kernel
theorem dX9_replacement_24 : decode cX9_replacement 24 = .ok (.baload, 1) := by decide +kernel
theorem dX9_replacement_25 : decode cX9_replacement 25 = .ok (.ifCond .ne 9, 3) := by decide +kernel
theorem dX9_replacement_28 : decode cX9_replacement 28 = .ok (.aload_n 0, 1) := by decide +kernel
theorem dX9_replacement_29 : decode cX9_replacement 29 = .ok (.iconst 2, 1) := by decide +kernel
theorem dX9_replacement_30 : decode cX9_replacement 30 = .ok (.invokevirtual 78, 3) := by decide +kernel
theorem dX9_replacement_33 : decode cX9_replacement 33 = .ok (.ireturn, 1) := by decide +kernel
theorem dX9_replacement_34 : decode cX9_replacement 34 = .ok (.aload_n 0, 1) := by decide +kernel
theorem dX9_replacement_35 : decode cX9_replacement 35 = .ok (.iload_n 1, 1) := by decide +kernel
theorem dX9_replacement_36 : decode cX9_replacement 36 = .ok (.invokevirtual 91, 3) := by decide +kernel
theorem dX9_replacement_39 : decode cX9_replacement 39 = .ok (.istore_n 2, 1) := by decide +kernel
theorem dX9_replacement_40 : decode cX9_replacement 40 = .ok (.iload_n 2, 1) := by decide +kernel
theorem dX9_replacement_41 : decode cX9_replacement 41 = .ok (.ifCond .ge 11, 3) := by decide +kernel
theorem dX9_replacement_44 : decode cX9_replacement 44 = .ok (.aload_n 0, 1) := by decide +kernel
theorem dX9_replacement_45 : decode cX9_replacement 45 = .ok (.iconst 3, 1) := by decide +kernel
theorem dX9_replacement_46 : decode cX9_replacement 46 = .ok (.invokevirtual 78, 3) := by decide +kernel
theorem dX9_replacement_49 : decode cX9_replacement 49 = .ok (.goto 4, 3) := by decide +kernel
theorem dX9_replacement_52 : decode cX9_replacement 52 = .ok (.iload_n 2, 1) := by decide +kernel
theorem dX9_replacement_53 : decode cX9_replacement 53 = .ok (.ireturn, 1) := by decide +kernel
theorem dX9_replacementAnew_0 : decode cX9_replacementAnew 0 = .ok (.aload_n 0, 1) := by decide +kernel
theorem dX9_replacementAnew_1 : decode cX9_replacementAnew 1 = .ok (.iload_n 1, 1) := by decide +kernel
theorem dX9_replacementAnew_2 : decode cX9_replacementAnew 2 = .ok (.invokevirtual 114, 3) := by decide +kernel
theorem dX9_replacementAnew_5 : decode cX9_replacementAnew 5 = .ok (.ireturn, 1) := by decide +kernel
theorem dX9_pathVertices_0 : decode cX9_pathVertices 0 = .ok (.aload_n 0, 1) := by decide +kernel
theorem dX9_pathVertices_1 : decode cX9_pathVertices 1 = .ok (.iload_n 2, 1) := by decide +kernel
theorem dX9_pathVertices_2 : decode cX9_pathVertices 2 = .ok (.iload_n 1, 1) := by decide +kernel
theorem dX9_pathVertices_3 : decode cX9_pathVertices 3 = .ok (.invokevirtual 117, 3) := by decide +kernel
theorem dX9_pathVertices_6 : decode cX9_pathVertices 6 = .ok (.ifCond .eq 7, 3) := by decide +kernel
theorem dX9_pathVertices_9 : decode cX9_pathVertices 9 = .ok (.iconst 0, 1) := by decide +kernel
theorem dX9_pathVertices_10 : decode cX9_pathVertices 10 = .ok (.goto 11, 3) := by decide +kernel
theorem dX9_pathVertices_13 : decode cX9_pathVertices 13 = .ok (.aload_n 0, 1) := by decide +kernel
theorem dX9_pathVertices_14 : decode cX9_pathVertices 14 = .ok (.getfield 41, 3) := by decide +kernel
theorem dX9_pathVertices_17 : decode cX9_pathVertices 17 = .ok (.iload_n 1, 1) := by decide +kernel
theorem dX9_pathVertices_18 : decode cX9_pathVertices 18 = .ok (.iaload, 1) := by decide +kernel
theorem dX9_pathVertices_19 : decode cX9_pathVertices 19 = .ok (.iconst 1, 1) := by decide +kernel
theorem dX9_pathVertices_20 : decode cX9_pathVertices 20 = .ok (.iadd, 1) := by decide +kernel
theorem dX9_pathVertices_21 : decode cX9_pathVertices 21 = .ok (.ireturn, 1) := by decide +kernel
theorem dX9_pathVertex_0 : decode cX9_pathVertex 0 = .ok (.aload_n 0, 1) := by decide +kernel
theorem dX9_pathVertex_1 : decode cX9_pathVertex 1 = .ok (.iload_n 2, 1) := by decide +kernel
theorem dX9_pathVertex_2 : decode cX9_pathVertex 2 = .ok (.iload_n 1, 1) := by decide +kernel
theorem dX9_pathVertex_3 : decode cX9_pathVertex 3 = .ok (.invokevirtual 117, 3) := by decide +kernel
theorem dX9_pathVertex_6 : decode cX9_pathVertex 6 = .ok (.ifCond .eq 5, 3) := by decide +kernel
theorem dX9_pathVertex_9 : decode cX9_pathVertex 9 = .ok (.iconst 0, 1) := by decide +kernel
theorem dX9_pathVertex_10 : decode cX9_pathVertex 10 = .ok (.ireturn, 1) := by decide +kernel
theorem dX9_pathVertex_11 : decode cX9_pathVertex 11 = .ok (.iload_n 3, 1) := by decide +kernel
theorem dX9_pathVertex_12 : decode cX9_pathVertex 12 = .ok (.iconst 0, 1) := by decide +kernel
theorem dX9_pathVertex_13 : decode cX9_pathVertex 13 = .ok (.aload_n 0, 1) := by decide +kernel
theorem dX9_pathVertex_14 : decode cX9_pathVertex 14 = .ok (.getfield 41, 3) := by decide +kernel
theorem dX9_pathVertex_17 : decode cX9_pathVertex 17 = .ok (.iload_n 1, 1) := by decide +kernel
theorem dX9_pathVertex_18 : decode cX9_pathVertex 18 = .ok (.iaload, 1) := by decide +kernel
theorem dX9_pathVertex_19 : decode cX9_pathVertex 19 = .ok (.invokestatic 60, 3) := by decide +kernel
theorem dX9_pathVertex_22 : decode cX9_pathVertex 22 = .ok (.ifCond .ne 9, 3) := by decide +kernel
theorem dX9_pathVertex_25 : decode cX9_pathVertex 25 = .ok (.aload_n 0, 1) := by decide +kernel
theorem dX9_pathVertex_26 : decode cX9_pathVertex 26 = .ok (.iconst 3, 1) := by decide +kernel
theorem dX9_pathVertex_27 : decode cX9_pathVertex 27 = .ok (.invokevirtual 78, 3) := by decide +kernel
theorem dX9_pathVertex_30 : decode cX9_pathVertex 30 = .ok (.ireturn, 1) := by decide +kernel
theorem dX9_pathVertex_31 : decode cX9_pathVertex 31 = .ok (.iload_n 1, 1) := by decide +kernel
theorem dX9_pathVertex_32 : decode cX9_pathVertex 32 = .ok (.istore 4, 2) := by decide +kernel
theorem dX9_pathVertex_34 : decode cX9_pathVertex 34 = .ok (.iconst 0, 1) := by decide +kernel
theorem dX9_pathVertex_35 : decode cX9_pathVertex 35 = .ok (.istore 5, 2) := by decide +kernel
theorem dX9_pathVertex_37 : decode cX9_pathVertex 37 = .ok (.iload 5, 2) := by decide +kernel
theorem dX9_pathVertex_39 : decode cX9_pathVertex 39 = .ok (.iload_n 3, 1) := by decide +kernel
theorem dX9_pathVertex_40 : decode cX9_pathVertex 40 = .ok (.if_icmp .ge 18, 3) := by decide +kernel
theorem dX9_pathVertex_43 : decode cX9_pathVertex 43 = .ok (.aload_n 0, 1) := by decide +kernel
theorem dX9_pathVertex_44 : decode cX9_pathVertex 44 = .ok (.getfield 38, 3) := by decide +kernel
theorem dX9_pathVertex_47 : decode cX9_pathVertex 47 = .ok (.iload 4, 2) := by decide +kernel
theorem dX9_pathVertex_49 : decode cX9_pathVertex 49 = .ok (.iaload, 1) := by decide +kernel
theorem dX9_pathVertex_50 : decode cX9_pathVertex 50 = .ok (.istore 4, 2) := by decide +kernel
theorem dX9_pathVertex_52 : decode cX9_pathVertex 52 = .ok (.iinc 5 1, 3) := by decide +kernel
theorem dX9_pathVertex_55 : decode cX9_pathVertex 55 = .ok (.goto (-18), 3) := by decide +kernel
theorem dX9_pathVertex_58 : decode cX9_pathVertex 58 = .ok (.iload 4, 2) := by decide +kernel
theorem dX9_pathVertex_60 : decode cX9_pathVertex 60 = .ok (.ireturn, 1) := by decide +kernel
theorem dX9_pathSum_0 : decode cX9_pathSum 0 = .ok (.aload_n 0, 1) := by decide +kernel
theorem dX9_pathSum_1 : decode cX9_pathSum 1 = .ok (.iload_n 2, 1) := by decide +kernel
theorem dX9_pathSum_2 : decode cX9_pathSum 2 = .ok (.iload_n 1, 1) := by decide +kernel
theorem dX9_pathSum_3 : decode cX9_pathSum 3 = .ok (.invokevirtual 117, 3) := by decide +kernel
theorem dX9_pathSum_6 : decode cX9_pathSum 6 = .ok (.ifCond .eq 5, 3) := by decide +kernel
theorem dX9_pathSum_9 : decode cX9_pathSum 9 = .ok (.iconst 0, 1) := by decide +kernel
theorem dX9_pathSum_10 : decode cX9_pathSum 10 = .ok (.ireturn, 1) := by decide +kernel
theorem dX9_pathSum_11 : decode cX9_pathSum 11 = .ok (.iconst 0, 1) := by decide +kernel
theorem dX9_pathSum_12 : decode cX9_pathSum 12 = .ok (.istore_n 3, 1) := by decide +kernel
theorem dX9_pathSum_13 : decode cX9_pathSum 13 = .ok (.iload_n 1, 1) := by decide +kernel
theorem dX9_pathSum_14 : decode cX9_pathSum 14 = .ok (.istore 4, 2) := by decide +kernel
theorem dX9_pathSum_16 : decode cX9_pathSum 16 = .ok (.iload 4, 2) := by decide +kernel
theorem dX9_pathSum_18 : decode cX9_pathSum 18 = .ok (.iconst (-1), 1) := by decide +kernel
theorem dX9_pathSum_19 : decode cX9_pathSum 19 = .ok (.if_icmp .eq 25, 3) := by decide +kernel
theorem dX9_pathSum_22 : decode cX9_pathSum 22 = .ok (.iload_n 3, 1) := by decide +kernel
theorem dX9_pathSum_23 : decode cX9_pathSum 23 = .ok (.aload_n 0, 1) := by decide +kernel
theorem dX9_pathSum_24 : decode cX9_pathSum 24 = .ok (.getfield 9, 3) := by decide +kernel
theorem dX9_pathSum_27 : decode cX9_pathSum 27 = .ok (.iload 4, 2) := by decide +kernel
theorem dX9_pathSum_29 : decode cX9_pathSum 29 = .ok (.iaload, 1) := by decide +kernel
theorem dX9_pathSum_30 : decode cX9_pathSum 30 = .ok (.iadd, 1) := by decide +kernel
theorem dX9_pathSum_31 : decode cX9_pathSum 31 = .ok (.istore_n 3, 1) := by decide +kernel
theorem dX9_pathSum_32 : decode cX9_pathSum 32 = .ok (.aload_n 0, 1) := by decide +kernel
theorem dX9_pathSum_33 : decode cX9_pathSum 33 = .ok (.getfield 38, 3) := by decide +kernel
theorem dX9_pathSum_36 : decode cX9_pathSum 36 = .ok (.iload 4, 2) := by decide +kernel
theorem dX9_pathSum_38 : decode cX9_pathSum 38 = .ok (.iaload, 1) := by decide +kernel
theorem dX9_pathSum_39 : decode cX9_pathSum 39 = .ok (.istore 4, 2) := by decide +kernel
theorem dX9_pathSum_41 : decode cX9_pathSum 41 = .ok (.goto (-25), 3) := by decide +kernel
theorem dX9_pathSum_44 : decode cX9_pathSum 44 = .ok (.iload_n 3, 1) := by decide +kernel
theorem dX9_pathSum_45 : decode cX9_pathSum 45 = .ok (.ireturn, 1) := by decide +kernel
theorem dX9_pathSumByHeavyPaths_0 : decode cX9_pathSumByHeavyPaths 0 = .ok (.aload_n 0, 1) := by decide +kernel
theorem dX9_pathSumByHeavyPaths_1 : decode cX9_pathSumByHeavyPaths 1 = .ok (.iload_n 1, 1) := by decide +kernel
theorem dX9_pathSumByHeavyPaths_2 : decode cX9_pathSumByHeavyPaths 2 = .ok (.iload_n 2, 1) := by decide +kernel
theorem dX9_pathSumByHeavyPaths_3 : decode cX9_pathSumByHeavyPaths 3 = .ok (.invokevirtual 120, 3) := by decide +kernel
theorem dX9_pathSumByHeavyPaths_6 : decode cX9_pathSumByHeavyPaths 6 = .ok (.ireturn, 1) := by decide +kernel
theorem dX9_pathSumByWalk_0 : decode cX9_pathSumByWalk 0 = .ok (.aload_n 0, 1) := by decide +kernel
theorem dX9_pathSumByWalk_1 : decode cX9_pathSumByWalk 1 = .ok (.iload_n 1, 1) := by decide +kernel
theorem dX9_pathSumByWalk_2 : decode cX9_pathSumByWalk 2 = .ok (.iload_n 2, 1) := by decide +kernel
theorem dX9_pathSumByWalk_3 : decode cX9_pathSumByWalk 3 = .ok (.invokevirtual 120, 3) := by decide +kernel
theorem dX9_pathSumByWalk_6 : decode cX9_pathSumByWalk 6 = .ok (.ireturn, 1) := by decide +kernel
theorem dX9_between_0 : decode cX9_between 0 = .ok (.iconst (-1), 1) := by decide +kernel
theorem dX9_between_1 : decode cX9_between 1 = .ok (.istore_n 3, 1) := by decide +kernel
theorem dX9_between_2 : decode cX9_between 2 = .ok (.iconst 0, 1) := by decide +kernel
theorem dX9_between_3 : decode cX9_between 3 = .ok (.istore 4, 2) := by decide +kernel
theorem dX9_between_5 : decode cX9_between 5 = .ok (.iload 4, 2) := by decide +kernel
theorem dX9_between_7 : decode cX9_between 7 = .ok (.aload_n 0, 1) := by decide +kernel
theorem dX9_between_8 : decode cX9_between 8 = .ok (.getfield 64, 3) := by decide +kernel
theorem dX9_between_11 : decode cX9_between 11 = .ok (.if_icmp .ge 33, 3) := by decide +kernel
theorem dX9_between_14 : decode cX9_between 14 = .ok (.aload_n 0, 1) := by decide +kernel
theorem dX9_between_15 : decode cX9_between 15 = .ok (.getfield 32, 3) := by decide +kernel
theorem dX9_between_18 : decode cX9_between 18 = .ok (.iload 4, 2) := by decide +kernel
theorem dX9_between_20 : decode cX9_between 20 = .ok (.baload, 1) := by decide +kernel
theorem dX9_between_21 : decode cX9_between 21 = .ok (.ifCond .eq 17, 3) := by decide +kernel
theorem dX9_between_24 : decode cX9_between 24 = .ok (.aload_n 0, 1) := by decide +kernel
theorem dX9_between_25 : decode cX9_between 25 = .ok (.iload 4, 2) := by decide +kernel
theorem dX9_between_27 : decode cX9_between 27 = .ok (.iload_n 1, 1) := by decide +kernel
theorem dX9_between_28 : decode cX9_between 28 = .ok (.iload_n 2, 1) := by decide +kernel
theorem dX9_between_29 : decode cX9_between 29 = .ok (.invokevirtual 101, 3) := by decide +kernel
theorem dX9_between_32 : decode cX9_between 32 = .ok (.ifCond .eq 6, 3) := by decide +kernel
theorem dX9_between_35 : decode cX9_between 35 = .ok (.iload 4, 2) := by decide +kernel
theorem dX9_between_37 : decode cX9_between 37 = .ok (.istore_n 3, 1) := by decide +kernel
theorem dX9_between_38 : decode cX9_between 38 = .ok (.iinc 4 1, 3) := by decide +kernel
theorem dX9_between_41 : decode cX9_between 41 = .ok (.goto (-36), 3) := by decide +kernel
theorem dX9_between_44 : decode cX9_between 44 = .ok (.iload_n 3, 1) := by decide +kernel
theorem dX9_between_45 : decode cX9_between 45 = .ok (.ireturn, 1) := by decide +kernel
theorem dX9_last_0 : decode cX9_last 0 = .ok (.aload_n 0, 1) := by decide +kernel
theorem dX9_last_1 : decode cX9_last 1 = .ok (.iload_n 2, 1) := by decide +kernel
theorem dX9_last_2 : decode cX9_last 2 = .ok (.iload_n 1, 1) := by decide +kernel
theorem dX9_last_3 : decode cX9_last 3 = .ok (.invokevirtual 117, 3) := by decide +kernel
theorem dX9_last_6 : decode cX9_last 6 = .ok (.ifCond .eq 5, 3) := by decide +kernel
theorem dX9_last_9 : decode cX9_last 9 = .ok (.iconst 0, 1) := by decide +kernel
theorem dX9_last_10 : decode cX9_last 10 = .ok (.ireturn, 1) := by decide +kernel
theorem dX9_last_11 : decode cX9_last 11 = .ok (.iload_n 1, 1) := by decide +kernel
theorem dX9_last_12 : decode cX9_last 12 = .ok (.iload_n 2, 1) := by decide +kernel
theorem dX9_last_13 : decode cX9_last 13 = .ok (.if_icmp .ne 9, 3) := by decide +kernel
theorem dX9_last_16 : decode cX9_last 16 = .ok (.aload_n 0, 1) := by decide +kernel
theorem dX9_last_17 : decode cX9_last 17 = .ok (.iconst 3, 1) := by decide +kernel
theorem dX9_last_18 : decode cX9_last 18 = .ok (.invokevirtual 78, 3) := by decide +kernel
theorem dX9_last_21 : decode cX9_last 21 = .ok (.ireturn, 1) := by decide +kernel
theorem dX9_last_22 : decode cX9_last 22 = .ok (.iconst (-1), 1) := by decide +kernel
theorem dX9_last_23 : decode cX9_last 23 = .ok (.istore_n 3, 1) := by decide +kernel
theorem dX9_last_24 : decode cX9_last 24 = .ok (.iload_n 1, 1) := by decide +kernel
theorem dX9_last_25 : decode cX9_last 25 = .ok (.istore 4, 2) := by decide +kernel
theorem dX9_last_27 : decode cX9_last 27 = .ok (.iload 4, 2) := by decide +kernel
theorem dX9_last_29 : decode cX9_last 29 = .ok (.iload_n 2, 1) := by decide +kernel
theorem dX9_last_30 : decode cX9_last 30 = .ok (.if_icmp .eq 47, 3) := by decide +kernel
theorem dX9_last_33 : decode cX9_last 33 = .ok (.aload_n 0, 1) := by decide +kernel
theorem dX9_last_34 : decode cX9_last 34 = .ok (.iload 4, 2) := by decide +kernel
theorem dX9_last_36 : decode cX9_last 36 = .ok (.aload_n 0, 1) := by decide +kernel
theorem dX9_last_37 : decode cX9_last 37 = .ok (.getfield 38, 3) := by decide +kernel
theorem dX9_last_40 : decode cX9_last 40 = .ok (.iload 4, 2) := by decide +kernel
theorem dX9_last_42 : decode cX9_last 42 = .ok (.iaload, 1) := by decide +kernel
theorem dX9_last_43 : decode cX9_last 43 = .ok (.invokevirtual 124, 3) := by decide +kernel
theorem dX9_last_46 : decode cX9_last 46 = .ok (.istore 5, 2) := by decide +kernel
theorem dX9_last_48 : decode cX9_last 48 = .ok (.iload_n 3, 1) := by decide +kernel
theorem dX9_last_49 : decode cX9_last 49 = .ok (.ifCond .lt 13, 3) := by decide +kernel
theorem dX9_last_52 : decode cX9_last 52 = .ok (.aload_n 0, 1) := by decide +kernel
theorem dX9_last_53 : decode cX9_last 53 = .ok (.iload_n 3, 1) := by decide +kernel
theorem dX9_last_54 : decode cX9_last 54 = .ok (.iload 5, 2) := by decide +kernel
theorem dX9_last_56 : decode cX9_last 56 = .ok (.invokevirtual 67, 3) := by decide +kernel
theorem dX9_last_59 : decode cX9_last 59 = .ok (.ifCond .eq 6, 3) := by decide +kernel
theorem dX9_last_62 : decode cX9_last 62 = .ok (.iload 5, 2) := by decide +kernel
theorem dX9_last_64 : decode cX9_last 64 = .ok (.istore_n 3, 1) := by decide +kernel
theorem dX9_last_65 : decode cX9_last 65 = .ok (.aload_n 0, 1) := by decide +kernel
theorem dX9_last_66 : decode cX9_last 66 = .ok (.getfield 38, 3) := by decide +kernel
theorem dX9_last_69 : decode cX9_last 69 = .ok (.iload 4, 2) := by decide +kernel
theorem dX9_last_71 : decode cX9_last 71 = .ok (.iaload, 1) := by decide +kernel
theorem dX9_last_72 : decode cX9_last 72 = .ok (.istore 4, 2) := by decide +kernel
theorem dX9_last_74 : decode cX9_last 74 = .ok (.goto (-47), 3) := by decide +kernel
theorem dX9_last_77 : decode cX9_last 77 = .ok (.iload_n 3, 1) := by decide +kernel
theorem dX9_last_78 : decode cX9_last 78 = .ok (.ireturn, 1) := by decide +kernel
theorem dX9_lastByWalk_0 : decode cX9_lastByWalk 0 = .ok (.aload_n 0, 1) := by decide +kernel
theorem dX9_lastByWalk_1 : decode cX9_lastByWalk 1 = .ok (.iload_n 1, 1) := by decide +kernel
theorem dX9_lastByWalk_2 : decode cX9_lastByWalk 2 = .ok (.iload_n 2, 1) := by decide +kernel
theorem dX9_lastByWalk_3 : decode cX9_lastByWalk 3 = .ok (.invokevirtual 127, 3) := by decide +kernel
theorem dX9_lastByWalk_6 : decode cX9_lastByWalk 6 = .ok (.ireturn, 1) := by decide +kernel
theorem dX9_mean_0 : decode cX9_mean 0 = .ok (.aload_n 0, 1) := by decide +kernel
theorem dX9_mean_1 : decode cX9_mean 1 = .ok (.iload_n 1, 1) := by decide +kernel
theorem dX9_mean_2 : decode cX9_mean 2 = .ok (.iload_n 2, 1) := by decide +kernel
theorem dX9_mean_3 : decode cX9_mean 3 = .ok (.invokevirtual 120, 3) := by decide +kernel
theorem dX9_mean_6 : decode cX9_mean 6 = .ok (.istore_n 3, 1) := by decide +kernel
theorem dX9_mean_7 : decode cX9_mean 7 = .ok (.aload_n 0, 1) := by decide +kernel
theorem dX9_mean_8 : decode cX9_mean 8 = .ok (.getfield 53, 3) := by decide +kernel
theorem dX9_mean_11 : decode cX9_mean 11 = .ok (.ifCond .le 5, 3) := by decide +kernel
theorem dX9_mean_14 : decode cX9_mean 14 = .ok (.fconst 0, 1) := by decide +kernel
theorem dX9_mean_15 : decode cX9_mean 15 = .ok (.freturn, 1) := by decide +kernel
theorem dX9_mean_16 : decode cX9_mean 16 = .ok (.iload_n 3, 1) := by decide +kernel
theorem dX9_mean_17 : decode cX9_mean 17 = .ok (.i2f, 1) := by decide +kernel
theorem dX9_mean_18 : decode cX9_mean 18 = .ok (.aload_n 0, 1) := by decide +kernel
theorem dX9_mean_19 : decode cX9_mean 19 = .ok (.iload_n 1, 1) := by decide +kernel
theorem dX9_mean_20 : decode cX9_mean 20 = .ok (.iload_n 2, 1) := by decide +kernel
theorem dX9_mean_21 : decode cX9_mean 21 = .ok (.invokevirtual 130, 3) := by decide +kernel
theorem dX9_mean_24 : decode cX9_mean 24 = .ok (.i2f, 1) := by decide +kernel
theorem dX9_mean_25 : decode cX9_mean 25 = .ok (.fdiv, 1) := by decide +kernel
theorem dX9_mean_26 : decode cX9_mean 26 = .ok (.freturn, 1) := by decide +kernel
theorem dX9_parent_0 : decode cX9_parent 0 = .ok (.aload_n 0, 1) := by decide +kernel
theorem dX9_parent_1 : decode cX9_parent 1 = .ok (.iload_n 1, 1) := by decide +kernel
theorem dX9_parent_2 : decode cX9_parent 2 = .ok (.iload_n 2, 1) := by decide +kernel
theorem dX9_parent_3 : decode cX9_parent 3 = .ok (.invokevirtual 117, 3) := by decide +kernel
theorem dX9_parent_6 : decode cX9_parent 6 = .ok (.ifCond .eq 5, 3) := by decide +kernel
theorem dX9_parent_9 : decode cX9_parent 9 = .ok (.iconst 0, 1) := by decide +kernel
theorem dX9_parent_10 : decode cX9_parent 10 = .ok (.ireturn, 1) := by decide +kernel
theorem dX9_parent_11 : decode cX9_parent 11 = .ok (.iload_n 2, 1) := by decide +kernel
theorem dX9_parent_12 : decode cX9_parent 12 = .ok (.iload_n 1, 1) := by decide +kernel
theorem dX9_parent_13 : decode cX9_parent 13 = .ok (.if_icmp .ne 11, 3) := by decide +kernel
theorem dX9_parent_16 : decode cX9_parent 16 = .ok (.aload_n 0, 1) := by decide +kernel
theorem dX9_parent_17 : decode cX9_parent 17 = .ok (.iconst 3, 1) := by decide +kernel
theorem dX9_parent_18 : decode cX9_parent 18 = .ok (.invokevirtual 78, 3) := by decide +kernel
theorem dX9_parent_21 : decode cX9_parent 21 = .ok (.goto 9, 3) := by decide +kernel
theorem dX9_parent_24 : decode cX9_parent 24 = .ok (.aload_n 0, 1) := by decide +kernel
theorem dX9_parent_25 : decode cX9_parent 25 = .ok (.getfield 38, 3) := by decide +kernel
theorem dX9_parent_28 : decode cX9_parent 28 = .ok (.iload_n 2, 1) := by decide +kernel
theorem dX9_parent_29 : decode cX9_parent 29 = .ok (.iaload, 1) := by decide +kernel
theorem dX9_parent_30 : decode cX9_parent 30 = .ok (.ireturn, 1) := by decide +kernel
theorem dX9_depth_0 : decode cX9_depth 0 = .ok (.aload_n 0, 1) := by decide +kernel
theorem dX9_depth_1 : decode cX9_depth 1 = .ok (.iload_n 1, 1) := by decide +kernel
theorem dX9_depth_2 : decode cX9_depth 2 = .ok (.iload_n 2, 1) := by decide +kernel
theorem dX9_depth_3 : decode cX9_depth 3 = .ok (.invokevirtual 117, 3) := by decide +kernel
theorem dX9_depth_6 : decode cX9_depth 6 = .ok (.ifCond .eq 7, 3) := by decide +kernel
theorem dX9_depth_9 : decode cX9_depth 9 = .ok (.iconst 0, 1) := by decide +kernel
theorem dX9_depth_10 : decode cX9_depth 10 = .ok (.goto 9, 3) := by decide +kernel
theorem dX9_depth_13 : decode cX9_depth 13 = .ok (.aload_n 0, 1) := by decide +kernel
theorem dX9_depth_14 : decode cX9_depth 14 = .ok (.getfield 41, 3) := by decide +kernel
theorem dX9_depth_17 : decode cX9_depth 17 = .ok (.iload_n 2, 1) := by decide +kernel
theorem dX9_depth_18 : decode cX9_depth 18 = .ok (.iaload, 1) := by decide +kernel
theorem dX9_depth_19 : decode cX9_depth 19 = .ok (.ireturn, 1) := by decide +kernel
theorem dX9_ancestor_0 : decode cX9_ancestor 0 = .ok (.aload_n 0, 1) := by decide +kernel
theorem dX9_ancestor_1 : decode cX9_ancestor 1 = .ok (.iload_n 1, 1) := by decide +kernel
theorem dX9_ancestor_2 : decode cX9_ancestor 2 = .ok (.iload_n 2, 1) := by decide +kernel
theorem dX9_ancestor_3 : decode cX9_ancestor 3 = .ok (.invokevirtual 117, 3) := by decide +kernel
theorem dX9_ancestor_6 : decode cX9_ancestor 6 = .ok (.ifCond .eq 5, 3) := by decide +kernel
theorem dX9_ancestor_9 : decode cX9_ancestor 9 = .ok (.iconst 0, 1) := by decide +kernel
theorem dX9_ancestor_10 : decode cX9_ancestor 10 = .ok (.ireturn, 1) := by decide +kernel
theorem dX9_ancestor_11 : decode cX9_ancestor 11 = .ok (.iload_n 3, 1) := by decide +kernel
theorem dX9_ancestor_12 : decode cX9_ancestor 12 = .ok (.iconst 0, 1) := by decide +kernel
theorem dX9_ancestor_13 : decode cX9_ancestor 13 = .ok (.aload_n 0, 1) := by decide +kernel
theorem dX9_ancestor_14 : decode cX9_ancestor 14 = .ok (.getfield 41, 3) := by decide +kernel
theorem dX9_ancestor_17 : decode cX9_ancestor 17 = .ok (.iload_n 2, 1) := by decide +kernel
theorem dX9_ancestor_18 : decode cX9_ancestor 18 = .ok (.iaload, 1) := by decide +kernel
theorem dX9_ancestor_19 : decode cX9_ancestor 19 = .ok (.invokestatic 60, 3) := by decide +kernel
theorem dX9_ancestor_22 : decode cX9_ancestor 22 = .ok (.ifCond .ne 9, 3) := by decide +kernel
theorem dX9_ancestor_25 : decode cX9_ancestor 25 = .ok (.aload_n 0, 1) := by decide +kernel
theorem dX9_ancestor_26 : decode cX9_ancestor 26 = .ok (.iconst 3, 1) := by decide +kernel
theorem dX9_ancestor_27 : decode cX9_ancestor 27 = .ok (.invokevirtual 78, 3) := by decide +kernel
theorem dX9_ancestor_30 : decode cX9_ancestor 30 = .ok (.ireturn, 1) := by decide +kernel
theorem dX9_ancestor_31 : decode cX9_ancestor 31 = .ok (.iload_n 2, 1) := by decide +kernel
theorem dX9_ancestor_32 : decode cX9_ancestor 32 = .ok (.istore 4, 2) := by decide +kernel
theorem dX9_ancestor_34 : decode cX9_ancestor 34 = .ok (.iconst 0, 1) := by decide +kernel
theorem dX9_ancestor_35 : decode cX9_ancestor 35 = .ok (.istore 5, 2) := by decide +kernel
theorem dX9_ancestor_37 : decode cX9_ancestor 37 = .ok (.iload 5, 2) := by decide +kernel
theorem dX9_ancestor_39 : decode cX9_ancestor 39 = .ok (.iload_n 3, 1) := by decide +kernel
theorem dX9_ancestor_40 : decode cX9_ancestor 40 = .ok (.if_icmp .ge 18, 3) := by decide +kernel
theorem dX9_ancestor_43 : decode cX9_ancestor 43 = .ok (.aload_n 0, 1) := by decide +kernel
theorem dX9_ancestor_44 : decode cX9_ancestor 44 = .ok (.getfield 38, 3) := by decide +kernel
theorem dX9_ancestor_47 : decode cX9_ancestor 47 = .ok (.iload 4, 2) := by decide +kernel
theorem dX9_ancestor_49 : decode cX9_ancestor 49 = .ok (.iaload, 1) := by decide +kernel
theorem dX9_ancestor_50 : decode cX9_ancestor 50 = .ok (.istore 4, 2) := by decide +kernel
theorem dX9_ancestor_52 : decode cX9_ancestor 52 = .ok (.iinc 5 1, 3) := by decide +kernel
theorem dX9_ancestor_55 : decode cX9_ancestor 55 = .ok (.goto (-18), 3) := by decide +kernel
theorem dX9_ancestor_58 : decode cX9_ancestor 58 = .ok (.iload 4, 2) := by decide +kernel
theorem dX9_ancestor_60 : decode cX9_ancestor 60 = .ok (.ireturn, 1) := by decide +kernel
theorem dX9_ancestorByWalk_0 : decode cX9_ancestorByWalk 0 = .ok (.aload_n 0, 1) := by decide +kernel
theorem dX9_ancestorByWalk_1 : decode cX9_ancestorByWalk 1 = .ok (.iload_n 1, 1) := by decide +kernel
theorem dX9_ancestorByWalk_2 : decode cX9_ancestorByWalk 2 = .ok (.iload_n 2, 1) := by decide +kernel
theorem dX9_ancestorByWalk_3 : decode cX9_ancestorByWalk 3 = .ok (.iload_n 3, 1) := by decide +kernel
theorem dX9_ancestorByWalk_4 : decode cX9_ancestorByWalk 4 = .ok (.invokevirtual 133, 3) := by decide +kernel
theorem dX9_ancestorByWalk_7 : decode cX9_ancestorByWalk 7 = .ok (.ireturn, 1) := by decide +kernel
theorem dX9_common_0 : decode cX9_common 0 = .ok (.aload_n 0, 1) := by decide +kernel
theorem dX9_common_1 : decode cX9_common 1 = .ok (.iconst 0, 1) := by decide +kernel
theorem dX9_common_2 : decode cX9_common 2 = .ok (.putfield 53, 3) := by decide +kernel
theorem dX9_common_5 : decode cX9_common 5 = .ok (.aload_n 0, 1) := by decide +kernel
theorem dX9_common_6 : decode cX9_common 6 = .ok (.iload_n 1, 1) := by decide +kernel
theorem dX9_common_7 : decode cX9_common 7 = .ok (.invokevirtual 84, 3) := by decide +kernel
theorem dX9_common_10 : decode cX9_common 10 = .ok (.ifCond .eq 19, 3) := by decide +kernel
theorem dX9_common_13 : decode cX9_common 13 = .ok (.aload_n 0, 1) := by decide +kernel
theorem dX9_common_14 : decode cX9_common 14 = .ok (.iload_n 2, 1) := by decide +kernel
theorem dX9_common_15 : decode cX9_common 15 = .ok (.invokevirtual 84, 3) := by decide +kernel
theorem dX9_common_18 : decode cX9_common 18 = .ok (.ifCond .eq 11, 3) := by decide +kernel
theorem dX9_common_21 : decode cX9_common 21 = .ok (.aload_n 0, 1) := by decide +kernel
theorem dX9_common_22 : decode cX9_common 22 = .ok (.iload_n 3, 1) := by decide +kernel
theorem dX9_common_23 : decode cX9_common 23 = .ok (.invokevirtual 84, 3) := by decide +kernel
theorem dX9_common_26 : decode cX9_common 26 = .ok (.ifCond .ne 9, 3) := by decide +kernel
theorem dX9_common_29 : decode cX9_common 29 = .ok (.aload_n 0, 1) := by decide +kernel
theorem dX9_common_30 : decode cX9_common 30 = .ok (.iconst 1, 1) := by decide +kernel
theorem dX9_common_31 : decode cX9_common 31 = .ok (.invokevirtual 78, 3) := by decide +kernel
theorem dX9_common_34 : decode cX9_common 34 = .ok (.ireturn, 1) := by decide +kernel
theorem dX9_common_35 : decode cX9_common 35 = .ok (.aload_n 0, 1) := by decide +kernel
theorem dX9_common_36 : decode cX9_common 36 = .ok (.iload_n 1, 1) := by decide +kernel
theorem dX9_common_37 : decode cX9_common 37 = .ok (.invokevirtual 97, 3) := by decide +kernel
theorem dX9_common_40 : decode cX9_common 40 = .ok (.aload_n 0, 1) := by decide +kernel
theorem dX9_common_41 : decode cX9_common 41 = .ok (.getfield 38, 3) := by decide +kernel
theorem dX9_common_44 : decode cX9_common 44 = .ok (.iload_n 2, 1) := by decide +kernel
theorem dX9_common_45 : decode cX9_common 45 = .ok (.iaload, 1) := by decide +kernel
theorem dX9_common_46 : decode cX9_common 46 = .ok (.bipush (-2), 2) := by decide +kernel
theorem dX9_common_48 : decode cX9_common 48 = .ok (.if_icmp .eq 14, 3) := by decide +kernel
theorem dX9_common_51 : decode cX9_common 51 = .ok (.aload_n 0, 1) := by decide +kernel
theorem dX9_common_52 : decode cX9_common 52 = .ok (.getfield 38, 3) := by decide +kernel
theorem dX9_common_55 : decode cX9_common 55 = .ok (.iload_n 3, 1) := by decide +kernel
theorem dX9_common_56 : decode cX9_common 56 = .ok (.iaload, 1) := by decide +kernel
theorem dX9_common_57 : decode cX9_common 57 = .ok (.bipush (-2), 2) := by decide +kernel
theorem dX9_common_59 : decode cX9_common 59 = .ok (.if_icmp .ne 9, 3) := by decide +kernel
theorem dX9_common_62 : decode cX9_common 62 = .ok (.aload_n 0, 1) := by decide +kernel
theorem dX9_common_63 : decode cX9_common 63 = .ok (.iconst 2, 1) := by decide +kernel
theorem dX9_common_64 : decode cX9_common 64 = .ok (.invokevirtual 78, 3) := by decide +kernel
theorem dX9_common_67 : decode cX9_common 67 = .ok (.ireturn, 1) := by decide +kernel
theorem dX9_common_68 : decode cX9_common 68 = .ok (.iload_n 2, 1) := by decide +kernel
theorem dX9_common_69 : decode cX9_common 69 = .ok (.istore 4, 2) := by decide +kernel
theorem dX9_common_71 : decode cX9_common 71 = .ok (.iload_n 3, 1) := by decide +kernel
theorem dX9_common_72 : decode cX9_common 72 = .ok (.istore 5, 2) := by decide +kernel
theorem dX9_common_74 : decode cX9_common 74 = .ok (.iload 4, 2) := by decide +kernel
theorem dX9_common_76 : decode cX9_common 76 = .ok (.iload 5, 2) := by decide +kernel
theorem dX9_common_78 : decode cX9_common 78 = .ok (.if_icmp .eq 44, 3) := by decide +kernel
theorem dX9_common_81 : decode cX9_common 81 = .ok (.aload_n 0, 1) := by decide +kernel
theorem dX9_common_82 : decode cX9_common 82 = .ok (.getfield 41, 3) := by decide +kernel
theorem dX9_common_85 : decode cX9_common 85 = .ok (.iload 4, 2) := by decide +kernel
theorem dX9_common_87 : decode cX9_common 87 = .ok (.iaload, 1) := by decide +kernel
theorem dX9_common_88 : decode cX9_common 88 = .ok (.aload_n 0, 1) := by decide +kernel
theorem dX9_common_89 : decode cX9_common 89 = .ok (.getfield 41, 3) := by decide +kernel
theorem dX9_common_92 : decode cX9_common 92 = .ok (.iload 5, 2) := by decide +kernel
theorem dX9_common_94 : decode cX9_common 94 = .ok (.iaload, 1) := by decide +kernel
theorem dX9_common_95 : decode cX9_common 95 = .ok (.if_icmp .lt 15, 3) := by decide +kernel
theorem dX9_common_98 : decode cX9_common 98 = .ok (.aload_n 0, 1) := by decide +kernel
theorem dX9_common_99 : decode cX9_common 99 = .ok (.getfield 38, 3) := by decide +kernel
theorem dX9_common_102 : decode cX9_common 102 = .ok (.iload 4, 2) := by decide +kernel
theorem dX9_common_104 : decode cX9_common 104 = .ok (.iaload, 1) := by decide +kernel
theorem dX9_common_105 : decode cX9_common 105 = .ok (.istore 4, 2) := by decide +kernel
theorem dX9_common_107 : decode cX9_common 107 = .ok (.goto (-33), 3) := by decide +kernel
theorem dX9_common_110 : decode cX9_common 110 = .ok (.aload_n 0, 1) := by decide +kernel
theorem dX9_common_111 : decode cX9_common 111 = .ok (.getfield 38, 3) := by decide +kernel
theorem dX9_common_114 : decode cX9_common 114 = .ok (.iload 5, 2) := by decide +kernel
theorem dX9_common_116 : decode cX9_common 116 = .ok (.iaload, 1) := by decide +kernel
theorem dX9_common_117 : decode cX9_common 117 = .ok (.istore 5, 2) := by decide +kernel
theorem dX9_common_119 : decode cX9_common 119 = .ok (.goto (-45), 3) := by decide +kernel
theorem dX9_common_122 : decode cX9_common 122 = .ok (.iload 4, 2) := by decide +kernel
theorem dX9_common_124 : decode cX9_common 124 = .ok (.ireturn, 1) := by decide +kernel
theorem dX9_commonByWalk_0 : decode cX9_commonByWalk 0 = .ok (.aload_n 0, 1) := by decide +kernel
theorem dX9_commonByWalk_1 : decode cX9_commonByWalk 1 = .ok (.iload_n 1, 1) := by decide +kernel
theorem dX9_commonByWalk_2 : decode cX9_commonByWalk 2 = .ok (.iload_n 2, 1) := by decide +kernel
theorem dX9_commonByWalk_3 : decode cX9_commonByWalk 3 = .ok (.iload_n 3, 1) := by decide +kernel
theorem dX9_commonByWalk_4 : decode cX9_commonByWalk 4 = .ok (.invokevirtual 137, 3) := by decide +kernel
theorem dX9_commonByWalk_7 : decode cX9_commonByWalk 7 = .ok (.ireturn, 1) := by decide +kernel
theorem dX9_subtreeSize_0 : decode cX9_subtreeSize 0 = .ok (.aload_n 0, 1) := by decide +kernel
theorem dX9_subtreeSize_1 : decode cX9_subtreeSize 1 = .ok (.iload_n 1, 1) := by decide +kernel
theorem dX9_subtreeSize_2 : decode cX9_subtreeSize 2 = .ok (.iload_n 2, 1) := by decide +kernel
theorem dX9_subtreeSize_3 : decode cX9_subtreeSize 3 = .ok (.invokevirtual 117, 3) := by decide +kernel
theorem dX9_subtreeSize_6 : decode cX9_subtreeSize 6 = .ok (.ifCond .eq 7, 3) := by decide +kernel
theorem dX9_subtreeSize_9 : decode cX9_subtreeSize 9 = .ok (.iconst 0, 1) := by decide +kernel
theorem dX9_subtreeSize_10 : decode cX9_subtreeSize 10 = .ok (.goto 9, 3) := by decide +kernel
theorem dX9_subtreeSize_13 : decode cX9_subtreeSize 13 = .ok (.aload_n 0, 1) := by decide +kernel
theorem dX9_subtreeSize_14 : decode cX9_subtreeSize 14 = .ok (.getfield 44, 3) := by decide +kernel
theorem dX9_subtreeSize_17 : decode cX9_subtreeSize 17 = .ok (.iload_n 2, 1) := by decide +kernel
theorem dX9_subtreeSize_18 : decode cX9_subtreeSize 18 = .ok (.iaload, 1) := by decide +kernel
theorem dX9_subtreeSize_19 : decode cX9_subtreeSize 19 = .ok (.ireturn, 1) := by decide +kernel
theorem dX9_subtreeSum_0 : decode cX9_subtreeSum 0 = .ok (.aload_n 0, 1) := by decide +kernel
theorem dX9_subtreeSum_1 : decode cX9_subtreeSum 1 = .ok (.iload_n 1, 1) := by decide +kernel
theorem dX9_subtreeSum_2 : decode cX9_subtreeSum 2 = .ok (.iload_n 2, 1) := by decide +kernel
theorem dX9_subtreeSum_3 : decode cX9_subtreeSum 3 = .ok (.invokevirtual 117, 3) := by decide +kernel
theorem dX9_subtreeSum_6 : decode cX9_subtreeSum 6 = .ok (.ifCond .eq 5, 3) := by decide +kernel
theorem dX9_subtreeSum_9 : decode cX9_subtreeSum 9 = .ok (.iconst 0, 1) := by decide +kernel
theorem dX9_subtreeSum_10 : decode cX9_subtreeSum 10 = .ok (.ireturn, 1) := by decide +kernel
theorem dX9_subtreeSum_11 : decode cX9_subtreeSum 11 = .ok (.iconst 0, 1) := by decide +kernel
theorem dX9_subtreeSum_12 : decode cX9_subtreeSum 12 = .ok (.istore_n 3, 1) := by decide +kernel
theorem dX9_subtreeSum_13 : decode cX9_subtreeSum 13 = .ok (.iconst 0, 1) := by decide +kernel
theorem dX9_subtreeSum_14 : decode cX9_subtreeSum 14 = .ok (.istore 4, 2) := by decide +kernel
theorem dX9_subtreeSum_16 : decode cX9_subtreeSum 16 = .ok (.iload 4, 2) := by decide +kernel
theorem dX9_subtreeSum_18 : decode cX9_subtreeSum 18 = .ok (.aload_n 0, 1) := by decide +kernel
theorem dX9_subtreeSum_19 : decode cX9_subtreeSum 19 = .ok (.getfield 94, 3) := by decide +kernel
theorem dX9_subtreeSum_22 : decode cX9_subtreeSum 22 = .ok (.if_icmp .ge 67, 3) := by decide +kernel
theorem dX9_subtreeSum_25 : decode cX9_subtreeSum 25 = .ok (.aload_n 0, 1) := by decide +kernel
theorem dX9_subtreeSum_26 : decode cX9_subtreeSum 26 = .ok (.getfield 50, 3) := by decide +kernel
theorem dX9_subtreeSum_29 : decode cX9_subtreeSum 29 = .ok (.iload 4, 2) := by decide +kernel
theorem dX9_subtreeSum_31 : decode cX9_subtreeSum 31 = .ok (.iaload, 1) := by decide +kernel
theorem dX9_subtreeSum_32 : decode cX9_subtreeSum 32 = .ok (.istore 5, 2) := by decide +kernel
theorem dX9_subtreeSum_34 : decode cX9_subtreeSum 34 = .ok (.iload 5, 2) := by decide +kernel
theorem dX9_subtreeSum_36 : decode cX9_subtreeSum 36 = .ok (.iconst (-1), 1) := by decide +kernel
theorem dX9_subtreeSum_37 : decode cX9_subtreeSum 37 = .ok (.if_icmp .eq 21, 3) := by decide +kernel
theorem dX9_subtreeSum_40 : decode cX9_subtreeSum 40 = .ok (.iload 5, 2) := by decide +kernel
theorem dX9_subtreeSum_42 : decode cX9_subtreeSum 42 = .ok (.iload_n 2, 1) := by decide +kernel
theorem dX9_subtreeSum_43 : decode cX9_subtreeSum 43 = .ok (.if_icmp .eq 15, 3) := by decide +kernel
theorem dX9_subtreeSum_46 : decode cX9_subtreeSum 46 = .ok (.aload_n 0, 1) := by decide +kernel
theorem dX9_subtreeSum_47 : decode cX9_subtreeSum 47 = .ok (.getfield 38, 3) := by decide +kernel
theorem dX9_subtreeSum_50 : decode cX9_subtreeSum 50 = .ok (.iload 5, 2) := by decide +kernel
theorem dX9_subtreeSum_52 : decode cX9_subtreeSum 52 = .ok (.iaload, 1) := by decide +kernel
theorem dX9_subtreeSum_53 : decode cX9_subtreeSum 53 = .ok (.istore 5, 2) := by decide +kernel
theorem dX9_subtreeSum_55 : decode cX9_subtreeSum 55 = .ok (.goto (-21), 3) := by decide +kernel
theorem dX9_subtreeSum_58 : decode cX9_subtreeSum 58 = .ok (.iload_n 3, 1) := by decide +kernel
theorem dX9_subtreeSum_59 : decode cX9_subtreeSum 59 = .ok (.iload 5, 2) := by decide +kernel
theorem dX9_subtreeSum_61 : decode cX9_subtreeSum 61 = .ok (.iload_n 2, 1) := by decide +kernel
theorem dX9_subtreeSum_62 : decode cX9_subtreeSum 62 = .ok (.if_icmp .ne 18, 3) := by decide +kernel
theorem dX9_subtreeSum_65 : decode cX9_subtreeSum 65 = .ok (.aload_n 0, 1) := by decide +kernel
theorem dX9_subtreeSum_66 : decode cX9_subtreeSum 66 = .ok (.getfield 9, 3) := by decide +kernel
theorem dX9_subtreeSum_69 : decode cX9_subtreeSum 69 = .ok (.aload_n 0, 1) := by decide +kernel
theorem dX9_subtreeSum_70 : decode cX9_subtreeSum 70 = .ok (.getfield 50, 3) := by decide +kernel
theorem dX9_subtreeSum_73 : decode cX9_subtreeSum 73 = .ok (.iload 4, 2) := by decide +kernel
theorem dX9_subtreeSum_75 : decode cX9_subtreeSum 75 = .ok (.iaload, 1) := by decide +kernel
theorem dX9_subtreeSum_76 : decode cX9_subtreeSum 76 = .ok (.iaload, 1) := by decide +kernel
theorem dX9_subtreeSum_77 : decode cX9_subtreeSum 77 = .ok (.goto 4, 3) := by decide +kernel
theorem dX9_subtreeSum_80 : decode cX9_subtreeSum 80 = .ok (.iconst 0, 1) := by decide +kernel
theorem dX9_subtreeSum_81 : decode cX9_subtreeSum 81 = .ok (.iadd, 1) := by decide +kernel
theorem dX9_subtreeSum_82 : decode cX9_subtreeSum 82 = .ok (.istore_n 3, 1) := by decide +kernel
theorem dX9_subtreeSum_83 : decode cX9_subtreeSum 83 = .ok (.iinc 4 1, 3) := by decide +kernel
theorem dX9_subtreeSum_86 : decode cX9_subtreeSum 86 = .ok (.goto (-70), 3) := by decide +kernel
theorem dX9_subtreeSum_89 : decode cX9_subtreeSum 89 = .ok (.iload_n 3, 1) := by decide +kernel
theorem dX9_subtreeSum_90 : decode cX9_subtreeSum 90 = .ok (.ireturn, 1) := by decide +kernel
theorem dX9_heavyChild_0 : decode cX9_heavyChild 0 = .ok (.aload_n 0, 1) := by decide +kernel
theorem dX9_heavyChild_1 : decode cX9_heavyChild 1 = .ok (.iload_n 1, 1) := by decide +kernel
theorem dX9_heavyChild_2 : decode cX9_heavyChild 2 = .ok (.iload_n 2, 1) := by decide +kernel
theorem dX9_heavyChild_3 : decode cX9_heavyChild 3 = .ok (.invokevirtual 117, 3) := by decide +kernel
theorem dX9_heavyChild_6 : decode cX9_heavyChild 6 = .ok (.ifCond .eq 5, 3) := by decide +kernel
theorem dX9_heavyChild_9 : decode cX9_heavyChild 9 = .ok (.iconst 0, 1) := by decide +kernel
theorem dX9_heavyChild_10 : decode cX9_heavyChild 10 = .ok (.ireturn, 1) := by decide +kernel
theorem dX9_heavyChild_11 : decode cX9_heavyChild 11 = .ok (.aload_n 0, 1) := by decide +kernel
theorem dX9_heavyChild_12 : decode cX9_heavyChild 12 = .ok (.getfield 47, 3) := by decide +kernel
theorem dX9_heavyChild_15 : decode cX9_heavyChild 15 = .ok (.iload_n 2, 1) := by decide +kernel
theorem dX9_heavyChild_16 : decode cX9_heavyChild 16 = .ok (.iaload, 1) := by decide +kernel
theorem dX9_heavyChild_17 : decode cX9_heavyChild 17 = .ok (.ifCond .ge 11, 3) := by decide +kernel
theorem dX9_heavyChild_20 : decode cX9_heavyChild 20 = .ok (.aload_n 0, 1) := by decide +kernel
theorem dX9_heavyChild_21 : decode cX9_heavyChild 21 = .ok (.iconst 3, 1) := by decide +kernel
theorem dX9_heavyChild_22 : decode cX9_heavyChild 22 = .ok (.invokevirtual 78, 3) := by decide +kernel
theorem dX9_heavyChild_25 : decode cX9_heavyChild 25 = .ok (.goto 9, 3) := by decide +kernel
theorem dX9_heavyChild_28 : decode cX9_heavyChild 28 = .ok (.aload_n 0, 1) := by decide +kernel
theorem dX9_heavyChild_29 : decode cX9_heavyChild 29 = .ok (.getfield 47, 3) := by decide +kernel
theorem dX9_heavyChild_32 : decode cX9_heavyChild 32 = .ok (.iload_n 2, 1) := by decide +kernel
theorem dX9_heavyChild_33 : decode cX9_heavyChild 33 = .ok (.iaload, 1) := by decide +kernel
theorem dX9_heavyChild_34 : decode cX9_heavyChild 34 = .ok (.ireturn, 1) := by decide +kernel
theorem dX9_isHead_0 : decode cX9_isHead 0 = .ok (.aload_n 0, 1) := by decide +kernel
theorem dX9_isHead_1 : decode cX9_isHead 1 = .ok (.getfield 38, 3) := by decide +kernel
theorem dX9_isHead_4 : decode cX9_isHead 4 = .ok (.iload_n 1, 1) := by decide +kernel
theorem dX9_isHead_5 : decode cX9_isHead 5 = .ok (.iaload, 1) := by decide +kernel
theorem dX9_isHead_6 : decode cX9_isHead 6 = .ok (.iconst (-1), 1) := by decide +kernel
theorem dX9_isHead_7 : decode cX9_isHead 7 = .ok (.if_icmp .eq 18, 3) := by decide +kernel
theorem dX9_isHead_10 : decode cX9_isHead 10 = .ok (.aload_n 0, 1) := by decide +kernel
theorem dX9_isHead_11 : decode cX9_isHead 11 = .ok (.getfield 47, 3) := by decide +kernel
theorem dX9_isHead_14 : decode cX9_isHead 14 = .ok (.aload_n 0, 1) := by decide +kernel
theorem dX9_isHead_15 : decode cX9_isHead 15 = .ok (.getfield 38, 3) := by decide +kernel
theorem dX9_isHead_18 : decode cX9_isHead 18 = .ok (.iload_n 1, 1) := by decide +kernel
theorem dX9_isHead_19 : decode cX9_isHead 19 = .ok (.iaload, 1) := by decide +kernel
theorem dX9_isHead_20 : decode cX9_isHead 20 = .ok (.iaload, 1) := by decide +kernel
theorem dX9_isHead_21 : decode cX9_isHead 21 = .ok (.iload_n 1, 1) := by decide +kernel
theorem dX9_isHead_22 : decode cX9_isHead 22 = .ok (.if_icmp .eq 7, 3) := by decide +kernel
theorem dX9_isHead_25 : decode cX9_isHead 25 = .ok (.iconst 1, 1) := by decide +kernel
theorem dX9_isHead_26 : decode cX9_isHead 26 = .ok (.goto 4, 3) := by decide +kernel
theorem dX9_isHead_29 : decode cX9_isHead 29 = .ok (.iconst 0, 1) := by decide +kernel
theorem dX9_isHead_30 : decode cX9_isHead 30 = .ok (.ireturn, 1) := by decide +kernel
theorem dX9_head_0 : decode cX9_head 0 = .ok (.aload_n 0, 1) := by decide +kernel
theorem dX9_head_1 : decode cX9_head 1 = .ok (.iload_n 1, 1) := by decide +kernel
theorem dX9_head_2 : decode cX9_head 2 = .ok (.iload_n 2, 1) := by decide +kernel
theorem dX9_head_3 : decode cX9_head 3 = .ok (.invokevirtual 117, 3) := by decide +kernel
theorem dX9_head_6 : decode cX9_head 6 = .ok (.ifCond .eq 5, 3) := by decide +kernel
theorem dX9_head_9 : decode cX9_head 9 = .ok (.iconst 0, 1) := by decide +kernel
theorem dX9_head_10 : decode cX9_head 10 = .ok (.ireturn, 1) := by decide +kernel
theorem dX9_head_11 : decode cX9_head 11 = .ok (.iload_n 2, 1) := by decide +kernel
theorem dX9_head_12 : decode cX9_head 12 = .ok (.istore_n 3, 1) := by decide +kernel
theorem dX9_head_13 : decode cX9_head 13 = .ok (.aload_n 0, 1) := by decide +kernel
theorem dX9_head_14 : decode cX9_head 14 = .ok (.iload_n 3, 1) := by decide +kernel
theorem dX9_head_15 : decode cX9_head 15 = .ok (.invokevirtual 140, 3) := by decide +kernel
theorem dX9_head_18 : decode cX9_head 18 = .ok (.ifCond .ne 13, 3) := by decide +kernel
theorem dX9_head_21 : decode cX9_head 21 = .ok (.aload_n 0, 1) := by decide +kernel
theorem dX9_head_22 : decode cX9_head 22 = .ok (.getfield 38, 3) := by decide +kernel
theorem dX9_head_25 : decode cX9_head 25 = .ok (.iload_n 3, 1) := by decide +kernel
theorem dX9_head_26 : decode cX9_head 26 = .ok (.iaload, 1) := by decide +kernel
theorem dX9_head_27 : decode cX9_head 27 = .ok (.istore_n 3, 1) := by decide +kernel
theorem dX9_head_28 : decode cX9_head 28 = .ok (.goto (-15), 3) := by decide +kernel
theorem dX9_head_31 : decode cX9_head 31 = .ok (.iload_n 3, 1) := by decide +kernel
theorem dX9_head_32 : decode cX9_head 32 = .ok (.ireturn, 1) := by decide +kernel
theorem dX9_heavyPaths_0 : decode cX9_heavyPaths 0 = .ok (.aload_n 0, 1) := by decide +kernel
theorem dX9_heavyPaths_1 : decode cX9_heavyPaths 1 = .ok (.iload_n 1, 1) := by decide +kernel
theorem dX9_heavyPaths_2 : decode cX9_heavyPaths 2 = .ok (.iload_n 1, 1) := by decide +kernel
theorem dX9_heavyPaths_3 : decode cX9_heavyPaths 3 = .ok (.invokevirtual 117, 3) := by decide +kernel
theorem dX9_heavyPaths_6 : decode cX9_heavyPaths 6 = .ok (.ifCond .eq 5, 3) := by decide +kernel
theorem dX9_heavyPaths_9 : decode cX9_heavyPaths 9 = .ok (.iconst 0, 1) := by decide +kernel
theorem dX9_heavyPaths_10 : decode cX9_heavyPaths 10 = .ok (.ireturn, 1) := by decide +kernel
theorem dX9_heavyPaths_11 : decode cX9_heavyPaths 11 = .ok (.iconst 0, 1) := by decide +kernel
theorem dX9_heavyPaths_12 : decode cX9_heavyPaths 12 = .ok (.istore_n 2, 1) := by decide +kernel
theorem dX9_heavyPaths_13 : decode cX9_heavyPaths 13 = .ok (.iconst 0, 1) := by decide +kernel
theorem dX9_heavyPaths_14 : decode cX9_heavyPaths 14 = .ok (.istore_n 3, 1) := by decide +kernel
theorem dX9_heavyPaths_15 : decode cX9_heavyPaths 15 = .ok (.iload_n 3, 1) := by decide +kernel
theorem dX9_heavyPaths_16 : decode cX9_heavyPaths 16 = .ok (.aload_n 0, 1) := by decide +kernel
theorem dX9_heavyPaths_17 : decode cX9_heavyPaths 17 = .ok (.getfield 94, 3) := by decide +kernel
theorem dX9_heavyPaths_20 : decode cX9_heavyPaths 20 = .ok (.if_icmp .ge 30, 3) := by decide +kernel
theorem dX9_heavyPaths_23 : decode cX9_heavyPaths 23 = .ok (.iload_n 2, 1) := by decide +kernel
theorem dX9_heavyPaths_24 : decode cX9_heavyPaths 24 = .ok (.aload_n 0, 1) := by decide +kernel
theorem dX9_heavyPaths_25 : decode cX9_heavyPaths 25 = .ok (.aload_n 0, 1) := by decide +kernel
theorem dX9_heavyPaths_26 : decode cX9_heavyPaths 26 = .ok (.getfield 50, 3) := by decide +kernel
theorem dX9_heavyPaths_29 : decode cX9_heavyPaths 29 = .ok (.iload_n 3, 1) := by decide +kernel
theorem dX9_heavyPaths_30 : decode cX9_heavyPaths 30 = .ok (.iaload, 1) := by decide +kernel
theorem dX9_heavyPaths_31 : decode cX9_heavyPaths 31 = .ok (.invokevirtual 140, 3) := by decide +kernel
theorem dX9_heavyPaths_34 : decode cX9_heavyPaths 34 = .ok (.ifCond .eq 7, 3) := by decide +kernel
theorem dX9_heavyPaths_37 : decode cX9_heavyPaths 37 = .ok (.iconst 1, 1) := by decide +kernel
theorem dX9_heavyPaths_38 : decode cX9_heavyPaths 38 = .ok (.goto 4, 3) := by decide +kernel
theorem dX9_heavyPaths_41 : decode cX9_heavyPaths 41 = .ok (.iconst 0, 1) := by decide +kernel
theorem dX9_heavyPaths_42 : decode cX9_heavyPaths 42 = .ok (.iadd, 1) := by decide +kernel
theorem dX9_heavyPaths_43 : decode cX9_heavyPaths 43 = .ok (.istore_n 2, 1) := by decide +kernel
theorem dX9_heavyPaths_44 : decode cX9_heavyPaths 44 = .ok (.iinc 3 1, 3) := by decide +kernel
theorem dX9_heavyPaths_47 : decode cX9_heavyPaths 47 = .ok (.goto (-32), 3) := by decide +kernel
theorem dX9_heavyPaths_50 : decode cX9_heavyPaths 50 = .ok (.iload_n 2, 1) := by decide +kernel
theorem dX9_heavyPaths_51 : decode cX9_heavyPaths 51 = .ok (.ireturn, 1) := by decide +kernel
theorem dX9_lightEdges_0 : decode cX9_lightEdges 0 = .ok (.aload_n 0, 1) := by decide +kernel
theorem dX9_lightEdges_1 : decode cX9_lightEdges 1 = .ok (.iload_n 1, 1) := by decide +kernel
theorem dX9_lightEdges_2 : decode cX9_lightEdges 2 = .ok (.iload_n 2, 1) := by decide +kernel
theorem dX9_lightEdges_3 : decode cX9_lightEdges 3 = .ok (.invokevirtual 117, 3) := by decide +kernel
theorem dX9_lightEdges_6 : decode cX9_lightEdges 6 = .ok (.ifCond .eq 5, 3) := by decide +kernel
theorem dX9_lightEdges_9 : decode cX9_lightEdges 9 = .ok (.iconst 0, 1) := by decide +kernel
theorem dX9_lightEdges_10 : decode cX9_lightEdges 10 = .ok (.ireturn, 1) := by decide +kernel
theorem dX9_lightEdges_11 : decode cX9_lightEdges 11 = .ok (.iconst 0, 1) := by decide +kernel
theorem dX9_lightEdges_12 : decode cX9_lightEdges 12 = .ok (.istore_n 3, 1) := by decide +kernel
theorem dX9_lightEdges_13 : decode cX9_lightEdges 13 = .ok (.iload_n 2, 1) := by decide +kernel
theorem dX9_lightEdges_14 : decode cX9_lightEdges 14 = .ok (.istore 4, 2) := by decide +kernel
theorem dX9_lightEdges_16 : decode cX9_lightEdges 16 = .ok (.iload 4, 2) := by decide +kernel
theorem dX9_lightEdges_18 : decode cX9_lightEdges 18 = .ok (.iload_n 1, 1) := by decide +kernel
theorem dX9_lightEdges_19 : decode cX9_lightEdges 19 = .ok (.if_icmp .eq 32, 3) := by decide +kernel
theorem dX9_lightEdges_22 : decode cX9_lightEdges 22 = .ok (.iload_n 3, 1) := by decide +kernel
theorem dX9_lightEdges_23 : decode cX9_lightEdges 23 = .ok (.aload_n 0, 1) := by decide +kernel
theorem dX9_lightEdges_24 : decode cX9_lightEdges 24 = .ok (.iload 4, 2) := by decide +kernel
theorem dX9_lightEdges_26 : decode cX9_lightEdges 26 = .ok (.invokevirtual 140, 3) := by decide +kernel
theorem dX9_lightEdges_29 : decode cX9_lightEdges 29 = .ok (.ifCond .eq 7, 3) := by decide +kernel
theorem dX9_lightEdges_32 : decode cX9_lightEdges 32 = .ok (.iconst 1, 1) := by decide +kernel
theorem dX9_lightEdges_33 : decode cX9_lightEdges 33 = .ok (.goto 4, 3) := by decide +kernel
theorem dX9_lightEdges_36 : decode cX9_lightEdges 36 = .ok (.iconst 0, 1) := by decide +kernel
theorem dX9_lightEdges_37 : decode cX9_lightEdges 37 = .ok (.iadd, 1) := by decide +kernel
theorem dX9_lightEdges_38 : decode cX9_lightEdges 38 = .ok (.istore_n 3, 1) := by decide +kernel
theorem dX9_lightEdges_39 : decode cX9_lightEdges 39 = .ok (.aload_n 0, 1) := by decide +kernel
theorem dX9_lightEdges_40 : decode cX9_lightEdges 40 = .ok (.getfield 38, 3) := by decide +kernel
theorem dX9_lightEdges_43 : decode cX9_lightEdges 43 = .ok (.iload 4, 2) := by decide +kernel
theorem dX9_lightEdges_45 : decode cX9_lightEdges 45 = .ok (.iaload, 1) := by decide +kernel
theorem dX9_lightEdges_46 : decode cX9_lightEdges 46 = .ok (.istore 4, 2) := by decide +kernel
theorem dX9_lightEdges_48 : decode cX9_lightEdges 48 = .ok (.goto (-32), 3) := by decide +kernel
theorem dX9_lightEdges_51 : decode cX9_lightEdges 51 = .ok (.iload_n 3, 1) := by decide +kernel
theorem dX9_lightEdges_52 : decode cX9_lightEdges 52 = .ok (.ireturn, 1) := by decide +kernel
theorem dX9_diameter_0 : decode cX9_diameter 0 = .ok (.aload_n 0, 1) := by decide +kernel
theorem dX9_diameter_1 : decode cX9_diameter 1 = .ok (.iload_n 1, 1) := by decide +kernel
theorem dX9_diameter_2 : decode cX9_diameter 2 = .ok (.iload_n 1, 1) := by decide +kernel
theorem dX9_diameter_3 : decode cX9_diameter 3 = .ok (.invokevirtual 117, 3) := by decide +kernel
theorem dX9_diameter_6 : decode cX9_diameter 6 = .ok (.ifCond .eq 5, 3) := by decide +kernel
theorem dX9_diameter_9 : decode cX9_diameter 9 = .ok (.iconst 0, 1) := by decide +kernel
theorem dX9_diameter_10 : decode cX9_diameter 10 = .ok (.ireturn, 1) := by decide +kernel
theorem dX9_diameter_11 : decode cX9_diameter 11 = .ok (.aload_n 0, 1) := by decide +kernel
theorem dX9_diameter_12 : decode cX9_diameter 12 = .ok (.aload_n 0, 1) := by decide +kernel
theorem dX9_diameter_13 : decode cX9_diameter 13 = .ok (.getfield 50, 3) := by decide +kernel
theorem dX9_diameter_16 : decode cX9_diameter 16 = .ok (.aload_n 0, 1) := by decide +kernel
theorem dX9_diameter_17 : decode cX9_diameter 17 = .ok (.getfield 94, 3) := by decide +kernel
theorem dX9_diameter_20 : decode cX9_diameter 20 = .ok (.iconst 1, 1) := by decide +kernel
theorem dX9_diameter_21 : decode cX9_diameter 21 = .ok (.isub, 1) := by decide +kernel
theorem dX9_diameter_22 : decode cX9_diameter 22 = .ok (.iaload, 1) := by decide +kernel
theorem dX9_diameter_23 : decode cX9_diameter 23 = .ok (.invokevirtual 97, 3) := by decide +kernel
theorem dX9_diameter_26 : decode cX9_diameter 26 = .ok (.aload_n 0, 1) := by decide +kernel
theorem dX9_diameter_27 : decode cX9_diameter 27 = .ok (.getfield 41, 3) := by decide +kernel
theorem dX9_diameter_30 : decode cX9_diameter 30 = .ok (.aload_n 0, 1) := by decide +kernel
theorem dX9_diameter_31 : decode cX9_diameter 31 = .ok (.getfield 50, 3) := by decide +kernel
theorem dX9_diameter_34 : decode cX9_diameter 34 = .ok (.aload_n 0, 1) := by decide +kernel
theorem dX9_diameter_35 : decode cX9_diameter 35 = .ok (.getfield 94, 3) := by decide +kernel
theorem dX9_diameter_38 : decode cX9_diameter 38 = .ok (.iconst 1, 1) := by decide +kernel
theorem dX9_diameter_39 : decode cX9_diameter 39 = .ok (.isub, 1) := by decide +kernel
theorem dX9_diameter_40 : decode cX9_diameter 40 = .ok (.iaload, 1) := by decide +kernel
theorem dX9_diameter_41 : decode cX9_diameter 41 = .ok (.iaload, 1) := by decide +kernel
theorem dX9_diameter_42 : decode cX9_diameter 42 = .ok (.ireturn, 1) := by decide +kernel
theorem dX9_diameterByTrying_0 : decode cX9_diameterByTrying 0 = .ok (.aload_n 0, 1) := by decide +kernel
theorem dX9_diameterByTrying_1 : decode cX9_diameterByTrying 1 = .ok (.iload_n 1, 1) := by decide +kernel
theorem dX9_diameterByTrying_2 : decode cX9_diameterByTrying 2 = .ok (.invokevirtual 143, 3) := by decide +kernel
theorem dX9_diameterByTrying_5 : decode cX9_diameterByTrying 5 = .ok (.ireturn, 1) := by decide +kernel
end
section
theorem dL_addVertex_0 : decode cL_addVertex 0 = .ok (.aload_n 2, 1) := by decide +kernel
theorem dL_addVertex_1 : decode cL_addVertex 1 = .ok (.iconst 0, 1) := by decide +kernel
theorem dL_addVertex_2 : decode cL_addVertex 2 = .ok (.aload_n 0, 1) := by decide +kernel
theorem dL_addVertex_3 : decode cL_addVertex 3 = .ok (.iload_n 1, 1) := by decide +kernel
theorem dL_addVertex_4 : decode cL_addVertex 4 = .ok (.invokevirtual 7, 3) := by decide +kernel
theorem dL_addVertex_7 : decode cL_addVertex 7 = .ok (.i2l, 1) := by decide +kernel
theorem dL_addVertex_8 : decode cL_addVertex 8 = .ok (.lastore, 1) := by decide +kernel
theorem dL_addVertex_9 : decode cL_addVertex 9 = .ok (.goto 9, 3) := by decide +kernel
theorem dL_addVertex_12 : decode cL_addVertex 12 = .ok (.astore_n 3, 1) := by decide +kernel
theorem dL_addVertex_13 : decode cL_addVertex 13 = .ok (.iconst 1, 1) := by decide +kernel
theorem dL_addVertex_14 : decode cL_addVertex 14 = .ok (.ireturn, 1) := by decide +kernel
theorem dL_addVertex_15 : decode cL_addVertex 15 = .ok (.astore_n 3, 1) := by decide +kernel
theorem dL_addVertex_16 : decode cL_addVertex 16 = .ok (.iconst 2, 1) := by decide +kernel
theorem dL_addVertex_17 : decode cL_addVertex 17 = .ok (.ireturn, 1) := by decide +kernel
theorem dL_addVertex_18 : decode cL_addVertex 18 = .ok (.iconst 0, 1) := by decide +kernel
theorem dL_addVertex_19 : decode cL_addVertex 19 = .ok (.ireturn, 1) := by decide +kernel
theorem dL_setValue_0 : decode cL_setValue 0 = .ok (.aload_n 3, 1) := by decide +kernel
theorem dL_setValue_1 : decode cL_setValue 1 = .ok (.iconst 0, 1) := by decide +kernel
theorem dL_setValue_2 : decode cL_setValue 2 = .ok (.aload_n 0, 1) := by decide +kernel
theorem dL_setValue_3 : decode cL_setValue 3 = .ok (.iload_n 1, 1) := by decide +kernel
theorem dL_setValue_4 : decode cL_setValue 4 = .ok (.iload_n 2, 1) := by decide +kernel
theorem dL_setValue_5 : decode cL_setValue 5 = .ok (.invokevirtual 17, 3) := by decide +kernel
theorem dL_setValue_8 : decode cL_setValue 8 = .ok (.i2l, 1) := by decide +kernel
theorem dL_setValue_9 : decode cL_setValue 9 = .ok (.lastore, 1) := by decide +kernel
theorem dL_setValue_10 : decode cL_setValue 10 = .ok (.goto 11, 3) := by decide +kernel
theorem dL_setValue_13 : decode cL_setValue 13 = .ok (.astore 4, 2) := by decide +kernel
theorem dL_setValue_15 : decode cL_setValue 15 = .ok (.iconst 1, 1) := by decide +kernel
theorem dL_setValue_16 : decode cL_setValue 16 = .ok (.ireturn, 1) := by decide +kernel
theorem dL_setValue_17 : decode cL_setValue 17 = .ok (.astore 4, 2) := by decide +kernel
theorem dL_setValue_19 : decode cL_setValue 19 = .ok (.iconst 2, 1) := by decide +kernel
theorem dL_setValue_20 : decode cL_setValue 20 = .ok (.ireturn, 1) := by decide +kernel
theorem dL_setValue_21 : decode cL_setValue 21 = .ok (.iconst 0, 1) := by decide +kernel
theorem dL_setValue_22 : decode cL_setValue 22 = .ok (.ireturn, 1) := by decide +kernel
theorem dL_addEdge_0 : decode cL_addEdge 0 = .ok (.aload 4, 2) := by decide +kernel
theorem dL_addEdge_2 : decode cL_addEdge 2 = .ok (.iconst 0, 1) := by decide +kernel
theorem dL_addEdge_3 : decode cL_addEdge 3 = .ok (.aload_n 0, 1) := by decide +kernel
theorem dL_addEdge_4 : decode cL_addEdge 4 = .ok (.iload_n 1, 1) := by decide +kernel
theorem dL_addEdge_5 : decode cL_addEdge 5 = .ok (.iload_n 2, 1) := by decide +kernel
theorem dL_addEdge_6 : decode cL_addEdge 6 = .ok (.iload_n 3, 1) := by decide +kernel
theorem dL_addEdge_7 : decode cL_addEdge 7 = .ok (.invokevirtual 23, 3) := by decide +kernel
theorem dL_addEdge_10 : decode cL_addEdge 10 = .ok (.i2l, 1) := by decide +kernel
theorem dL_addEdge_11 : decode cL_addEdge 11 = .ok (.lastore, 1) := by decide +kernel
theorem dL_addEdge_12 : decode cL_addEdge 12 = .ok (.goto 19, 3) := by decide +kernel
theorem dL_addEdge_15 : decode cL_addEdge 15 = .ok (.astore 5, 2) := by decide +kernel
theorem dL_addEdge_17 : decode cL_addEdge 17 = .ok (.iconst 1, 1) := by decide +kernel
theorem dL_addEdge_18 : decode cL_addEdge 18 = .ok (.ireturn, 1) := by decide +kernel
theorem dL_addEdge_19 : decode cL_addEdge 19 = .ok (.astore 5, 2) := by decide +kernel
theorem dL_addEdge_21 : decode cL_addEdge 21 = .ok (.iconst 2, 1) := by decide +kernel
theorem dL_addEdge_22 : decode cL_addEdge 22 = .ok (.ireturn, 1) := by decide +kernel
theorem dL_addEdge_23 : decode cL_addEdge 23 = .ok (.astore 5, 2) := by decide +kernel
theorem dL_addEdge_25 : decode cL_addEdge 25 = .ok (.iconst 3, 1) := by decide +kernel
theorem dL_addEdge_26 : decode cL_addEdge 26 = .ok (.ireturn, 1) := by decide +kernel
theorem dL_addEdge_27 : decode cL_addEdge 27 = .ok (.astore 5, 2) := by decide +kernel
theorem dL_addEdge_29 : decode cL_addEdge 29 = .ok (.iconst 4, 1) := by decide +kernel
theorem dL_addEdge_30 : decode cL_addEdge 30 = .ok (.ireturn, 1) := by decide +kernel
theorem dL_addEdge_31 : decode cL_addEdge 31 = .ok (.iconst 0, 1) := by decide +kernel
theorem dL_addEdge_32 : decode cL_addEdge 32 = .ok (.ireturn, 1) := by decide +kernel
theorem dL_removeEdge_0 : decode cL_removeEdge 0 = .ok (.aload_n 2, 1) := by decide +kernel
theorem dL_removeEdge_1 : decode cL_removeEdge 1 = .ok (.iconst 0, 1) := by decide +kernel
theorem dL_removeEdge_2 : decode cL_removeEdge 2 = .ok (.aload_n 0, 1) := by decide +kernel
theorem dL_removeEdge_3 : decode cL_removeEdge 3 = .ok (.iload_n 1, 1) := by decide +kernel
theorem dL_removeEdge_4 : decode cL_removeEdge 4 = .ok (.invokevirtual 29, 3) := by decide +kernel
theorem dL_removeEdge_7 : decode cL_removeEdge 7 = .ok (.i2l, 1) := by decide +kernel
theorem dL_removeEdge_8 : decode cL_removeEdge 8 = .ok (.lastore, 1) := by decide +kernel
theorem dL_removeEdge_9 : decode cL_removeEdge 9 = .ok (.goto 9, 3) := by decide +kernel
theorem dL_removeEdge_12 : decode cL_removeEdge 12 = .ok (.astore_n 3, 1) := by decide +kernel
theorem dL_removeEdge_13 : decode cL_removeEdge 13 = .ok (.iconst 1, 1) := by decide +kernel
theorem dL_removeEdge_14 : decode cL_removeEdge 14 = .ok (.ireturn, 1) := by decide +kernel
theorem dL_removeEdge_15 : decode cL_removeEdge 15 = .ok (.astore_n 3, 1) := by decide +kernel
theorem dL_removeEdge_16 : decode cL_removeEdge 16 = .ok (.iconst 2, 1) := by decide +kernel
theorem dL_removeEdge_17 : decode cL_removeEdge 17 = .ok (.ireturn, 1) := by decide +kernel
theorem dL_removeEdge_18 : decode cL_removeEdge 18 = .ok (.iconst 0, 1) := by decide +kernel
theorem dL_removeEdge_19 : decode cL_removeEdge 19 = .ok (.ireturn, 1) := by decide +kernel
theorem dL_setWeight_0 : decode cL_setWeight 0 = .ok (.aload_n 3, 1) := by decide +kernel
theorem dL_setWeight_1 : decode cL_setWeight 1 = .ok (.iconst 0, 1) := by decide +kernel
theorem dL_setWeight_2 : decode cL_setWeight 2 = .ok (.aload_n 0, 1) := by decide +kernel
theorem dL_setWeight_3 : decode cL_setWeight 3 = .ok (.iload_n 1, 1) := by decide +kernel
theorem dL_setWeight_4 : decode cL_setWeight 4 = .ok (.iload_n 2, 1) := by decide +kernel
theorem dL_setWeight_5 : decode cL_setWeight 5 = .ok (.invokevirtual 32, 3) := by decide +kernel
theorem dL_setWeight_8 : decode cL_setWeight 8 = .ok (.i2l, 1) := by decide +kernel
theorem dL_setWeight_9 : decode cL_setWeight 9 = .ok (.lastore, 1) := by decide +kernel
theorem dL_setWeight_10 : decode cL_setWeight 10 = .ok (.goto 15, 3) := by decide +kernel
theorem dL_setWeight_13 : decode cL_setWeight 13 = .ok (.astore 4, 2) := by decide +kernel
theorem dL_setWeight_15 : decode cL_setWeight 15 = .ok (.iconst 1, 1) := by decide +kernel
theorem dL_setWeight_16 : decode cL_setWeight 16 = .ok (.ireturn, 1) := by decide +kernel
theorem dL_setWeight_17 : decode cL_setWeight 17 = .ok (.astore 4, 2) := by decide +kernel
theorem dL_setWeight_19 : decode cL_setWeight 19 = .ok (.iconst 2, 1) := by decide +kernel
theorem dL_setWeight_20 : decode cL_setWeight 20 = .ok (.ireturn, 1) := by decide +kernel
theorem dL_setWeight_21 : decode cL_setWeight 21 = .ok (.astore 4, 2) := by decide +kernel
theorem dL_setWeight_23 : decode cL_setWeight 23 = .ok (.iconst 3, 1) := by decide +kernel
theorem dL_setWeight_24 : decode cL_setWeight 24 = .ok (.ireturn, 1) := by decide +kernel
theorem dL_setWeight_25 : decode cL_setWeight 25 = .ok (.iconst 0, 1) := by decide +kernel
theorem dL_setWeight_26 : decode cL_setWeight 26 = .ok (.ireturn, 1) := by decide +kernel
theorem dL_addOnPath_0 : decode cL_addOnPath 0 = .ok (.aload 4, 2) := by decide +kernel
theorem dL_addOnPath_2 : decode cL_addOnPath 2 = .ok (.iconst 0, 1) := by decide +kernel
theorem dL_addOnPath_3 : decode cL_addOnPath 3 = .ok (.aload_n 0, 1) := by decide +kernel
theorem dL_addOnPath_4 : decode cL_addOnPath 4 = .ok (.iload_n 1, 1) := by decide +kernel
theorem dL_addOnPath_5 : decode cL_addOnPath 5 = .ok (.iload_n 2, 1) := by decide +kernel
theorem dL_addOnPath_6 : decode cL_addOnPath 6 = .ok (.iload_n 3, 1) := by decide +kernel
theorem dL_addOnPath_7 : decode cL_addOnPath 7 = .ok (.invokevirtual 35, 3) := by decide +kernel
theorem dL_addOnPath_10 : decode cL_addOnPath 10 = .ok (.i2l, 1) := by decide +kernel
theorem dL_addOnPath_11 : decode cL_addOnPath 11 = .ok (.lastore, 1) := by decide +kernel
theorem dL_addOnPath_12 : decode cL_addOnPath 12 = .ok (.goto 15, 3) := by decide +kernel
theorem dL_addOnPath_15 : decode cL_addOnPath 15 = .ok (.astore 5, 2) := by decide +kernel
theorem dL_addOnPath_17 : decode cL_addOnPath 17 = .ok (.iconst 1, 1) := by decide +kernel
theorem dL_addOnPath_18 : decode cL_addOnPath 18 = .ok (.ireturn, 1) := by decide +kernel
theorem dL_addOnPath_19 : decode cL_addOnPath 19 = .ok (.astore 5, 2) := by decide +kernel
theorem dL_addOnPath_21 : decode cL_addOnPath 21 = .ok (.iconst 2, 1) := by decide +kernel
theorem dL_addOnPath_22 : decode cL_addOnPath 22 = .ok (.ireturn, 1) := by decide +kernel
theorem dL_addOnPath_23 : decode cL_addOnPath 23 = .ok (.astore 5, 2) := by decide +kernel
theorem dL_addOnPath_25 : decode cL_addOnPath 25 = .ok (.iconst 3, 1) := by decide +kernel
theorem dL_addOnPath_26 : decode cL_addOnPath 26 = .ok (.ireturn, 1) := by decide +kernel
theorem dL_addOnPath_27 : decode cL_addOnPath 27 = .ok (.iconst 0, 1) := by decide +kernel
theorem dL_addOnPath_28 : decode cL_addOnPath 28 = .ok (.ireturn, 1) := by decide +kernel
theorem dL_value_0 : decode cL_value 0 = .ok (.aload_n 2, 1) := by decide +kernel
theorem dL_value_1 : decode cL_value 1 = .ok (.iconst 0, 1) := by decide +kernel
theorem dL_value_2 : decode cL_value 2 = .ok (.aload_n 0, 1) := by decide +kernel
theorem dL_value_3 : decode cL_value 3 = .ok (.iload_n 1, 1) := by decide +kernel
theorem dL_value_4 : decode cL_value 4 = .ok (.invokevirtual 40, 3) := by decide +kernel
theorem dL_value_7 : decode cL_value 7 = .ok (.i2l, 1) := by decide +kernel
theorem dL_value_8 : decode cL_value 8 = .ok (.lastore, 1) := by decide +kernel
theorem dL_value_9 : decode cL_value 9 = .ok (.goto 6, 3) := by decide +kernel
theorem dL_value_12 : decode cL_value 12 = .ok (.astore_n 3, 1) := by decide +kernel
theorem dL_value_13 : decode cL_value 13 = .ok (.iconst 1, 1) := by decide +kernel
theorem dL_value_14 : decode cL_value 14 = .ok (.ireturn, 1) := by decide +kernel
theorem dL_value_15 : decode cL_value 15 = .ok (.iconst 0, 1) := by decide +kernel
theorem dL_value_16 : decode cL_value 16 = .ok (.ireturn, 1) := by decide +kernel
theorem dL_weight_0 : decode cL_weight 0 = .ok (.aload_n 2, 1) := by decide +kernel
theorem dL_weight_1 : decode cL_weight 1 = .ok (.iconst 0, 1) := by decide +kernel
theorem dL_weight_2 : decode cL_weight 2 = .ok (.aload_n 0, 1) := by decide +kernel
theorem dL_weight_3 : decode cL_weight 3 = .ok (.iload_n 1, 1) := by decide +kernel
theorem dL_weight_4 : decode cL_weight 4 = .ok (.invokevirtual 43, 3) := by decide +kernel
theorem dL_weight_7 : decode cL_weight 7 = .ok (.i2l, 1) := by decide +kernel
theorem dL_weight_8 : decode cL_weight 8 = .ok (.lastore, 1) := by decide +kernel
theorem dL_weight_9 : decode cL_weight 9 = .ok (.goto 6, 3) := by decide +kernel
theorem dL_weight_12 : decode cL_weight 12 = .ok (.astore_n 3, 1) := by decide +kernel
theorem dL_weight_13 : decode cL_weight 13 = .ok (.iconst 1, 1) := by decide +kernel
theorem dL_weight_14 : decode cL_weight 14 = .ok (.ireturn, 1) := by decide +kernel
theorem dL_weight_15 : decode cL_weight 15 = .ok (.iconst 0, 1) := by decide +kernel
theorem dL_weight_16 : decode cL_weight 16 = .ok (.ireturn, 1) := by decide +kernel
theorem dL_state_0 : decode cL_state 0 = .ok (.aload_n 2, 1) := by decide +kernel
theorem dL_state_1 : decode cL_state 1 = .ok (.iconst 0, 1) := by decide +kernel
theorem dL_state_2 : decode cL_state 2 = .ok (.aload_n 0, 1) := by decide +kernel
theorem dL_state_3 : decode cL_state 3 = .ok (.iload_n 1, 1) := by decide +kernel
theorem dL_state_4 : decode cL_state 4 = .ok (.invokevirtual 46, 3) := by decide +kernel
theorem dL_state_7 : decode cL_state 7 = .ok (.i2l, 1) := by decide +kernel
theorem dL_state_8 : decode cL_state 8 = .ok (.lastore, 1) := by decide +kernel
theorem dL_state_9 : decode cL_state 9 = .ok (.goto 6, 3) := by decide +kernel
theorem dL_state_12 : decode cL_state 12 = .ok (.astore_n 3, 1) := by decide +kernel
theorem dL_state_13 : decode cL_state 13 = .ok (.iconst 1, 1) := by decide +kernel
theorem dL_state_14 : decode cL_state 14 = .ok (.ireturn, 1) := by decide +kernel
theorem dL_state_15 : decode cL_state 15 = .ok (.iconst 0, 1) := by decide +kernel
theorem dL_state_16 : decode cL_state 16 = .ok (.ireturn, 1) := by decide +kernel
theorem dL_otherEnd_0 : decode cL_otherEnd 0 = .ok (.aload_n 3, 1) := by decide +kernel
theorem dL_otherEnd_1 : decode cL_otherEnd 1 = .ok (.iconst 0, 1) := by decide +kernel
theorem dL_otherEnd_2 : decode cL_otherEnd 2 = .ok (.aload_n 0, 1) := by decide +kernel
theorem dL_otherEnd_3 : decode cL_otherEnd 3 = .ok (.iload_n 1, 1) := by decide +kernel
theorem dL_otherEnd_4 : decode cL_otherEnd 4 = .ok (.iload_n 2, 1) := by decide +kernel
theorem dL_otherEnd_5 : decode cL_otherEnd 5 = .ok (.invokevirtual 50, 3) := by decide +kernel
theorem dL_otherEnd_8 : decode cL_otherEnd 8 = .ok (.i2l, 1) := by decide +kernel
theorem dL_otherEnd_9 : decode cL_otherEnd 9 = .ok (.lastore, 1) := by decide +kernel
theorem dL_otherEnd_10 : decode cL_otherEnd 10 = .ok (.goto 11, 3) := by decide +kernel
theorem dL_otherEnd_13 : decode cL_otherEnd 13 = .ok (.astore 4, 2) := by decide +kernel
theorem dL_otherEnd_15 : decode cL_otherEnd 15 = .ok (.iconst 1, 1) := by decide +kernel
theorem dL_otherEnd_16 : decode cL_otherEnd 16 = .ok (.ireturn, 1) := by decide +kernel
theorem dL_otherEnd_17 : decode cL_otherEnd 17 = .ok (.astore 4, 2) := by decide +kernel
theorem dL_otherEnd_19 : decode cL_otherEnd 19 = .ok (.iconst 2, 1) := by decide +kernel
theorem dL_otherEnd_20 : decode cL_otherEnd 20 = .ok (.ireturn, 1) := by decide +kernel
theorem dL_otherEnd_21 : decode cL_otherEnd 21 = .ok (.iconst 0, 1) := by decide +kernel
theorem dL_otherEnd_22 : decode cL_otherEnd 22 = .ok (.ireturn, 1) := by decide +kernel
theorem dL_parallel_0 : decode cL_parallel 0 = .ok (.aload_n 3, 1) := by decide +kernel
theorem dL_parallel_1 : decode cL_parallel 1 = .ok (.iconst 0, 1) := by decide +kernel
theorem dL_parallel_2 : decode cL_parallel 2 = .ok (.aload_n 0, 1) := by decide +kernel
theorem dL_parallel_3 : decode cL_parallel 3 = .ok (.iload_n 1, 1) := by decide +kernel
theorem dL_parallel_4 : decode cL_parallel 4 = .ok (.iload_n 2, 1) := by decide +kernel
theorem dL_parallel_5 : decode cL_parallel 5 = .ok (.invokevirtual 53, 3) := by decide +kernel
theorem dL_parallel_8 : decode cL_parallel 8 = .ok (.i2l, 1) := by decide +kernel
theorem dL_parallel_9 : decode cL_parallel 9 = .ok (.lastore, 1) := by decide +kernel
theorem dL_parallel_10 : decode cL_parallel 10 = .ok (.goto 7, 3) := by decide +kernel
theorem dL_parallel_13 : decode cL_parallel 13 = .ok (.astore 4, 2) := by decide +kernel
theorem dL_parallel_15 : decode cL_parallel 15 = .ok (.iconst 1, 1) := by decide +kernel
theorem dL_parallel_16 : decode cL_parallel 16 = .ok (.ireturn, 1) := by decide +kernel
theorem dL_parallel_17 : decode cL_parallel 17 = .ok (.iconst 0, 1) := by decide +kernel
theorem dL_parallel_18 : decode cL_parallel 18 = .ok (.ireturn, 1) := by decide +kernel
theorem dL_lightest_0 : decode cL_lightest 0 = .ok (.aload_n 3, 1) := by decide +kernel
theorem dL_lightest_1 : decode cL_lightest 1 = .ok (.iconst 0, 1) := by decide +kernel
theorem dL_lightest_2 : decode cL_lightest 2 = .ok (.aload_n 0, 1) := by decide +kernel
theorem dL_lightest_3 : decode cL_lightest 3 = .ok (.iload_n 1, 1) := by decide +kernel
theorem dL_lightest_4 : decode cL_lightest 4 = .ok (.iload_n 2, 1) := by decide +kernel
theorem dL_lightest_5 : decode cL_lightest 5 = .ok (.invokevirtual 56, 3) := by decide +kernel
theorem dL_lightest_8 : decode cL_lightest 8 = .ok (.i2l, 1) := by decide +kernel
theorem dL_lightest_9 : decode cL_lightest 9 = .ok (.lastore, 1) := by decide +kernel
theorem dL_lightest_10 : decode cL_lightest 10 = .ok (.goto 11, 3) := by decide +kernel
theorem dL_lightest_13 : decode cL_lightest 13 = .ok (.astore 4, 2) := by decide +kernel
theorem dL_lightest_15 : decode cL_lightest 15 = .ok (.iconst 1, 1) := by decide +kernel
theorem dL_lightest_16 : decode cL_lightest 16 = .ok (.ireturn, 1) := by decide +kernel
theorem dL_lightest_17 : decode cL_lightest 17 = .ok (.astore 4, 2) := by decide +kernel
theorem dL_lightest_19 : decode cL_lightest 19 = .ok (.iconst 2, 1) := by decide +kernel
theorem dL_lightest_20 : decode cL_lightest 20 = .ok (.ireturn, 1) := by decide +kernel
theorem dL_lightest_21 : decode cL_lightest 21 = .ok (.iconst 0, 1) := by decide +kernel
theorem dL_lightest_22 : decode cL_lightest 22 = .ok (.ireturn, 1) := by decide +kernel
theorem dL_degree_0 : decode cL_degree 0 = .ok (.aload_n 2, 1) := by decide +kernel
theorem dL_degree_1 : decode cL_degree 1 = .ok (.iconst 0, 1) := by decide +kernel
theorem dL_degree_2 : decode cL_degree 2 = .ok (.aload_n 0, 1) := by decide +kernel
theorem dL_degree_3 : decode cL_degree 3 = .ok (.iload_n 1, 1) := by decide +kernel
theorem dL_degree_4 : decode cL_degree 4 = .ok (.invokevirtual 59, 3) := by decide +kernel
theorem dL_degree_7 : decode cL_degree 7 = .ok (.i2l, 1) := by decide +kernel
theorem dL_degree_8 : decode cL_degree 8 = .ok (.lastore, 1) := by decide +kernel
theorem dL_degree_9 : decode cL_degree 9 = .ok (.goto 6, 3) := by decide +kernel
theorem dL_degree_12 : decode cL_degree 12 = .ok (.astore_n 3, 1) := by decide +kernel
theorem dL_degree_13 : decode cL_degree 13 = .ok (.iconst 1, 1) := by decide +kernel
theorem dL_degree_14 : decode cL_degree 14 = .ok (.ireturn, 1) := by decide +kernel
theorem dL_degree_15 : decode cL_degree 15 = .ok (.iconst 0, 1) := by decide +kernel
theorem dL_degree_16 : decode cL_degree 16 = .ok (.ireturn, 1) := by decide +kernel
theorem dL_neighbour_0 : decode cL_neighbour 0 = .ok (.aload_n 3, 1) := by decide +kernel
theorem dL_neighbour_1 : decode cL_neighbour 1 = .ok (.iconst 0, 1) := by decide +kernel
theorem dL_neighbour_2 : decode cL_neighbour 2 = .ok (.aload_n 0, 1) := by decide +kernel
theorem dL_neighbour_3 : decode cL_neighbour 3 = .ok (.iload_n 1, 1) := by decide +kernel
theorem dL_neighbour_4 : decode cL_neighbour 4 = .ok (.iload_n 2, 1) := by decide +kernel
theorem dL_neighbour_5 : decode cL_neighbour 5 = .ok (.invokevirtual 62, 3) := by decide +kernel
theorem dL_neighbour_8 : decode cL_neighbour 8 = .ok (.i2l, 1) := by decide +kernel
theorem dL_neighbour_9 : decode cL_neighbour 9 = .ok (.lastore, 1) := by decide +kernel
theorem dL_neighbour_10 : decode cL_neighbour 10 = .ok (.goto 11, 3) := by decide +kernel
theorem dL_neighbour_13 : decode cL_neighbour 13 = .ok (.astore 4, 2) := by decide +kernel
theorem dL_neighbour_15 : decode cL_neighbour 15 = .ok (.iconst 1, 1) := by decide +kernel
theorem dL_neighbour_16 : decode cL_neighbour 16 = .ok (.ireturn, 1) := by decide +kernel
theorem dL_neighbour_17 : decode cL_neighbour 17 = .ok (.astore 4, 2) := by decide +kernel
theorem dL_neighbour_19 : decode cL_neighbour 19 = .ok (.iconst 2, 1) := by decide +kernel
theorem dL_neighbour_20 : decode cL_neighbour 20 = .ok (.ireturn, 1) := by decide +kernel
theorem dL_neighbour_21 : decode cL_neighbour 21 = .ok (.iconst 0, 1) := by decide +kernel
theorem dL_neighbour_22 : decode cL_neighbour 22 = .ok (.ireturn, 1) := by decide +kernel
theorem dL_isConnected_0 : decode cL_isConnected 0 = .ok (.aload_n 3, 1) := by decide +kernel
theorem dL_isConnected_1 : decode cL_isConnected 1 = .ok (.iconst 0, 1) := by decide +kernel
theorem dL_isConnected_2 : decode cL_isConnected 2 = .ok (.aload_n 0, 1) := by decide +kernel
theorem dL_isConnected_3 : decode cL_isConnected 3 = .ok (.iload_n 1, 1) := by decide +kernel
theorem dL_isConnected_4 : decode cL_isConnected 4 = .ok (.iload_n 2, 1) := by decide +kernel
theorem dL_isConnected_5 : decode cL_isConnected 5 = .ok (.invokevirtual 65, 3) := by decide +kernel
theorem dL_isConnected_8 : decode cL_isConnected 8 = .ok (.ifCond .eq 7, 3) := by decide +kernel
theorem dL_isConnected_11 : decode cL_isConnected 11 = .ok (.lconst 1, 1) := by decide +kernel
theorem dL_isConnected_12 : decode cL_isConnected 12 = .ok (.goto 4, 3) := by decide +kernel
theorem dL_isConnected_15 : decode cL_isConnected 15 = .ok (.lconst 0, 1) := by decide +kernel
theorem dL_isConnected_16 : decode cL_isConnected 16 = .ok (.lastore, 1) := by decide +kernel
theorem dL_isConnected_17 : decode cL_isConnected 17 = .ok (.goto 7, 3) := by decide +kernel
theorem dL_isConnected_20 : decode cL_isConnected 20 = .ok (.astore 4, 2) := by decide +kernel
theorem dL_isConnected_22 : decode cL_isConnected 22 = .ok (.iconst 1, 1) := by decide +kernel
theorem dL_isConnected_23 : decode cL_isConnected 23 = .ok (.ireturn, 1) := by decide +kernel
theorem dL_isConnected_24 : decode cL_isConnected 24 = .ok (.iconst 0, 1) := by decide +kernel
theorem dL_isConnected_25 : decode cL_isConnected 25 = .ok (.ireturn, 1) := by decide +kernel
theorem dL_isConnectedByWalk_0 : decode cL_isConnectedByWalk 0 = .ok (.aload_n 3, 1) := by decide +kernel
theorem dL_isConnectedByWalk_1 : decode cL_isConnectedByWalk 1 = .ok (.iconst 0, 1) := by decide +kernel
theorem dL_isConnectedByWalk_2 : decode cL_isConnectedByWalk 2 = .ok (.aload_n 0, 1) := by decide +kernel
theorem dL_isConnectedByWalk_3 : decode cL_isConnectedByWalk 3 = .ok (.iload_n 1, 1) := by decide +kernel
theorem dL_isConnectedByWalk_4 : decode cL_isConnectedByWalk 4 = .ok (.iload_n 2, 1) := by decide +kernel
theorem dL_isConnectedByWalk_5 : decode cL_isConnectedByWalk 5 = .ok (.invokevirtual 69, 3) := by decide +kernel
theorem dL_isConnectedByWalk_8 : decode cL_isConnectedByWalk 8 = .ok (.ifCond .eq 7, 3) := by decide +kernel
theorem dL_isConnectedByWalk_11 : decode cL_isConnectedByWalk 11 = .ok (.lconst 1, 1) := by decide +kernel
theorem dL_isConnectedByWalk_12 : decode cL_isConnectedByWalk 12 = .ok (.goto 4, 3) := by decide +kernel
theorem dL_isConnectedByWalk_15 : decode cL_isConnectedByWalk 15 = .ok (.lconst 0, 1) := by decide +kernel
theorem dL_isConnectedByWalk_16 : decode cL_isConnectedByWalk 16 = .ok (.lastore, 1) := by decide +kernel
theorem dL_isConnectedByWalk_17 : decode cL_isConnectedByWalk 17 = .ok (.goto 7, 3) := by decide +kernel
theorem dL_isConnectedByWalk_20 : decode cL_isConnectedByWalk 20 = .ok (.astore 4, 2) := by decide +kernel
theorem dL_isConnectedByWalk_22 : decode cL_isConnectedByWalk 22 = .ok (.iconst 1, 1) := by decide +kernel
theorem dL_isConnectedByWalk_23 : decode cL_isConnectedByWalk 23 = .ok (.ireturn, 1) := by decide +kernel
theorem dL_isConnectedByWalk_24 : decode cL_isConnectedByWalk 24 = .ok (.iconst 0, 1) := by decide +kernel
theorem dL_isConnectedByWalk_25 : decode cL_isConnectedByWalk 25 = .ok (.ireturn, 1) := by decide +kernel
theorem dL_replacement_0 : decode cL_replacement 0 = .ok (.aload_n 2, 1) := by decide +kernel
theorem dL_replacement_1 : decode cL_replacement 1 = .ok (.iconst 0, 1) := by decide +kernel
theorem dL_replacement_2 : decode cL_replacement 2 = .ok (.aload_n 0, 1) := by decide +kernel
theorem dL_replacement_3 : decode cL_replacement 3 = .ok (.iload_n 1, 1) := by decide +kernel
theorem dL_replacement_4 : decode cL_replacement 4 = .ok (.invokevirtual 72, 3) := by decide +kernel
theorem dL_replacement_7 : decode cL_replacement 7 = .ok (.i2l, 1) := by decide +kernel
theorem dL_replacement_8 : decode cL_replacement 8 = .ok (.lastore, 1) := by decide +kernel
theorem dL_replacement_9 : decode cL_replacement 9 = .ok (.goto 12, 3) := by decide +kernel
theorem dL_replacement_12 : decode cL_replacement 12 = .ok (.astore_n 3, 1) := by decide +kernel
theorem dL_replacement_13 : decode cL_replacement 13 = .ok (.iconst 1, 1) := by decide +kernel
theorem dL_replacement_14 : decode cL_replacement 14 = .ok (.ireturn, 1) := by decide +kernel
theorem dL_replacement_15 : decode cL_replacement 15 = .ok (.astore_n 3, 1) := by decide +kernel
theorem dL_replacement_16 : decode cL_replacement 16 = .ok (.iconst 2, 1) := by decide +kernel
theorem dL_replacement_17 : decode cL_replacement 17 = .ok (.ireturn, 1) := by decide +kernel
theorem dL_replacement_18 : decode cL_replacement 18 = .ok (.astore_n 3, 1) := by decide +kernel
theorem dL_replacement_19 : decode cL_replacement 19 = .ok (.iconst 3, 1) := by decide +kernel
theorem dL_replacement_20 : decode cL_replacement 20 = .ok (.ireturn, 1) := by decide +kernel
theorem dL_replacement_21 : decode cL_replacement 21 = .ok (.iconst 0, 1) := by decide +kernel
theorem dL_replacement_22 : decode cL_replacement 22 = .ok (.ireturn, 1) := by decide +kernel
theorem dL_replacementAnew_0 : decode cL_replacementAnew 0 = .ok (.aload_n 2, 1) := by decide +kernel
theorem dL_replacementAnew_1 : decode cL_replacementAnew 1 = .ok (.iconst 0, 1) := by decide +kernel
theorem dL_replacementAnew_2 : decode cL_replacementAnew 2 = .ok (.aload_n 0, 1) := by decide +kernel
theorem dL_replacementAnew_3 : decode cL_replacementAnew 3 = .ok (.iload_n 1, 1) := by decide +kernel
theorem dL_replacementAnew_4 : decode cL_replacementAnew 4 = .ok (.invokevirtual 75, 3) := by decide +kernel
theorem dL_replacementAnew_7 : decode cL_replacementAnew 7 = .ok (.i2l, 1) := by decide +kernel
theorem dL_replacementAnew_8 : decode cL_replacementAnew 8 = .ok (.lastore, 1) := by decide +kernel
theorem dL_replacementAnew_9 : decode cL_replacementAnew 9 = .ok (.goto 12, 3) := by decide +kernel
theorem dL_replacementAnew_12 : decode cL_replacementAnew 12 = .ok (.astore_n 3, 1) := by decide +kernel
theorem dL_replacementAnew_13 : decode cL_replacementAnew 13 = .ok (.iconst 1, 1) := by decide +kernel
theorem dL_replacementAnew_14 : decode cL_replacementAnew 14 = .ok (.ireturn, 1) := by decide +kernel
theorem dL_replacementAnew_15 : decode cL_replacementAnew 15 = .ok (.astore_n 3, 1) := by decide +kernel
theorem dL_replacementAnew_16 : decode cL_replacementAnew 16 = .ok (.iconst 2, 1) := by decide +kernel
theorem dL_replacementAnew_17 : decode cL_replacementAnew 17 = .ok (.ireturn, 1) := by decide +kernel
theorem dL_replacementAnew_18 : decode cL_replacementAnew 18 = .ok (.astore_n 3, 1) := by decide +kernel
theorem dL_replacementAnew_19 : decode cL_replacementAnew 19 = .ok (.iconst 3, 1) := by decide +kernel
theorem dL_replacementAnew_20 : decode cL_replacementAnew 20 = .ok (.ireturn, 1) := by decide +kernel
theorem dL_replacementAnew_21 : decode cL_replacementAnew 21 = .ok (.iconst 0, 1) := by decide +kernel
theorem dL_replacementAnew_22 : decode cL_replacementAnew 22 = .ok (.ireturn, 1) := by decide +kernel
theorem dL_pathVertices_0 : decode cL_pathVertices 0 = .ok (.aload_n 3, 1) := by decide +kernel
theorem dL_pathVertices_1 : decode cL_pathVertices 1 = .ok (.iconst 0, 1) := by decide +kernel
theorem dL_pathVertices_2 : decode cL_pathVertices 2 = .ok (.aload_n 0, 1) := by decide +kernel
theorem dL_pathVertices_3 : decode cL_pathVertices 3 = .ok (.iload_n 1, 1) := by decide +kernel
theorem dL_pathVertices_4 : decode cL_pathVertices 4 = .ok (.iload_n 2, 1) := by decide +kernel
theorem dL_pathVertices_5 : decode cL_pathVertices 5 = .ok (.invokevirtual 78, 3) := by decide +kernel
theorem dL_pathVertices_8 : decode cL_pathVertices 8 = .ok (.i2l, 1) := by decide +kernel
theorem dL_pathVertices_9 : decode cL_pathVertices 9 = .ok (.lastore, 1) := by decide +kernel
theorem dL_pathVertices_10 : decode cL_pathVertices 10 = .ok (.goto 11, 3) := by decide +kernel
theorem dL_pathVertices_13 : decode cL_pathVertices 13 = .ok (.astore 4, 2) := by decide +kernel
theorem dL_pathVertices_15 : decode cL_pathVertices 15 = .ok (.iconst 1, 1) := by decide +kernel
theorem dL_pathVertices_16 : decode cL_pathVertices 16 = .ok (.ireturn, 1) := by decide +kernel
theorem dL_pathVertices_17 : decode cL_pathVertices 17 = .ok (.astore 4, 2) := by decide +kernel
theorem dL_pathVertices_19 : decode cL_pathVertices 19 = .ok (.iconst 2, 1) := by decide +kernel
theorem dL_pathVertices_20 : decode cL_pathVertices 20 = .ok (.ireturn, 1) := by decide +kernel
theorem dL_pathVertices_21 : decode cL_pathVertices 21 = .ok (.iconst 0, 1) := by decide +kernel
theorem dL_pathVertices_22 : decode cL_pathVertices 22 = .ok (.ireturn, 1) := by decide +kernel
theorem dL_pathVertex_0 : decode cL_pathVertex 0 = .ok (.aload 4, 2) := by decide +kernel
theorem dL_pathVertex_2 : decode cL_pathVertex 2 = .ok (.iconst 0, 1) := by decide +kernel
theorem dL_pathVertex_3 : decode cL_pathVertex 3 = .ok (.aload_n 0, 1) := by decide +kernel
theorem dL_pathVertex_4 : decode cL_pathVertex 4 = .ok (.iload_n 1, 1) := by decide +kernel
theorem dL_pathVertex_5 : decode cL_pathVertex 5 = .ok (.iload_n 2, 1) := by decide +kernel
theorem dL_pathVertex_6 : decode cL_pathVertex 6 = .ok (.iload_n 3, 1) := by decide +kernel
theorem dL_pathVertex_7 : decode cL_pathVertex 7 = .ok (.invokevirtual 81, 3) := by decide +kernel
theorem dL_pathVertex_10 : decode cL_pathVertex 10 = .ok (.i2l, 1) := by decide +kernel
theorem dL_pathVertex_11 : decode cL_pathVertex 11 = .ok (.lastore, 1) := by decide +kernel
theorem dL_pathVertex_12 : decode cL_pathVertex 12 = .ok (.goto 15, 3) := by decide +kernel
theorem dL_pathVertex_15 : decode cL_pathVertex 15 = .ok (.astore 5, 2) := by decide +kernel
theorem dL_pathVertex_17 : decode cL_pathVertex 17 = .ok (.iconst 1, 1) := by decide +kernel
theorem dL_pathVertex_18 : decode cL_pathVertex 18 = .ok (.ireturn, 1) := by decide +kernel
theorem dL_pathVertex_19 : decode cL_pathVertex 19 = .ok (.astore 5, 2) := by decide +kernel
theorem dL_pathVertex_21 : decode cL_pathVertex 21 = .ok (.iconst 2, 1) := by decide +kernel
theorem dL_pathVertex_22 : decode cL_pathVertex 22 = .ok (.ireturn, 1) := by decide +kernel
theorem dL_pathVertex_23 : decode cL_pathVertex 23 = .ok (.astore 5, 2) := by decide +kernel
theorem dL_pathVertex_25 : decode cL_pathVertex 25 = .ok (.iconst 3, 1) := by decide +kernel
theorem dL_pathVertex_26 : decode cL_pathVertex 26 = .ok (.ireturn, 1) := by decide +kernel
theorem dL_pathVertex_27 : decode cL_pathVertex 27 = .ok (.iconst 0, 1) := by decide +kernel
theorem dL_pathVertex_28 : decode cL_pathVertex 28 = .ok (.ireturn, 1) := by decide +kernel
theorem dL_pathSum_0 : decode cL_pathSum 0 = .ok (.aload_n 3, 1) := by decide +kernel
theorem dL_pathSum_1 : decode cL_pathSum 1 = .ok (.iconst 0, 1) := by decide +kernel
theorem dL_pathSum_2 : decode cL_pathSum 2 = .ok (.aload_n 0, 1) := by decide +kernel
theorem dL_pathSum_3 : decode cL_pathSum 3 = .ok (.iload_n 1, 1) := by decide +kernel
theorem dL_pathSum_4 : decode cL_pathSum 4 = .ok (.iload_n 2, 1) := by decide +kernel
theorem dL_pathSum_5 : decode cL_pathSum 5 = .ok (.invokevirtual 84, 3) := by decide +kernel
theorem dL_pathSum_8 : decode cL_pathSum 8 = .ok (.i2l, 1) := by decide +kernel
theorem dL_pathSum_9 : decode cL_pathSum 9 = .ok (.lastore, 1) := by decide +kernel
theorem dL_pathSum_10 : decode cL_pathSum 10 = .ok (.goto 11, 3) := by decide +kernel
theorem dL_pathSum_13 : decode cL_pathSum 13 = .ok (.astore 4, 2) := by decide +kernel
theorem dL_pathSum_15 : decode cL_pathSum 15 = .ok (.iconst 1, 1) := by decide +kernel
theorem dL_pathSum_16 : decode cL_pathSum 16 = .ok (.ireturn, 1) := by decide +kernel
theorem dL_pathSum_17 : decode cL_pathSum 17 = .ok (.astore 4, 2) := by decide +kernel
theorem dL_pathSum_19 : decode cL_pathSum 19 = .ok (.iconst 2, 1) := by decide +kernel
theorem dL_pathSum_20 : decode cL_pathSum 20 = .ok (.ireturn, 1) := by decide +kernel
theorem dL_pathSum_21 : decode cL_pathSum 21 = .ok (.iconst 0, 1) := by decide +kernel
theorem dL_pathSum_22 : decode cL_pathSum 22 = .ok (.ireturn, 1) := by decide +kernel
theorem dL_pathSumByHeavyPaths_0 : decode cL_pathSumByHeavyPaths 0 = .ok (.aload_n 3, 1) := by decide +kernel
theorem dL_pathSumByHeavyPaths_1 : decode cL_pathSumByHeavyPaths 1 = .ok (.iconst 0, 1) := by decide +kernel
theorem dL_pathSumByHeavyPaths_2 : decode cL_pathSumByHeavyPaths 2 = .ok (.aload_n 0, 1) := by decide +kernel
theorem dL_pathSumByHeavyPaths_3 : decode cL_pathSumByHeavyPaths 3 = .ok (.iload_n 1, 1) := by decide +kernel
theorem dL_pathSumByHeavyPaths_4 : decode cL_pathSumByHeavyPaths 4 = .ok (.iload_n 2, 1) := by decide +kernel
theorem dL_pathSumByHeavyPaths_5 : decode cL_pathSumByHeavyPaths 5 = .ok (.invokevirtual 87, 3) := by decide +kernel
theorem dL_pathSumByHeavyPaths_8 : decode cL_pathSumByHeavyPaths 8 = .ok (.i2l, 1) := by decide +kernel
theorem dL_pathSumByHeavyPaths_9 : decode cL_pathSumByHeavyPaths 9 = .ok (.lastore, 1) := by decide +kernel
theorem dL_pathSumByHeavyPaths_10 : decode cL_pathSumByHeavyPaths 10 = .ok (.goto 11, 3) := by decide +kernel
theorem dL_pathSumByHeavyPaths_13 : decode cL_pathSumByHeavyPaths 13 = .ok (.astore 4, 2) := by decide +kernel
theorem dL_pathSumByHeavyPaths_15 : decode cL_pathSumByHeavyPaths 15 = .ok (.iconst 1, 1) := by decide +kernel
theorem dL_pathSumByHeavyPaths_16 : decode cL_pathSumByHeavyPaths 16 = .ok (.ireturn, 1) := by decide +kernel
theorem dL_pathSumByHeavyPaths_17 : decode cL_pathSumByHeavyPaths 17 = .ok (.astore 4, 2) := by decide +kernel
theorem dL_pathSumByHeavyPaths_19 : decode cL_pathSumByHeavyPaths 19 = .ok (.iconst 2, 1) := by decide +kernel
theorem dL_pathSumByHeavyPaths_20 : decode cL_pathSumByHeavyPaths 20 = .ok (.ireturn, 1) := by decide +kernel
theorem dL_pathSumByHeavyPaths_21 : decode cL_pathSumByHeavyPaths 21 = .ok (.iconst 0, 1) := by decide +kernel
theorem dL_pathSumByHeavyPaths_22 : decode cL_pathSumByHeavyPaths 22 = .ok (.ireturn, 1) := by decide +kernel
theorem dL_pathSumByWalk_0 : decode cL_pathSumByWalk 0 = .ok (.aload_n 3, 1) := by decide +kernel
theorem dL_pathSumByWalk_1 : decode cL_pathSumByWalk 1 = .ok (.iconst 0, 1) := by decide +kernel
theorem dL_pathSumByWalk_2 : decode cL_pathSumByWalk 2 = .ok (.aload_n 0, 1) := by decide +kernel
theorem dL_pathSumByWalk_3 : decode cL_pathSumByWalk 3 = .ok (.iload_n 1, 1) := by decide +kernel
theorem dL_pathSumByWalk_4 : decode cL_pathSumByWalk 4 = .ok (.iload_n 2, 1) := by decide +kernel
theorem dL_pathSumByWalk_5 : decode cL_pathSumByWalk 5 = .ok (.invokevirtual 90, 3) := by decide +kernel
theorem dL_pathSumByWalk_8 : decode cL_pathSumByWalk 8 = .ok (.i2l, 1) := by decide +kernel
theorem dL_pathSumByWalk_9 : decode cL_pathSumByWalk 9 = .ok (.lastore, 1) := by decide +kernel
theorem dL_pathSumByWalk_10 : decode cL_pathSumByWalk 10 = .ok (.goto 11, 3) := by decide +kernel
theorem dL_pathSumByWalk_13 : decode cL_pathSumByWalk 13 = .ok (.astore 4, 2) := by decide +kernel
theorem dL_pathSumByWalk_15 : decode cL_pathSumByWalk 15 = .ok (.iconst 1, 1) := by decide +kernel
theorem dL_pathSumByWalk_16 : decode cL_pathSumByWalk 16 = .ok (.ireturn, 1) := by decide +kernel
theorem dL_pathSumByWalk_17 : decode cL_pathSumByWalk 17 = .ok (.astore 4, 2) := by decide +kernel
theorem dL_pathSumByWalk_19 : decode cL_pathSumByWalk 19 = .ok (.iconst 2, 1) := by decide +kernel
theorem dL_pathSumByWalk_20 : decode cL_pathSumByWalk 20 = .ok (.ireturn, 1) := by decide +kernel
theorem dL_pathSumByWalk_21 : decode cL_pathSumByWalk 21 = .ok (.iconst 0, 1) := by decide +kernel
theorem dL_pathSumByWalk_22 : decode cL_pathSumByWalk 22 = .ok (.ireturn, 1) := by decide +kernel
theorem dL_last_0 : decode cL_last 0 = .ok (.aload_n 3, 1) := by decide +kernel
theorem dL_last_1 : decode cL_last 1 = .ok (.iconst 0, 1) := by decide +kernel
theorem dL_last_2 : decode cL_last 2 = .ok (.aload_n 0, 1) := by decide +kernel
theorem dL_last_3 : decode cL_last 3 = .ok (.iload_n 1, 1) := by decide +kernel
theorem dL_last_4 : decode cL_last 4 = .ok (.iload_n 2, 1) := by decide +kernel
theorem dL_last_5 : decode cL_last 5 = .ok (.invokevirtual 93, 3) := by decide +kernel
theorem dL_last_8 : decode cL_last 8 = .ok (.i2l, 1) := by decide +kernel
theorem dL_last_9 : decode cL_last 9 = .ok (.lastore, 1) := by decide +kernel
theorem dL_last_10 : decode cL_last 10 = .ok (.goto 15, 3) := by decide +kernel
theorem dL_last_13 : decode cL_last 13 = .ok (.astore 4, 2) := by decide +kernel
theorem dL_last_15 : decode cL_last 15 = .ok (.iconst 1, 1) := by decide +kernel
theorem dL_last_16 : decode cL_last 16 = .ok (.ireturn, 1) := by decide +kernel
theorem dL_last_17 : decode cL_last 17 = .ok (.astore 4, 2) := by decide +kernel
theorem dL_last_19 : decode cL_last 19 = .ok (.iconst 2, 1) := by decide +kernel
theorem dL_last_20 : decode cL_last 20 = .ok (.ireturn, 1) := by decide +kernel
theorem dL_last_21 : decode cL_last 21 = .ok (.astore 4, 2) := by decide +kernel
theorem dL_last_23 : decode cL_last 23 = .ok (.iconst 3, 1) := by decide +kernel
theorem dL_last_24 : decode cL_last 24 = .ok (.ireturn, 1) := by decide +kernel
theorem dL_last_25 : decode cL_last 25 = .ok (.iconst 0, 1) := by decide +kernel
theorem dL_last_26 : decode cL_last 26 = .ok (.ireturn, 1) := by decide +kernel
theorem dL_lastByWalk_0 : decode cL_lastByWalk 0 = .ok (.aload_n 3, 1) := by decide +kernel
theorem dL_lastByWalk_1 : decode cL_lastByWalk 1 = .ok (.iconst 0, 1) := by decide +kernel
theorem dL_lastByWalk_2 : decode cL_lastByWalk 2 = .ok (.aload_n 0, 1) := by decide +kernel
theorem dL_lastByWalk_3 : decode cL_lastByWalk 3 = .ok (.iload_n 1, 1) := by decide +kernel
theorem dL_lastByWalk_4 : decode cL_lastByWalk 4 = .ok (.iload_n 2, 1) := by decide +kernel
theorem dL_lastByWalk_5 : decode cL_lastByWalk 5 = .ok (.invokevirtual 96, 3) := by decide +kernel
theorem dL_lastByWalk_8 : decode cL_lastByWalk 8 = .ok (.i2l, 1) := by decide +kernel
theorem dL_lastByWalk_9 : decode cL_lastByWalk 9 = .ok (.lastore, 1) := by decide +kernel
theorem dL_lastByWalk_10 : decode cL_lastByWalk 10 = .ok (.goto 15, 3) := by decide +kernel
theorem dL_lastByWalk_13 : decode cL_lastByWalk 13 = .ok (.astore 4, 2) := by decide +kernel
theorem dL_lastByWalk_15 : decode cL_lastByWalk 15 = .ok (.iconst 1, 1) := by decide +kernel
theorem dL_lastByWalk_16 : decode cL_lastByWalk 16 = .ok (.ireturn, 1) := by decide +kernel
theorem dL_lastByWalk_17 : decode cL_lastByWalk 17 = .ok (.astore 4, 2) := by decide +kernel
theorem dL_lastByWalk_19 : decode cL_lastByWalk 19 = .ok (.iconst 2, 1) := by decide +kernel
theorem dL_lastByWalk_20 : decode cL_lastByWalk 20 = .ok (.ireturn, 1) := by decide +kernel
theorem dL_lastByWalk_21 : decode cL_lastByWalk 21 = .ok (.astore 4, 2) := by decide +kernel
theorem dL_lastByWalk_23 : decode cL_lastByWalk 23 = .ok (.iconst 3, 1) := by decide +kernel
theorem dL_lastByWalk_24 : decode cL_lastByWalk 24 = .ok (.ireturn, 1) := by decide +kernel
theorem dL_lastByWalk_25 : decode cL_lastByWalk 25 = .ok (.iconst 0, 1) := by decide +kernel
theorem dL_lastByWalk_26 : decode cL_lastByWalk 26 = .ok (.ireturn, 1) := by decide +kernel
theorem dL_mean_0 : decode cL_mean 0 = .ok (.aload_n 3, 1) := by decide +kernel
theorem dL_mean_1 : decode cL_mean 1 = .ok (.iconst 0, 1) := by decide +kernel
theorem dL_mean_2 : decode cL_mean 2 = .ok (.aload_n 0, 1) := by decide +kernel
theorem dL_mean_3 : decode cL_mean 3 = .ok (.iload_n 1, 1) := by decide +kernel
theorem dL_mean_4 : decode cL_mean 4 = .ok (.iload_n 2, 1) := by decide +kernel
theorem dL_mean_5 : decode cL_mean 5 = .ok (.invokevirtual 99, 3) := by decide +kernel
theorem dL_mean_8 : decode cL_mean 8 = .ok (.f2d, 1) := by decide +kernel
theorem dL_mean_9 : decode cL_mean 9 = .ok (.dastore, 1) := by decide +kernel
theorem dL_mean_10 : decode cL_mean 10 = .ok (.goto 11, 3) := by decide +kernel
theorem dL_mean_13 : decode cL_mean 13 = .ok (.astore 4, 2) := by decide +kernel
theorem dL_mean_15 : decode cL_mean 15 = .ok (.iconst 1, 1) := by decide +kernel
theorem dL_mean_16 : decode cL_mean 16 = .ok (.ireturn, 1) := by decide +kernel
theorem dL_mean_17 : decode cL_mean 17 = .ok (.astore 4, 2) := by decide +kernel
theorem dL_mean_19 : decode cL_mean 19 = .ok (.iconst 2, 1) := by decide +kernel
theorem dL_mean_20 : decode cL_mean 20 = .ok (.ireturn, 1) := by decide +kernel
theorem dL_mean_21 : decode cL_mean 21 = .ok (.iconst 0, 1) := by decide +kernel
theorem dL_mean_22 : decode cL_mean 22 = .ok (.ireturn, 1) := by decide +kernel
theorem dL_parent_0 : decode cL_parent 0 = .ok (.aload_n 3, 1) := by decide +kernel
theorem dL_parent_1 : decode cL_parent 1 = .ok (.iconst 0, 1) := by decide +kernel
theorem dL_parent_2 : decode cL_parent 2 = .ok (.aload_n 0, 1) := by decide +kernel
theorem dL_parent_3 : decode cL_parent 3 = .ok (.iload_n 1, 1) := by decide +kernel
theorem dL_parent_4 : decode cL_parent 4 = .ok (.iload_n 2, 1) := by decide +kernel
theorem dL_parent_5 : decode cL_parent 5 = .ok (.invokevirtual 103, 3) := by decide +kernel
theorem dL_parent_8 : decode cL_parent 8 = .ok (.i2l, 1) := by decide +kernel
theorem dL_parent_9 : decode cL_parent 9 = .ok (.lastore, 1) := by decide +kernel
theorem dL_parent_10 : decode cL_parent 10 = .ok (.goto 15, 3) := by decide +kernel
theorem dL_parent_13 : decode cL_parent 13 = .ok (.astore 4, 2) := by decide +kernel
theorem dL_parent_15 : decode cL_parent 15 = .ok (.iconst 1, 1) := by decide +kernel
theorem dL_parent_16 : decode cL_parent 16 = .ok (.ireturn, 1) := by decide +kernel
theorem dL_parent_17 : decode cL_parent 17 = .ok (.astore 4, 2) := by decide +kernel
theorem dL_parent_19 : decode cL_parent 19 = .ok (.iconst 2, 1) := by decide +kernel
theorem dL_parent_20 : decode cL_parent 20 = .ok (.ireturn, 1) := by decide +kernel
theorem dL_parent_21 : decode cL_parent 21 = .ok (.astore 4, 2) := by decide +kernel
theorem dL_parent_23 : decode cL_parent 23 = .ok (.iconst 3, 1) := by decide +kernel
theorem dL_parent_24 : decode cL_parent 24 = .ok (.ireturn, 1) := by decide +kernel
theorem dL_parent_25 : decode cL_parent 25 = .ok (.iconst 0, 1) := by decide +kernel
theorem dL_parent_26 : decode cL_parent 26 = .ok (.ireturn, 1) := by decide +kernel
theorem dL_depth_0 : decode cL_depth 0 = .ok (.aload_n 3, 1) := by decide +kernel
theorem dL_depth_1 : decode cL_depth 1 = .ok (.iconst 0, 1) := by decide +kernel
theorem dL_depth_2 : decode cL_depth 2 = .ok (.aload_n 0, 1) := by decide +kernel
theorem dL_depth_3 : decode cL_depth 3 = .ok (.iload_n 1, 1) := by decide +kernel
theorem dL_depth_4 : decode cL_depth 4 = .ok (.iload_n 2, 1) := by decide +kernel
theorem dL_depth_5 : decode cL_depth 5 = .ok (.invokevirtual 106, 3) := by decide +kernel
theorem dL_depth_8 : decode cL_depth 8 = .ok (.i2l, 1) := by decide +kernel
theorem dL_depth_9 : decode cL_depth 9 = .ok (.lastore, 1) := by decide +kernel
theorem dL_depth_10 : decode cL_depth 10 = .ok (.goto 11, 3) := by decide +kernel
theorem dL_depth_13 : decode cL_depth 13 = .ok (.astore 4, 2) := by decide +kernel
theorem dL_depth_15 : decode cL_depth 15 = .ok (.iconst 1, 1) := by decide +kernel
theorem dL_depth_16 : decode cL_depth 16 = .ok (.ireturn, 1) := by decide +kernel
theorem dL_depth_17 : decode cL_depth 17 = .ok (.astore 4, 2) := by decide +kernel
theorem dL_depth_19 : decode cL_depth 19 = .ok (.iconst 2, 1) := by decide +kernel
theorem dL_depth_20 : decode cL_depth 20 = .ok (.ireturn, 1) := by decide +kernel
theorem dL_depth_21 : decode cL_depth 21 = .ok (.iconst 0, 1) := by decide +kernel
theorem dL_depth_22 : decode cL_depth 22 = .ok (.ireturn, 1) := by decide +kernel
theorem dL_ancestor_0 : decode cL_ancestor 0 = .ok (.aload 4, 2) := by decide +kernel
theorem dL_ancestor_2 : decode cL_ancestor 2 = .ok (.iconst 0, 1) := by decide +kernel
theorem dL_ancestor_3 : decode cL_ancestor 3 = .ok (.aload_n 0, 1) := by decide +kernel
theorem dL_ancestor_4 : decode cL_ancestor 4 = .ok (.iload_n 1, 1) := by decide +kernel
theorem dL_ancestor_5 : decode cL_ancestor 5 = .ok (.iload_n 2, 1) := by decide +kernel
theorem dL_ancestor_6 : decode cL_ancestor 6 = .ok (.iload_n 3, 1) := by decide +kernel
theorem dL_ancestor_7 : decode cL_ancestor 7 = .ok (.invokevirtual 109, 3) := by decide +kernel
theorem dL_ancestor_10 : decode cL_ancestor 10 = .ok (.i2l, 1) := by decide +kernel
theorem dL_ancestor_11 : decode cL_ancestor 11 = .ok (.lastore, 1) := by decide +kernel
theorem dL_ancestor_12 : decode cL_ancestor 12 = .ok (.goto 15, 3) := by decide +kernel
theorem dL_ancestor_15 : decode cL_ancestor 15 = .ok (.astore 5, 2) := by decide +kernel
theorem dL_ancestor_17 : decode cL_ancestor 17 = .ok (.iconst 1, 1) := by decide +kernel
theorem dL_ancestor_18 : decode cL_ancestor 18 = .ok (.ireturn, 1) := by decide +kernel
theorem dL_ancestor_19 : decode cL_ancestor 19 = .ok (.astore 5, 2) := by decide +kernel
theorem dL_ancestor_21 : decode cL_ancestor 21 = .ok (.iconst 2, 1) := by decide +kernel
theorem dL_ancestor_22 : decode cL_ancestor 22 = .ok (.ireturn, 1) := by decide +kernel
theorem dL_ancestor_23 : decode cL_ancestor 23 = .ok (.astore 5, 2) := by decide +kernel
theorem dL_ancestor_25 : decode cL_ancestor 25 = .ok (.iconst 3, 1) := by decide +kernel
theorem dL_ancestor_26 : decode cL_ancestor 26 = .ok (.ireturn, 1) := by decide +kernel
theorem dL_ancestor_27 : decode cL_ancestor 27 = .ok (.iconst 0, 1) := by decide +kernel
theorem dL_ancestor_28 : decode cL_ancestor 28 = .ok (.ireturn, 1) := by decide +kernel
theorem dL_ancestorByWalk_0 : decode cL_ancestorByWalk 0 = .ok (.aload 4, 2) := by decide +kernel
theorem dL_ancestorByWalk_2 : decode cL_ancestorByWalk 2 = .ok (.iconst 0, 1) := by decide +kernel
theorem dL_ancestorByWalk_3 : decode cL_ancestorByWalk 3 = .ok (.aload_n 0, 1) := by decide +kernel
theorem dL_ancestorByWalk_4 : decode cL_ancestorByWalk 4 = .ok (.iload_n 1, 1) := by decide +kernel
theorem dL_ancestorByWalk_5 : decode cL_ancestorByWalk 5 = .ok (.iload_n 2, 1) := by decide +kernel
theorem dL_ancestorByWalk_6 : decode cL_ancestorByWalk 6 = .ok (.iload_n 3, 1) := by decide +kernel
theorem dL_ancestorByWalk_7 : decode cL_ancestorByWalk 7 = .ok (.invokevirtual 112, 3) := by decide +kernel
theorem dL_ancestorByWalk_10 : decode cL_ancestorByWalk 10 = .ok (.i2l, 1) := by decide +kernel
theorem dL_ancestorByWalk_11 : decode cL_ancestorByWalk 11 = .ok (.lastore, 1) := by decide +kernel
theorem dL_ancestorByWalk_12 : decode cL_ancestorByWalk 12 = .ok (.goto 15, 3) := by decide +kernel
theorem dL_ancestorByWalk_15 : decode cL_ancestorByWalk 15 = .ok (.astore 5, 2) := by decide +kernel
theorem dL_ancestorByWalk_17 : decode cL_ancestorByWalk 17 = .ok (.iconst 1, 1) := by decide +kernel
theorem dL_ancestorByWalk_18 : decode cL_ancestorByWalk 18 = .ok (.ireturn, 1) := by decide +kernel
theorem dL_ancestorByWalk_19 : decode cL_ancestorByWalk 19 = .ok (.astore 5, 2) := by decide +kernel
theorem dL_ancestorByWalk_21 : decode cL_ancestorByWalk 21 = .ok (.iconst 2, 1) := by decide +kernel
theorem dL_ancestorByWalk_22 : decode cL_ancestorByWalk 22 = .ok (.ireturn, 1) := by decide +kernel
theorem dL_ancestorByWalk_23 : decode cL_ancestorByWalk 23 = .ok (.astore 5, 2) := by decide +kernel
theorem dL_ancestorByWalk_25 : decode cL_ancestorByWalk 25 = .ok (.iconst 3, 1) := by decide +kernel
theorem dL_ancestorByWalk_26 : decode cL_ancestorByWalk 26 = .ok (.ireturn, 1) := by decide +kernel
theorem dL_ancestorByWalk_27 : decode cL_ancestorByWalk 27 = .ok (.iconst 0, 1) := by decide +kernel
theorem dL_ancestorByWalk_28 : decode cL_ancestorByWalk 28 = .ok (.ireturn, 1) := by decide +kernel
theorem dL_common_0 : decode cL_common 0 = .ok (.aload 4, 2) := by decide +kernel
theorem dL_common_2 : decode cL_common 2 = .ok (.iconst 0, 1) := by decide +kernel
theorem dL_common_3 : decode cL_common 3 = .ok (.aload_n 0, 1) := by decide +kernel
theorem dL_common_4 : decode cL_common 4 = .ok (.iload_n 1, 1) := by decide +kernel
theorem dL_common_5 : decode cL_common 5 = .ok (.iload_n 2, 1) := by decide +kernel
theorem dL_common_6 : decode cL_common 6 = .ok (.iload_n 3, 1) := by decide +kernel
theorem dL_common_7 : decode cL_common 7 = .ok (.invokevirtual 115, 3) := by decide +kernel
theorem dL_common_10 : decode cL_common 10 = .ok (.i2l, 1) := by decide +kernel
theorem dL_common_11 : decode cL_common 11 = .ok (.lastore, 1) := by decide +kernel
theorem dL_common_12 : decode cL_common 12 = .ok (.goto 11, 3) := by decide +kernel
theorem dL_common_15 : decode cL_common 15 = .ok (.astore 5, 2) := by decide +kernel
theorem dL_common_17 : decode cL_common 17 = .ok (.iconst 1, 1) := by decide +kernel
theorem dL_common_18 : decode cL_common 18 = .ok (.ireturn, 1) := by decide +kernel
theorem dL_common_19 : decode cL_common 19 = .ok (.astore 5, 2) := by decide +kernel
theorem dL_common_21 : decode cL_common 21 = .ok (.iconst 2, 1) := by decide +kernel
theorem dL_common_22 : decode cL_common 22 = .ok (.ireturn, 1) := by decide +kernel
theorem dL_common_23 : decode cL_common 23 = .ok (.iconst 0, 1) := by decide +kernel
theorem dL_common_24 : decode cL_common 24 = .ok (.ireturn, 1) := by decide +kernel
theorem dL_commonByWalk_0 : decode cL_commonByWalk 0 = .ok (.aload 4, 2) := by decide +kernel
theorem dL_commonByWalk_2 : decode cL_commonByWalk 2 = .ok (.iconst 0, 1) := by decide +kernel
theorem dL_commonByWalk_3 : decode cL_commonByWalk 3 = .ok (.aload_n 0, 1) := by decide +kernel
theorem dL_commonByWalk_4 : decode cL_commonByWalk 4 = .ok (.iload_n 1, 1) := by decide +kernel
theorem dL_commonByWalk_5 : decode cL_commonByWalk 5 = .ok (.iload_n 2, 1) := by decide +kernel
theorem dL_commonByWalk_6 : decode cL_commonByWalk 6 = .ok (.iload_n 3, 1) := by decide +kernel
theorem dL_commonByWalk_7 : decode cL_commonByWalk 7 = .ok (.invokevirtual 118, 3) := by decide +kernel
theorem dL_commonByWalk_10 : decode cL_commonByWalk 10 = .ok (.i2l, 1) := by decide +kernel
theorem dL_commonByWalk_11 : decode cL_commonByWalk 11 = .ok (.lastore, 1) := by decide +kernel
theorem dL_commonByWalk_12 : decode cL_commonByWalk 12 = .ok (.goto 11, 3) := by decide +kernel
theorem dL_commonByWalk_15 : decode cL_commonByWalk 15 = .ok (.astore 5, 2) := by decide +kernel
theorem dL_commonByWalk_17 : decode cL_commonByWalk 17 = .ok (.iconst 1, 1) := by decide +kernel
theorem dL_commonByWalk_18 : decode cL_commonByWalk 18 = .ok (.ireturn, 1) := by decide +kernel
theorem dL_commonByWalk_19 : decode cL_commonByWalk 19 = .ok (.astore 5, 2) := by decide +kernel
theorem dL_commonByWalk_21 : decode cL_commonByWalk 21 = .ok (.iconst 2, 1) := by decide +kernel
theorem dL_commonByWalk_22 : decode cL_commonByWalk 22 = .ok (.ireturn, 1) := by decide +kernel
theorem dL_commonByWalk_23 : decode cL_commonByWalk 23 = .ok (.iconst 0, 1) := by decide +kernel
theorem dL_commonByWalk_24 : decode cL_commonByWalk 24 = .ok (.ireturn, 1) := by decide +kernel
theorem dL_subtreeSize_0 : decode cL_subtreeSize 0 = .ok (.aload_n 3, 1) := by decide +kernel
theorem dL_subtreeSize_1 : decode cL_subtreeSize 1 = .ok (.iconst 0, 1) := by decide +kernel
theorem dL_subtreeSize_2 : decode cL_subtreeSize 2 = .ok (.aload_n 0, 1) := by decide +kernel
theorem dL_subtreeSize_3 : decode cL_subtreeSize 3 = .ok (.iload_n 1, 1) := by decide +kernel
theorem dL_subtreeSize_4 : decode cL_subtreeSize 4 = .ok (.iload_n 2, 1) := by decide +kernel
theorem dL_subtreeSize_5 : decode cL_subtreeSize 5 = .ok (.invokevirtual 121, 3) := by decide +kernel
theorem dL_subtreeSize_8 : decode cL_subtreeSize 8 = .ok (.i2l, 1) := by decide +kernel
theorem dL_subtreeSize_9 : decode cL_subtreeSize 9 = .ok (.lastore, 1) := by decide +kernel
theorem dL_subtreeSize_10 : decode cL_subtreeSize 10 = .ok (.goto 11, 3) := by decide +kernel
theorem dL_subtreeSize_13 : decode cL_subtreeSize 13 = .ok (.astore 4, 2) := by decide +kernel
theorem dL_subtreeSize_15 : decode cL_subtreeSize 15 = .ok (.iconst 1, 1) := by decide +kernel
theorem dL_subtreeSize_16 : decode cL_subtreeSize 16 = .ok (.ireturn, 1) := by decide +kernel
theorem dL_subtreeSize_17 : decode cL_subtreeSize 17 = .ok (.astore 4, 2) := by decide +kernel
theorem dL_subtreeSize_19 : decode cL_subtreeSize 19 = .ok (.iconst 2, 1) := by decide +kernel
theorem dL_subtreeSize_20 : decode cL_subtreeSize 20 = .ok (.ireturn, 1) := by decide +kernel
theorem dL_subtreeSize_21 : decode cL_subtreeSize 21 = .ok (.iconst 0, 1) := by decide +kernel
theorem dL_subtreeSize_22 : decode cL_subtreeSize 22 = .ok (.ireturn, 1) := by decide +kernel
theorem dL_subtreeSum_0 : decode cL_subtreeSum 0 = .ok (.aload_n 3, 1) := by decide +kernel
theorem dL_subtreeSum_1 : decode cL_subtreeSum 1 = .ok (.iconst 0, 1) := by decide +kernel
theorem dL_subtreeSum_2 : decode cL_subtreeSum 2 = .ok (.aload_n 0, 1) := by decide +kernel
theorem dL_subtreeSum_3 : decode cL_subtreeSum 3 = .ok (.iload_n 1, 1) := by decide +kernel
theorem dL_subtreeSum_4 : decode cL_subtreeSum 4 = .ok (.iload_n 2, 1) := by decide +kernel
theorem dL_subtreeSum_5 : decode cL_subtreeSum 5 = .ok (.invokevirtual 124, 3) := by decide +kernel
theorem dL_subtreeSum_8 : decode cL_subtreeSum 8 = .ok (.i2l, 1) := by decide +kernel
theorem dL_subtreeSum_9 : decode cL_subtreeSum 9 = .ok (.lastore, 1) := by decide +kernel
theorem dL_subtreeSum_10 : decode cL_subtreeSum 10 = .ok (.goto 11, 3) := by decide +kernel
theorem dL_subtreeSum_13 : decode cL_subtreeSum 13 = .ok (.astore 4, 2) := by decide +kernel
theorem dL_subtreeSum_15 : decode cL_subtreeSum 15 = .ok (.iconst 1, 1) := by decide +kernel
theorem dL_subtreeSum_16 : decode cL_subtreeSum 16 = .ok (.ireturn, 1) := by decide +kernel
theorem dL_subtreeSum_17 : decode cL_subtreeSum 17 = .ok (.astore 4, 2) := by decide +kernel
theorem dL_subtreeSum_19 : decode cL_subtreeSum 19 = .ok (.iconst 2, 1) := by decide +kernel
theorem dL_subtreeSum_20 : decode cL_subtreeSum 20 = .ok (.ireturn, 1) := by decide +kernel
theorem dL_subtreeSum_21 : decode cL_subtreeSum 21 = .ok (.iconst 0, 1) := by decide +kernel
theorem dL_subtreeSum_22 : decode cL_subtreeSum 22 = .ok (.ireturn, 1) := by decide +kernel
theorem dL_heavyChild_0 : decode cL_heavyChild 0 = .ok (.aload_n 3, 1) := by decide +kernel
theorem dL_heavyChild_1 : decode cL_heavyChild 1 = .ok (.iconst 0, 1) := by decide +kernel
theorem dL_heavyChild_2 : decode cL_heavyChild 2 = .ok (.aload_n 0, 1) := by decide +kernel
theorem dL_heavyChild_3 : decode cL_heavyChild 3 = .ok (.iload_n 1, 1) := by decide +kernel
theorem dL_heavyChild_4 : decode cL_heavyChild 4 = .ok (.iload_n 2, 1) := by decide +kernel
theorem dL_heavyChild_5 : decode cL_heavyChild 5 = .ok (.invokevirtual 127, 3) := by decide +kernel
theorem dL_heavyChild_8 : decode cL_heavyChild 8 = .ok (.i2l, 1) := by decide +kernel
theorem dL_heavyChild_9 : decode cL_heavyChild 9 = .ok (.lastore, 1) := by decide +kernel
theorem dL_heavyChild_10 : decode cL_heavyChild 10 = .ok (.goto 15, 3) := by decide +kernel
theorem dL_heavyChild_13 : decode cL_heavyChild 13 = .ok (.astore 4, 2) := by decide +kernel
theorem dL_heavyChild_15 : decode cL_heavyChild 15 = .ok (.iconst 1, 1) := by decide +kernel
theorem dL_heavyChild_16 : decode cL_heavyChild 16 = .ok (.ireturn, 1) := by decide +kernel
theorem dL_heavyChild_17 : decode cL_heavyChild 17 = .ok (.astore 4, 2) := by decide +kernel
theorem dL_heavyChild_19 : decode cL_heavyChild 19 = .ok (.iconst 2, 1) := by decide +kernel
theorem dL_heavyChild_20 : decode cL_heavyChild 20 = .ok (.ireturn, 1) := by decide +kernel
theorem dL_heavyChild_21 : decode cL_heavyChild 21 = .ok (.astore 4, 2) := by decide +kernel
theorem dL_heavyChild_23 : decode cL_heavyChild 23 = .ok (.iconst 3, 1) := by decide +kernel
theorem dL_heavyChild_24 : decode cL_heavyChild 24 = .ok (.ireturn, 1) := by decide +kernel
theorem dL_heavyChild_25 : decode cL_heavyChild 25 = .ok (.iconst 0, 1) := by decide +kernel
theorem dL_heavyChild_26 : decode cL_heavyChild 26 = .ok (.ireturn, 1) := by decide +kernel
theorem dL_head_0 : decode cL_head 0 = .ok (.aload_n 3, 1) := by decide +kernel
theorem dL_head_1 : decode cL_head 1 = .ok (.iconst 0, 1) := by decide +kernel
theorem dL_head_2 : decode cL_head 2 = .ok (.aload_n 0, 1) := by decide +kernel
theorem dL_head_3 : decode cL_head 3 = .ok (.iload_n 1, 1) := by decide +kernel
theorem dL_head_4 : decode cL_head 4 = .ok (.iload_n 2, 1) := by decide +kernel
theorem dL_head_5 : decode cL_head 5 = .ok (.invokevirtual 130, 3) := by decide +kernel
theorem dL_head_8 : decode cL_head 8 = .ok (.i2l, 1) := by decide +kernel
theorem dL_head_9 : decode cL_head 9 = .ok (.lastore, 1) := by decide +kernel
theorem dL_head_10 : decode cL_head 10 = .ok (.goto 11, 3) := by decide +kernel
theorem dL_head_13 : decode cL_head 13 = .ok (.astore 4, 2) := by decide +kernel
theorem dL_head_15 : decode cL_head 15 = .ok (.iconst 1, 1) := by decide +kernel
theorem dL_head_16 : decode cL_head 16 = .ok (.ireturn, 1) := by decide +kernel
theorem dL_head_17 : decode cL_head 17 = .ok (.astore 4, 2) := by decide +kernel
theorem dL_head_19 : decode cL_head 19 = .ok (.iconst 2, 1) := by decide +kernel
theorem dL_head_20 : decode cL_head 20 = .ok (.ireturn, 1) := by decide +kernel
theorem dL_head_21 : decode cL_head 21 = .ok (.iconst 0, 1) := by decide +kernel
theorem dL_head_22 : decode cL_head 22 = .ok (.ireturn, 1) := by decide +kernel
theorem dL_heavyPaths_0 : decode cL_heavyPaths 0 = .ok (.aload_n 2, 1) := by decide +kernel
theorem dL_heavyPaths_1 : decode cL_heavyPaths 1 = .ok (.iconst 0, 1) := by decide +kernel
theorem dL_heavyPaths_2 : decode cL_heavyPaths 2 = .ok (.aload_n 0, 1) := by decide +kernel
theorem dL_heavyPaths_3 : decode cL_heavyPaths 3 = .ok (.iload_n 1, 1) := by decide +kernel
theorem dL_heavyPaths_4 : decode cL_heavyPaths 4 = .ok (.invokevirtual 133, 3) := by decide +kernel
theorem dL_heavyPaths_7 : decode cL_heavyPaths 7 = .ok (.i2l, 1) := by decide +kernel
theorem dL_heavyPaths_8 : decode cL_heavyPaths 8 = .ok (.lastore, 1) := by decide +kernel
theorem dL_heavyPaths_9 : decode cL_heavyPaths 9 = .ok (.goto 6, 3) := by decide +kernel
theorem dL_heavyPaths_12 : decode cL_heavyPaths 12 = .ok (.astore_n 3, 1) := by decide +kernel
theorem dL_heavyPaths_13 : decode cL_heavyPaths 13 = .ok (.iconst 1, 1) := by decide +kernel
theorem dL_heavyPaths_14 : decode cL_heavyPaths 14 = .ok (.ireturn, 1) := by decide +kernel
theorem dL_heavyPaths_15 : decode cL_heavyPaths 15 = .ok (.iconst 0, 1) := by decide +kernel
theorem dL_heavyPaths_16 : decode cL_heavyPaths 16 = .ok (.ireturn, 1) := by decide +kernel
theorem dL_lightEdges_0 : decode cL_lightEdges 0 = .ok (.aload_n 3, 1) := by decide +kernel
theorem dL_lightEdges_1 : decode cL_lightEdges 1 = .ok (.iconst 0, 1) := by decide +kernel
theorem dL_lightEdges_2 : decode cL_lightEdges 2 = .ok (.aload_n 0, 1) := by decide +kernel
theorem dL_lightEdges_3 : decode cL_lightEdges 3 = .ok (.iload_n 1, 1) := by decide +kernel
theorem dL_lightEdges_4 : decode cL_lightEdges 4 = .ok (.iload_n 2, 1) := by decide +kernel
theorem dL_lightEdges_5 : decode cL_lightEdges 5 = .ok (.invokevirtual 136, 3) := by decide +kernel
theorem dL_lightEdges_8 : decode cL_lightEdges 8 = .ok (.i2l, 1) := by decide +kernel
theorem dL_lightEdges_9 : decode cL_lightEdges 9 = .ok (.lastore, 1) := by decide +kernel
theorem dL_lightEdges_10 : decode cL_lightEdges 10 = .ok (.goto 11, 3) := by decide +kernel
theorem dL_lightEdges_13 : decode cL_lightEdges 13 = .ok (.astore 4, 2) := by decide +kernel
theorem dL_lightEdges_15 : decode cL_lightEdges 15 = .ok (.iconst 1, 1) := by decide +kernel
theorem dL_lightEdges_16 : decode cL_lightEdges 16 = .ok (.ireturn, 1) := by decide +kernel
theorem dL_lightEdges_17 : decode cL_lightEdges 17 = .ok (.astore 4, 2) := by decide +kernel
theorem dL_lightEdges_19 : decode cL_lightEdges 19 = .ok (.iconst 2, 1) := by decide +kernel
theorem dL_lightEdges_20 : decode cL_lightEdges 20 = .ok (.ireturn, 1) := by decide +kernel
theorem dL_lightEdges_21 : decode cL_lightEdges 21 = .ok (.iconst 0, 1) := by decide +kernel
theorem dL_lightEdges_22 : decode cL_lightEdges 22 = .ok (.ireturn, 1) := by decide +kernel
theorem dL_diameter_0 : decode cL_diameter 0 = .ok (.aload_n 2, 1) := by decide +kernel
theorem dL_diameter_1 : decode cL_diameter 1 = .ok (.iconst 0, 1) := by decide +kernel
theorem dL_diameter_2 : decode cL_diameter 2 = .ok (.aload_n 0, 1) := by decide +kernel
theorem dL_diameter_3 : decode cL_diameter 3 = .ok (.iload_n 1, 1) := by decide +kernel
theorem dL_diameter_4 : decode cL_diameter 4 = .ok (.invokevirtual 139, 3) := by decide +kernel
theorem dL_diameter_7 : decode cL_diameter 7 = .ok (.i2l, 1) := by decide +kernel
theorem dL_diameter_8 : decode cL_diameter 8 = .ok (.lastore, 1) := by decide +kernel
theorem dL_diameter_9 : decode cL_diameter 9 = .ok (.goto 6, 3) := by decide +kernel
theorem dL_diameter_12 : decode cL_diameter 12 = .ok (.astore_n 3, 1) := by decide +kernel
theorem dL_diameter_13 : decode cL_diameter 13 = .ok (.iconst 1, 1) := by decide +kernel
theorem dL_diameter_14 : decode cL_diameter 14 = .ok (.ireturn, 1) := by decide +kernel
theorem dL_diameter_15 : decode cL_diameter 15 = .ok (.iconst 0, 1) := by decide +kernel
theorem dL_diameter_16 : decode cL_diameter 16 = .ok (.ireturn, 1) := by decide +kernel
theorem dL_diameterByTrying_0 : decode cL_diameterByTrying 0 = .ok (.aload_n 2, 1) := by decide +kernel
theorem dL_diameterByTrying_1 : decode cL_diameterByTrying 1 = .ok (.iconst 0, 1) := by decide +kernel
theorem dL_diameterByTrying_2 : decode cL_diameterByTrying 2 = .ok (.aload_n 0, 1) := by decide +kernel
theorem dL_diameterByTrying_3 : decode cL_diameterByTrying 3 = .ok (.iload_n 1, 1) := by decide +kernel
theorem dL_diameterByTrying_4 : decode cL_diameterByTrying 4 = .ok (.invokevirtual 142, 3) := by decide +kernel
theorem dL_diameterByTrying_7 : decode cL_diameterByTrying 7 = .ok (.i2l, 1) := by decide +kernel
theorem dL_diameterByTrying_8 : decode cL_diameterByTrying 8 = .ok (.lastore, 1) := by decide +kernel
theorem dL_diameterByTrying_9 : decode cL_diameterByTrying 9 = .ok (.goto 6, 3) := by decide +kernel
theorem dL_diameterByTrying_12 : decode cL_diameterByTrying 12 = .ok (.astore_n 3, 1) := by decide +kernel
theorem dL_diameterByTrying_13 : decode cL_diameterByTrying 13 = .ok (.iconst 1, 1) := by decide +kernel
theorem dL_diameterByTrying_14 : decode cL_diameterByTrying 14 = .ok (.ireturn, 1) := by decide +kernel
theorem dL_diameterByTrying_15 : decode cL_diameterByTrying 15 = .ok (.iconst 0, 1) := by decide +kernel
theorem dL_diameterByTrying_16 : decode cL_diameterByTrying 16 = .ok (.ireturn, 1) := by decide +kernel
theorem dL_law_0 : decode cL_law 0 = .ok (.new 8, 3) := by decide +kernel
theorem dL_law_3 : decode cL_law 3 = .ok (.dup, 1) := by decide +kernel
theorem dL_law_4 : decode cL_law 4 = .ok (.invokespecial 145, 3) := by decide +kernel
theorem dL_law_7 : decode cL_law 7 = .ok (.astore_n 1, 1) := by decide +kernel
theorem dL_law_8 : decode cL_law 8 = .ok (.new 146, 3) := by decide +kernel
theorem dL_law_11 : decode cL_law 11 = .ok (.dup, 1) := by decide +kernel
theorem dL_law_12 : decode cL_law 12 = .ok (.invokespecial 148, 3) := by decide +kernel
theorem dL_law_15 : decode cL_law 15 = .ok (.astore_n 2, 1) := by decide +kernel
theorem dL_law_16 : decode cL_law 16 = .ok (.iconst 1, 1) := by decide +kernel
theorem dL_law_17 : decode cL_law 17 = .ok (.newarray .long, 2) := by decide +kernel
theorem dL_law_19 : decode cL_law 19 = .ok (.astore_n 3, 1) := by decide +kernel
theorem dL_law_20 : decode cL_law 20 = .ok (.iconst 1, 1) := by decide +kernel
theorem dL_law_21 : decode cL_law 21 = .ok (.newarray .double, 2) := by decide +kernel
theorem dL_law_23 : decode cL_law 23 = .ok (.astore 4, 2) := by decide +kernel
theorem dL_law_25 : decode cL_law 25 = .ok (.iconst 0, 1) := by decide +kernel
theorem dL_law_26 : decode cL_law 26 = .ok (.istore 5, 2) := by decide +kernel
theorem dL_law_28 : decode cL_law 28 = .ok (.iload 5, 2) := by decide +kernel
theorem dL_law_30 : decode cL_law 30 = .ok (.aload_n 0, 1) := by decide +kernel
theorem dL_law_31 : decode cL_law 31 = .ok (.arraylength, 1) := by decide +kernel
theorem dL_law_32 : decode cL_law 32 = .ok (.iconst 4, 1) := by decide +kernel
theorem dL_law_33 : decode cL_law 33 = .ok (.isub, 1) := by decide +kernel
theorem dL_law_34 : decode cL_law 34 = .ok (.if_icmp .gt 2985, 3) := by decide +kernel
theorem dL_law_37 : decode cL_law 37 = .ok (.aload_n 0, 1) := by decide +kernel
theorem dL_law_38 : decode cL_law 38 = .ok (.iload 5, 2) := by decide +kernel
theorem dL_law_40 : decode cL_law 40 = .ok (.iaload, 1) := by decide +kernel
theorem dL_law_41 : decode cL_law 41 = .ok (.bipush 63, 2) := by decide +kernel
theorem dL_law_43 : decode cL_law 43 = .ok (.iand, 1) := by decide +kernel
theorem dL_law_44 : decode cL_law 44 = .ok (.tableswitch 2969 0 44 #[196, 252, 320, 400, 456, 524, 604, 617, 630, 686, 742, 798, 866, 934, 1002, 1015, 1028, 1041, 1097, 1165, 1240, 1315, 1371, 1427, 1495, 1575, 1643, 1711, 1779, 1847, 1915, 2005, 2073, 2141, 2221, 2301, 2381, 2461, 2529, 2597, 2665, 2733, 2789, 2857, 2913], 196) := by decide +kernel
theorem dL_law_240 : decode cL_law 240 = .ok (.aload_n 1, 1) := by decide +kernel
theorem dL_law_241 : decode cL_law 241 = .ok (.aload_n 0, 1) := by decide +kernel
theorem dL_law_242 : decode cL_law 242 = .ok (.iload 5, 2) := by decide +kernel
theorem dL_law_244 : decode cL_law 244 = .ok (.iconst 1, 1) := by decide +kernel
theorem dL_law_245 : decode cL_law 245 = .ok (.iadd, 1) := by decide +kernel
theorem dL_law_246 : decode cL_law 246 = .ok (.iaload, 1) := by decide +kernel
theorem dL_law_247 : decode cL_law 247 = .ok (.aload_n 3, 1) := by decide +kernel
theorem dL_law_248 : decode cL_law 248 = .ok (.invokestatic 149, 3) := by decide +kernel
theorem dL_law_251 : decode cL_law 251 = .ok (.istore 6, 2) := by decide +kernel
theorem dL_law_253 : decode cL_law 253 = .ok (.aload_n 2, 1) := by decide +kernel
theorem dL_law_254 : decode cL_law 254 = .ok (.aload_n 0, 1) := by decide +kernel
theorem dL_law_255 : decode cL_law 255 = .ok (.iload 5, 2) := by decide +kernel
theorem dL_law_257 : decode cL_law 257 = .ok (.iconst 1, 1) := by decide +kernel
theorem dL_law_258 : decode cL_law 258 = .ok (.iadd, 1) := by decide +kernel
theorem dL_law_259 : decode cL_law 259 = .ok (.iaload, 1) := by decide +kernel
theorem dL_law_260 : decode cL_law 260 = .ok (.invokevirtual 154, 3) := by decide +kernel
theorem dL_law_263 : decode cL_law 263 = .ok (.istore 7, 2) := by decide +kernel
theorem dL_law_265 : decode cL_law 265 = .ok (.aload_n 2, 1) := by decide +kernel
theorem dL_law_266 : decode cL_law 266 = .ok (.invokevirtual 155, 3) := by decide +kernel
theorem dL_law_269 : decode cL_law 269 = .ok (.iload 6, 2) := by decide +kernel
theorem dL_law_271 : decode cL_law 271 = .ok (.if_icmp .eq 5, 3) := by decide +kernel
theorem dL_law_274 : decode cL_law 274 = .ok (.iconst 0, 1) := by decide +kernel
theorem dL_law_275 : decode cL_law 275 = .ok (.ireturn, 1) := by decide +kernel
theorem dL_law_276 : decode cL_law 276 = .ok (.iload 6, 2) := by decide +kernel
theorem dL_law_278 : decode cL_law 278 = .ok (.ifCond .ne 15, 3) := by decide +kernel
theorem dL_law_281 : decode cL_law 281 = .ok (.aload_n 3, 1) := by decide +kernel
theorem dL_law_282 : decode cL_law 282 = .ok (.iconst 0, 1) := by decide +kernel
theorem dL_law_283 : decode cL_law 283 = .ok (.laload, 1) := by decide +kernel
theorem dL_law_284 : decode cL_law 284 = .ok (.iload 7, 2) := by decide +kernel
theorem dL_law_286 : decode cL_law 286 = .ok (.i2l, 1) := by decide +kernel
theorem dL_law_287 : decode cL_law 287 = .ok (.lcmp, 1) := by decide +kernel
theorem dL_law_288 : decode cL_law 288 = .ok (.ifCond .eq 5, 3) := by decide +kernel
theorem dL_law_291 : decode cL_law 291 = .ok (.iconst 0, 1) := by decide +kernel
theorem dL_law_292 : decode cL_law 292 = .ok (.ireturn, 1) := by decide +kernel
theorem dL_law_293 : decode cL_law 293 = .ok (.goto 2720, 3) := by decide +kernel
theorem dL_law_296 : decode cL_law 296 = .ok (.aload_n 1, 1) := by decide +kernel
theorem dL_law_297 : decode cL_law 297 = .ok (.aload_n 0, 1) := by decide +kernel
theorem dL_law_298 : decode cL_law 298 = .ok (.iload 5, 2) := by decide +kernel
theorem dL_law_300 : decode cL_law 300 = .ok (.iconst 1, 1) := by decide +kernel
theorem dL_law_301 : decode cL_law 301 = .ok (.iadd, 1) := by decide +kernel
theorem dL_law_302 : decode cL_law 302 = .ok (.iaload, 1) := by decide +kernel
theorem dL_law_303 : decode cL_law 303 = .ok (.aload_n 0, 1) := by decide +kernel
theorem dL_law_304 : decode cL_law 304 = .ok (.iload 5, 2) := by decide +kernel
theorem dL_law_306 : decode cL_law 306 = .ok (.iconst 2, 1) := by decide +kernel
theorem dL_law_307 : decode cL_law 307 = .ok (.iadd, 1) := by decide +kernel
theorem dL_law_308 : decode cL_law 308 = .ok (.iaload, 1) := by decide +kernel
theorem dL_law_309 : decode cL_law 309 = .ok (.aload_n 3, 1) := by decide +kernel
theorem dL_law_310 : decode cL_law 310 = .ok (.invokestatic 159, 3) := by decide +kernel
theorem dL_law_313 : decode cL_law 313 = .ok (.istore 6, 2) := by decide +kernel
theorem dL_law_315 : decode cL_law 315 = .ok (.aload_n 2, 1) := by decide +kernel
theorem dL_law_316 : decode cL_law 316 = .ok (.aload_n 0, 1) := by decide +kernel
theorem dL_law_317 : decode cL_law 317 = .ok (.iload 5, 2) := by decide +kernel
theorem dL_law_319 : decode cL_law 319 = .ok (.iconst 1, 1) := by decide +kernel
theorem dL_law_320 : decode cL_law 320 = .ok (.iadd, 1) := by decide +kernel
theorem dL_law_321 : decode cL_law 321 = .ok (.iaload, 1) := by decide +kernel
theorem dL_law_322 : decode cL_law 322 = .ok (.aload_n 0, 1) := by decide +kernel
theorem dL_law_323 : decode cL_law 323 = .ok (.iload 5, 2) := by decide +kernel
theorem dL_law_325 : decode cL_law 325 = .ok (.iconst 2, 1) := by decide +kernel
theorem dL_law_326 : decode cL_law 326 = .ok (.iadd, 1) := by decide +kernel
theorem dL_law_327 : decode cL_law 327 = .ok (.iaload, 1) := by decide +kernel
theorem dL_law_328 : decode cL_law 328 = .ok (.invokevirtual 162, 3) := by decide +kernel
theorem dL_law_331 : decode cL_law 331 = .ok (.istore 7, 2) := by decide +kernel
theorem dL_law_333 : decode cL_law 333 = .ok (.aload_n 2, 1) := by decide +kernel
theorem dL_law_334 : decode cL_law 334 = .ok (.invokevirtual 155, 3) := by decide +kernel
theorem dL_law_337 : decode cL_law 337 = .ok (.iload 6, 2) := by decide +kernel
theorem dL_law_339 : decode cL_law 339 = .ok (.if_icmp .eq 5, 3) := by decide +kernel
theorem dL_law_342 : decode cL_law 342 = .ok (.iconst 0, 1) := by decide +kernel
theorem dL_law_343 : decode cL_law 343 = .ok (.ireturn, 1) := by decide +kernel
theorem dL_law_344 : decode cL_law 344 = .ok (.iload 6, 2) := by decide +kernel
theorem dL_law_346 : decode cL_law 346 = .ok (.ifCond .ne 15, 3) := by decide +kernel
theorem dL_law_349 : decode cL_law 349 = .ok (.aload_n 3, 1) := by decide +kernel
theorem dL_law_350 : decode cL_law 350 = .ok (.iconst 0, 1) := by decide +kernel
theorem dL_law_351 : decode cL_law 351 = .ok (.laload, 1) := by decide +kernel
theorem dL_law_352 : decode cL_law 352 = .ok (.iload 7, 2) := by decide +kernel
theorem dL_law_354 : decode cL_law 354 = .ok (.i2l, 1) := by decide +kernel
theorem dL_law_355 : decode cL_law 355 = .ok (.lcmp, 1) := by decide +kernel
theorem dL_law_356 : decode cL_law 356 = .ok (.ifCond .eq 5, 3) := by decide +kernel
theorem dL_law_359 : decode cL_law 359 = .ok (.iconst 0, 1) := by decide +kernel
theorem dL_law_360 : decode cL_law 360 = .ok (.ireturn, 1) := by decide +kernel
theorem dL_law_361 : decode cL_law 361 = .ok (.goto 2652, 3) := by decide +kernel
theorem dL_law_364 : decode cL_law 364 = .ok (.aload_n 1, 1) := by decide +kernel
theorem dL_law_365 : decode cL_law 365 = .ok (.aload_n 0, 1) := by decide +kernel
theorem dL_law_366 : decode cL_law 366 = .ok (.iload 5, 2) := by decide +kernel
theorem dL_law_368 : decode cL_law 368 = .ok (.iconst 1, 1) := by decide +kernel
theorem dL_law_369 : decode cL_law 369 = .ok (.iadd, 1) := by decide +kernel
theorem dL_law_370 : decode cL_law 370 = .ok (.iaload, 1) := by decide +kernel
theorem dL_law_371 : decode cL_law 371 = .ok (.aload_n 0, 1) := by decide +kernel
theorem dL_law_372 : decode cL_law 372 = .ok (.iload 5, 2) := by decide +kernel
theorem dL_law_374 : decode cL_law 374 = .ok (.iconst 2, 1) := by decide +kernel
theorem dL_law_375 : decode cL_law 375 = .ok (.iadd, 1) := by decide +kernel
theorem dL_law_376 : decode cL_law 376 = .ok (.iaload, 1) := by decide +kernel
theorem dL_law_377 : decode cL_law 377 = .ok (.aload_n 0, 1) := by decide +kernel
theorem dL_law_378 : decode cL_law 378 = .ok (.iload 5, 2) := by decide +kernel
theorem dL_law_380 : decode cL_law 380 = .ok (.iconst 3, 1) := by decide +kernel
theorem dL_law_381 : decode cL_law 381 = .ok (.iadd, 1) := by decide +kernel
theorem dL_law_382 : decode cL_law 382 = .ok (.iaload, 1) := by decide +kernel
theorem dL_law_383 : decode cL_law 383 = .ok (.aload_n 3, 1) := by decide +kernel
theorem dL_law_384 : decode cL_law 384 = .ok (.invokestatic 163, 3) := by decide +kernel
theorem dL_law_387 : decode cL_law 387 = .ok (.istore 6, 2) := by decide +kernel
theorem dL_law_389 : decode cL_law 389 = .ok (.aload_n 2, 1) := by decide +kernel
theorem dL_law_390 : decode cL_law 390 = .ok (.aload_n 0, 1) := by decide +kernel
theorem dL_law_391 : decode cL_law 391 = .ok (.iload 5, 2) := by decide +kernel
theorem dL_law_393 : decode cL_law 393 = .ok (.iconst 1, 1) := by decide +kernel
theorem dL_law_394 : decode cL_law 394 = .ok (.iadd, 1) := by decide +kernel
theorem dL_law_395 : decode cL_law 395 = .ok (.iaload, 1) := by decide +kernel
theorem dL_law_396 : decode cL_law 396 = .ok (.aload_n 0, 1) := by decide +kernel
theorem dL_law_397 : decode cL_law 397 = .ok (.iload 5, 2) := by decide +kernel
theorem dL_law_399 : decode cL_law 399 = .ok (.iconst 2, 1) := by decide +kernel
theorem dL_law_400 : decode cL_law 400 = .ok (.iadd, 1) := by decide +kernel
theorem dL_law_401 : decode cL_law 401 = .ok (.iaload, 1) := by decide +kernel
theorem dL_law_402 : decode cL_law 402 = .ok (.aload_n 0, 1) := by decide +kernel
theorem dL_law_403 : decode cL_law 403 = .ok (.iload 5, 2) := by decide +kernel
theorem dL_law_405 : decode cL_law 405 = .ok (.iconst 3, 1) := by decide +kernel
theorem dL_law_406 : decode cL_law 406 = .ok (.iadd, 1) := by decide +kernel
theorem dL_law_407 : decode cL_law 407 = .ok (.iaload, 1) := by decide +kernel
theorem dL_law_408 : decode cL_law 408 = .ok (.invokevirtual 166, 3) := by decide +kernel
theorem dL_law_411 : decode cL_law 411 = .ok (.istore 7, 2) := by decide +kernel
theorem dL_law_413 : decode cL_law 413 = .ok (.aload_n 2, 1) := by decide +kernel
theorem dL_law_414 : decode cL_law 414 = .ok (.invokevirtual 155, 3) := by decide +kernel
theorem dL_law_417 : decode cL_law 417 = .ok (.iload 6, 2) := by decide +kernel
theorem dL_law_419 : decode cL_law 419 = .ok (.if_icmp .eq 5, 3) := by decide +kernel
theorem dL_law_422 : decode cL_law 422 = .ok (.iconst 0, 1) := by decide +kernel
theorem dL_law_423 : decode cL_law 423 = .ok (.ireturn, 1) := by decide +kernel
theorem dL_law_424 : decode cL_law 424 = .ok (.iload 6, 2) := by decide +kernel
theorem dL_law_426 : decode cL_law 426 = .ok (.ifCond .ne 15, 3) := by decide +kernel
theorem dL_law_429 : decode cL_law 429 = .ok (.aload_n 3, 1) := by decide +kernel
theorem dL_law_430 : decode cL_law 430 = .ok (.iconst 0, 1) := by decide +kernel
theorem dL_law_431 : decode cL_law 431 = .ok (.laload, 1) := by decide +kernel
theorem dL_law_432 : decode cL_law 432 = .ok (.iload 7, 2) := by decide +kernel
theorem dL_law_434 : decode cL_law 434 = .ok (.i2l, 1) := by decide +kernel
theorem dL_law_435 : decode cL_law 435 = .ok (.lcmp, 1) := by decide +kernel
theorem dL_law_436 : decode cL_law 436 = .ok (.ifCond .eq 5, 3) := by decide +kernel
theorem dL_law_439 : decode cL_law 439 = .ok (.iconst 0, 1) := by decide +kernel
theorem dL_law_440 : decode cL_law 440 = .ok (.ireturn, 1) := by decide +kernel
theorem dL_law_441 : decode cL_law 441 = .ok (.goto 2572, 3) := by decide +kernel
theorem dL_law_444 : decode cL_law 444 = .ok (.aload_n 1, 1) := by decide +kernel
theorem dL_law_445 : decode cL_law 445 = .ok (.aload_n 0, 1) := by decide +kernel
theorem dL_law_446 : decode cL_law 446 = .ok (.iload 5, 2) := by decide +kernel
theorem dL_law_448 : decode cL_law 448 = .ok (.iconst 1, 1) := by decide +kernel
theorem dL_law_449 : decode cL_law 449 = .ok (.iadd, 1) := by decide +kernel
theorem dL_law_450 : decode cL_law 450 = .ok (.iaload, 1) := by decide +kernel
theorem dL_law_451 : decode cL_law 451 = .ok (.aload_n 3, 1) := by decide +kernel
theorem dL_law_452 : decode cL_law 452 = .ok (.invokestatic 167, 3) := by decide +kernel
theorem dL_law_455 : decode cL_law 455 = .ok (.istore 6, 2) := by decide +kernel
theorem dL_law_457 : decode cL_law 457 = .ok (.aload_n 2, 1) := by decide +kernel
theorem dL_law_458 : decode cL_law 458 = .ok (.aload_n 0, 1) := by decide +kernel
theorem dL_law_459 : decode cL_law 459 = .ok (.iload 5, 2) := by decide +kernel
theorem dL_law_461 : decode cL_law 461 = .ok (.iconst 1, 1) := by decide +kernel
theorem dL_law_462 : decode cL_law 462 = .ok (.iadd, 1) := by decide +kernel
theorem dL_law_463 : decode cL_law 463 = .ok (.iaload, 1) := by decide +kernel
theorem dL_law_464 : decode cL_law 464 = .ok (.invokevirtual 169, 3) := by decide +kernel
theorem dL_law_467 : decode cL_law 467 = .ok (.istore 7, 2) := by decide +kernel
theorem dL_law_469 : decode cL_law 469 = .ok (.aload_n 2, 1) := by decide +kernel
theorem dL_law_470 : decode cL_law 470 = .ok (.invokevirtual 155, 3) := by decide +kernel
theorem dL_law_473 : decode cL_law 473 = .ok (.iload 6, 2) := by decide +kernel
theorem dL_law_475 : decode cL_law 475 = .ok (.if_icmp .eq 5, 3) := by decide +kernel
theorem dL_law_478 : decode cL_law 478 = .ok (.iconst 0, 1) := by decide +kernel
theorem dL_law_479 : decode cL_law 479 = .ok (.ireturn, 1) := by decide +kernel
theorem dL_law_480 : decode cL_law 480 = .ok (.iload 6, 2) := by decide +kernel
theorem dL_law_482 : decode cL_law 482 = .ok (.ifCond .ne 15, 3) := by decide +kernel
theorem dL_law_485 : decode cL_law 485 = .ok (.aload_n 3, 1) := by decide +kernel
theorem dL_law_486 : decode cL_law 486 = .ok (.iconst 0, 1) := by decide +kernel
theorem dL_law_487 : decode cL_law 487 = .ok (.laload, 1) := by decide +kernel
theorem dL_law_488 : decode cL_law 488 = .ok (.iload 7, 2) := by decide +kernel
theorem dL_law_490 : decode cL_law 490 = .ok (.i2l, 1) := by decide +kernel
theorem dL_law_491 : decode cL_law 491 = .ok (.lcmp, 1) := by decide +kernel
theorem dL_law_492 : decode cL_law 492 = .ok (.ifCond .eq 5, 3) := by decide +kernel
theorem dL_law_495 : decode cL_law 495 = .ok (.iconst 0, 1) := by decide +kernel
theorem dL_law_496 : decode cL_law 496 = .ok (.ireturn, 1) := by decide +kernel
theorem dL_law_497 : decode cL_law 497 = .ok (.goto 2516, 3) := by decide +kernel
theorem dL_law_500 : decode cL_law 500 = .ok (.aload_n 1, 1) := by decide +kernel
theorem dL_law_501 : decode cL_law 501 = .ok (.aload_n 0, 1) := by decide +kernel
theorem dL_law_502 : decode cL_law 502 = .ok (.iload 5, 2) := by decide +kernel
theorem dL_law_504 : decode cL_law 504 = .ok (.iconst 1, 1) := by decide +kernel
theorem dL_law_505 : decode cL_law 505 = .ok (.iadd, 1) := by decide +kernel
theorem dL_law_506 : decode cL_law 506 = .ok (.iaload, 1) := by decide +kernel
theorem dL_law_507 : decode cL_law 507 = .ok (.aload_n 0, 1) := by decide +kernel
theorem dL_law_508 : decode cL_law 508 = .ok (.iload 5, 2) := by decide +kernel
theorem dL_law_510 : decode cL_law 510 = .ok (.iconst 2, 1) := by decide +kernel
theorem dL_law_511 : decode cL_law 511 = .ok (.iadd, 1) := by decide +kernel
theorem dL_law_512 : decode cL_law 512 = .ok (.iaload, 1) := by decide +kernel
theorem dL_law_513 : decode cL_law 513 = .ok (.aload_n 3, 1) := by decide +kernel
theorem dL_law_514 : decode cL_law 514 = .ok (.invokestatic 170, 3) := by decide +kernel
theorem dL_law_517 : decode cL_law 517 = .ok (.istore 6, 2) := by decide +kernel
theorem dL_law_519 : decode cL_law 519 = .ok (.aload_n 2, 1) := by decide +kernel
theorem dL_law_520 : decode cL_law 520 = .ok (.aload_n 0, 1) := by decide +kernel
theorem dL_law_521 : decode cL_law 521 = .ok (.iload 5, 2) := by decide +kernel
theorem dL_law_523 : decode cL_law 523 = .ok (.iconst 1, 1) := by decide +kernel
theorem dL_law_524 : decode cL_law 524 = .ok (.iadd, 1) := by decide +kernel
theorem dL_law_525 : decode cL_law 525 = .ok (.iaload, 1) := by decide +kernel
theorem dL_law_526 : decode cL_law 526 = .ok (.aload_n 0, 1) := by decide +kernel
theorem dL_law_527 : decode cL_law 527 = .ok (.iload 5, 2) := by decide +kernel
theorem dL_law_529 : decode cL_law 529 = .ok (.iconst 2, 1) := by decide +kernel
theorem dL_law_530 : decode cL_law 530 = .ok (.iadd, 1) := by decide +kernel
theorem dL_law_531 : decode cL_law 531 = .ok (.iaload, 1) := by decide +kernel
theorem dL_law_532 : decode cL_law 532 = .ok (.invokevirtual 172, 3) := by decide +kernel
theorem dL_law_535 : decode cL_law 535 = .ok (.istore 7, 2) := by decide +kernel
theorem dL_law_537 : decode cL_law 537 = .ok (.aload_n 2, 1) := by decide +kernel
theorem dL_law_538 : decode cL_law 538 = .ok (.invokevirtual 155, 3) := by decide +kernel
theorem dL_law_541 : decode cL_law 541 = .ok (.iload 6, 2) := by decide +kernel
theorem dL_law_543 : decode cL_law 543 = .ok (.if_icmp .eq 5, 3) := by decide +kernel
theorem dL_law_546 : decode cL_law 546 = .ok (.iconst 0, 1) := by decide +kernel
theorem dL_law_547 : decode cL_law 547 = .ok (.ireturn, 1) := by decide +kernel
theorem dL_law_548 : decode cL_law 548 = .ok (.iload 6, 2) := by decide +kernel
theorem dL_law_550 : decode cL_law 550 = .ok (.ifCond .ne 15, 3) := by decide +kernel
theorem dL_law_553 : decode cL_law 553 = .ok (.aload_n 3, 1) := by decide +kernel
theorem dL_law_554 : decode cL_law 554 = .ok (.iconst 0, 1) := by decide +kernel
theorem dL_law_555 : decode cL_law 555 = .ok (.laload, 1) := by decide +kernel
theorem dL_law_556 : decode cL_law 556 = .ok (.iload 7, 2) := by decide +kernel
theorem dL_law_558 : decode cL_law 558 = .ok (.i2l, 1) := by decide +kernel
theorem dL_law_559 : decode cL_law 559 = .ok (.lcmp, 1) := by decide +kernel
theorem dL_law_560 : decode cL_law 560 = .ok (.ifCond .eq 5, 3) := by decide +kernel
theorem dL_law_563 : decode cL_law 563 = .ok (.iconst 0, 1) := by decide +kernel
theorem dL_law_564 : decode cL_law 564 = .ok (.ireturn, 1) := by decide +kernel
theorem dL_law_565 : decode cL_law 565 = .ok (.goto 2448, 3) := by decide +kernel
theorem dL_law_568 : decode cL_law 568 = .ok (.aload_n 1, 1) := by decide +kernel
theorem dL_law_569 : decode cL_law 569 = .ok (.aload_n 0, 1) := by decide +kernel
theorem dL_law_570 : decode cL_law 570 = .ok (.iload 5, 2) := by decide +kernel
theorem dL_law_572 : decode cL_law 572 = .ok (.iconst 1, 1) := by decide +kernel
theorem dL_law_573 : decode cL_law 573 = .ok (.iadd, 1) := by decide +kernel
theorem dL_law_574 : decode cL_law 574 = .ok (.iaload, 1) := by decide +kernel
theorem dL_law_575 : decode cL_law 575 = .ok (.aload_n 0, 1) := by decide +kernel
theorem dL_law_576 : decode cL_law 576 = .ok (.iload 5, 2) := by decide +kernel
theorem dL_law_578 : decode cL_law 578 = .ok (.iconst 2, 1) := by decide +kernel
theorem dL_law_579 : decode cL_law 579 = .ok (.iadd, 1) := by decide +kernel
theorem dL_law_580 : decode cL_law 580 = .ok (.iaload, 1) := by decide +kernel
theorem dL_law_581 : decode cL_law 581 = .ok (.aload_n 0, 1) := by decide +kernel
theorem dL_law_582 : decode cL_law 582 = .ok (.iload 5, 2) := by decide +kernel
theorem dL_law_584 : decode cL_law 584 = .ok (.iconst 3, 1) := by decide +kernel
theorem dL_law_585 : decode cL_law 585 = .ok (.iadd, 1) := by decide +kernel
theorem dL_law_586 : decode cL_law 586 = .ok (.iaload, 1) := by decide +kernel
theorem dL_law_587 : decode cL_law 587 = .ok (.aload_n 3, 1) := by decide +kernel
theorem dL_law_588 : decode cL_law 588 = .ok (.invokestatic 173, 3) := by decide +kernel
theorem dL_law_591 : decode cL_law 591 = .ok (.istore 6, 2) := by decide +kernel
theorem dL_law_593 : decode cL_law 593 = .ok (.aload_n 2, 1) := by decide +kernel
theorem dL_law_594 : decode cL_law 594 = .ok (.aload_n 0, 1) := by decide +kernel
theorem dL_law_595 : decode cL_law 595 = .ok (.iload 5, 2) := by decide +kernel
theorem dL_law_597 : decode cL_law 597 = .ok (.iconst 1, 1) := by decide +kernel
theorem dL_law_598 : decode cL_law 598 = .ok (.iadd, 1) := by decide +kernel
theorem dL_law_599 : decode cL_law 599 = .ok (.iaload, 1) := by decide +kernel
theorem dL_law_600 : decode cL_law 600 = .ok (.aload_n 0, 1) := by decide +kernel
theorem dL_law_601 : decode cL_law 601 = .ok (.iload 5, 2) := by decide +kernel
theorem dL_law_603 : decode cL_law 603 = .ok (.iconst 2, 1) := by decide +kernel
theorem dL_law_604 : decode cL_law 604 = .ok (.iadd, 1) := by decide +kernel
theorem dL_law_605 : decode cL_law 605 = .ok (.iaload, 1) := by decide +kernel
theorem dL_law_606 : decode cL_law 606 = .ok (.aload_n 0, 1) := by decide +kernel
theorem dL_law_607 : decode cL_law 607 = .ok (.iload 5, 2) := by decide +kernel
theorem dL_law_609 : decode cL_law 609 = .ok (.iconst 3, 1) := by decide +kernel
theorem dL_law_610 : decode cL_law 610 = .ok (.iadd, 1) := by decide +kernel
theorem dL_law_611 : decode cL_law 611 = .ok (.iaload, 1) := by decide +kernel
theorem dL_law_612 : decode cL_law 612 = .ok (.invokevirtual 175, 3) := by decide +kernel
theorem dL_law_615 : decode cL_law 615 = .ok (.istore 7, 2) := by decide +kernel
theorem dL_law_617 : decode cL_law 617 = .ok (.aload_n 2, 1) := by decide +kernel
theorem dL_law_618 : decode cL_law 618 = .ok (.invokevirtual 155, 3) := by decide +kernel
theorem dL_law_621 : decode cL_law 621 = .ok (.iload 6, 2) := by decide +kernel
theorem dL_law_623 : decode cL_law 623 = .ok (.if_icmp .eq 5, 3) := by decide +kernel
theorem dL_law_626 : decode cL_law 626 = .ok (.iconst 0, 1) := by decide +kernel
theorem dL_law_627 : decode cL_law 627 = .ok (.ireturn, 1) := by decide +kernel
theorem dL_law_628 : decode cL_law 628 = .ok (.iload 6, 2) := by decide +kernel
theorem dL_law_630 : decode cL_law 630 = .ok (.ifCond .ne 15, 3) := by decide +kernel
theorem dL_law_633 : decode cL_law 633 = .ok (.aload_n 3, 1) := by decide +kernel
theorem dL_law_634 : decode cL_law 634 = .ok (.iconst 0, 1) := by decide +kernel
theorem dL_law_635 : decode cL_law 635 = .ok (.laload, 1) := by decide +kernel
theorem dL_law_636 : decode cL_law 636 = .ok (.iload 7, 2) := by decide +kernel
theorem dL_law_638 : decode cL_law 638 = .ok (.i2l, 1) := by decide +kernel
theorem dL_law_639 : decode cL_law 639 = .ok (.lcmp, 1) := by decide +kernel
theorem dL_law_640 : decode cL_law 640 = .ok (.ifCond .eq 5, 3) := by decide +kernel
theorem dL_law_643 : decode cL_law 643 = .ok (.iconst 0, 1) := by decide +kernel
theorem dL_law_644 : decode cL_law 644 = .ok (.ireturn, 1) := by decide +kernel
theorem dL_law_645 : decode cL_law 645 = .ok (.goto 2368, 3) := by decide +kernel
theorem dL_law_648 : decode cL_law 648 = .ok (.aload_n 1, 1) := by decide +kernel
theorem dL_law_649 : decode cL_law 649 = .ok (.invokevirtual 176, 3) := by decide +kernel
theorem dL_law_652 : decode cL_law 652 = .ok (.aload_n 2, 1) := by decide +kernel
theorem dL_law_653 : decode cL_law 653 = .ok (.invokevirtual 179, 3) := by decide +kernel
theorem dL_law_656 : decode cL_law 656 = .ok (.if_icmp .eq 2357, 3) := by decide +kernel
theorem dL_law_659 : decode cL_law 659 = .ok (.iconst 0, 1) := by decide +kernel
theorem dL_law_660 : decode cL_law 660 = .ok (.ireturn, 1) := by decide +kernel
theorem dL_law_661 : decode cL_law 661 = .ok (.aload_n 1, 1) := by decide +kernel
theorem dL_law_662 : decode cL_law 662 = .ok (.invokevirtual 180, 3) := by decide +kernel
theorem dL_law_665 : decode cL_law 665 = .ok (.aload_n 2, 1) := by decide +kernel
theorem dL_law_666 : decode cL_law 666 = .ok (.invokevirtual 183, 3) := by decide +kernel
theorem dL_law_669 : decode cL_law 669 = .ok (.if_icmp .eq 2344, 3) := by decide +kernel
theorem dL_law_672 : decode cL_law 672 = .ok (.iconst 0, 1) := by decide +kernel
theorem dL_law_673 : decode cL_law 673 = .ok (.ireturn, 1) := by decide +kernel
theorem dL_law_674 : decode cL_law 674 = .ok (.aload_n 1, 1) := by decide +kernel
theorem dL_law_675 : decode cL_law 675 = .ok (.aload_n 0, 1) := by decide +kernel
theorem dL_law_676 : decode cL_law 676 = .ok (.iload 5, 2) := by decide +kernel
theorem dL_law_678 : decode cL_law 678 = .ok (.iconst 1, 1) := by decide +kernel
theorem dL_law_679 : decode cL_law 679 = .ok (.iadd, 1) := by decide +kernel
theorem dL_law_680 : decode cL_law 680 = .ok (.iaload, 1) := by decide +kernel
theorem dL_law_681 : decode cL_law 681 = .ok (.aload_n 3, 1) := by decide +kernel
theorem dL_law_682 : decode cL_law 682 = .ok (.invokestatic 184, 3) := by decide +kernel
theorem dL_law_685 : decode cL_law 685 = .ok (.istore 6, 2) := by decide +kernel
theorem dL_law_687 : decode cL_law 687 = .ok (.aload_n 2, 1) := by decide +kernel
theorem dL_law_688 : decode cL_law 688 = .ok (.aload_n 0, 1) := by decide +kernel
theorem dL_law_689 : decode cL_law 689 = .ok (.iload 5, 2) := by decide +kernel
theorem dL_law_691 : decode cL_law 691 = .ok (.iconst 1, 1) := by decide +kernel
theorem dL_law_692 : decode cL_law 692 = .ok (.iadd, 1) := by decide +kernel
theorem dL_law_693 : decode cL_law 693 = .ok (.iaload, 1) := by decide +kernel
theorem dL_law_694 : decode cL_law 694 = .ok (.invokevirtual 186, 3) := by decide +kernel
theorem dL_law_697 : decode cL_law 697 = .ok (.istore 7, 2) := by decide +kernel
theorem dL_law_699 : decode cL_law 699 = .ok (.aload_n 2, 1) := by decide +kernel
theorem dL_law_700 : decode cL_law 700 = .ok (.invokevirtual 155, 3) := by decide +kernel
theorem dL_law_703 : decode cL_law 703 = .ok (.iload 6, 2) := by decide +kernel
theorem dL_law_705 : decode cL_law 705 = .ok (.if_icmp .eq 5, 3) := by decide +kernel
theorem dL_law_708 : decode cL_law 708 = .ok (.iconst 0, 1) := by decide +kernel
theorem dL_law_709 : decode cL_law 709 = .ok (.ireturn, 1) := by decide +kernel
theorem dL_law_710 : decode cL_law 710 = .ok (.iload 6, 2) := by decide +kernel
theorem dL_law_712 : decode cL_law 712 = .ok (.ifCond .ne 15, 3) := by decide +kernel
theorem dL_law_715 : decode cL_law 715 = .ok (.aload_n 3, 1) := by decide +kernel
theorem dL_law_716 : decode cL_law 716 = .ok (.iconst 0, 1) := by decide +kernel
theorem dL_law_717 : decode cL_law 717 = .ok (.laload, 1) := by decide +kernel
theorem dL_law_718 : decode cL_law 718 = .ok (.iload 7, 2) := by decide +kernel
theorem dL_law_720 : decode cL_law 720 = .ok (.i2l, 1) := by decide +kernel
theorem dL_law_721 : decode cL_law 721 = .ok (.lcmp, 1) := by decide +kernel
theorem dL_law_722 : decode cL_law 722 = .ok (.ifCond .eq 5, 3) := by decide +kernel
theorem dL_law_725 : decode cL_law 725 = .ok (.iconst 0, 1) := by decide +kernel
theorem dL_law_726 : decode cL_law 726 = .ok (.ireturn, 1) := by decide +kernel
theorem dL_law_727 : decode cL_law 727 = .ok (.goto 2286, 3) := by decide +kernel
theorem dL_law_730 : decode cL_law 730 = .ok (.aload_n 1, 1) := by decide +kernel
theorem dL_law_731 : decode cL_law 731 = .ok (.aload_n 0, 1) := by decide +kernel
theorem dL_law_732 : decode cL_law 732 = .ok (.iload 5, 2) := by decide +kernel
theorem dL_law_734 : decode cL_law 734 = .ok (.iconst 1, 1) := by decide +kernel
theorem dL_law_735 : decode cL_law 735 = .ok (.iadd, 1) := by decide +kernel
theorem dL_law_736 : decode cL_law 736 = .ok (.iaload, 1) := by decide +kernel
theorem dL_law_737 : decode cL_law 737 = .ok (.aload_n 3, 1) := by decide +kernel
theorem dL_law_738 : decode cL_law 738 = .ok (.invokestatic 187, 3) := by decide +kernel
theorem dL_law_741 : decode cL_law 741 = .ok (.istore 6, 2) := by decide +kernel
theorem dL_law_743 : decode cL_law 743 = .ok (.aload_n 2, 1) := by decide +kernel
theorem dL_law_744 : decode cL_law 744 = .ok (.aload_n 0, 1) := by decide +kernel
theorem dL_law_745 : decode cL_law 745 = .ok (.iload 5, 2) := by decide +kernel
theorem dL_law_747 : decode cL_law 747 = .ok (.iconst 1, 1) := by decide +kernel
theorem dL_law_748 : decode cL_law 748 = .ok (.iadd, 1) := by decide +kernel
theorem dL_law_749 : decode cL_law 749 = .ok (.iaload, 1) := by decide +kernel
theorem dL_law_750 : decode cL_law 750 = .ok (.invokevirtual 189, 3) := by decide +kernel
theorem dL_law_753 : decode cL_law 753 = .ok (.istore 7, 2) := by decide +kernel
theorem dL_law_755 : decode cL_law 755 = .ok (.aload_n 2, 1) := by decide +kernel
theorem dL_law_756 : decode cL_law 756 = .ok (.invokevirtual 155, 3) := by decide +kernel
theorem dL_law_759 : decode cL_law 759 = .ok (.iload 6, 2) := by decide +kernel
theorem dL_law_761 : decode cL_law 761 = .ok (.if_icmp .eq 5, 3) := by decide +kernel
theorem dL_law_764 : decode cL_law 764 = .ok (.iconst 0, 1) := by decide +kernel
theorem dL_law_765 : decode cL_law 765 = .ok (.ireturn, 1) := by decide +kernel
theorem dL_law_766 : decode cL_law 766 = .ok (.iload 6, 2) := by decide +kernel
theorem dL_law_768 : decode cL_law 768 = .ok (.ifCond .ne 15, 3) := by decide +kernel
theorem dL_law_771 : decode cL_law 771 = .ok (.aload_n 3, 1) := by decide +kernel
theorem dL_law_772 : decode cL_law 772 = .ok (.iconst 0, 1) := by decide +kernel
theorem dL_law_773 : decode cL_law 773 = .ok (.laload, 1) := by decide +kernel
theorem dL_law_774 : decode cL_law 774 = .ok (.iload 7, 2) := by decide +kernel
theorem dL_law_776 : decode cL_law 776 = .ok (.i2l, 1) := by decide +kernel
theorem dL_law_777 : decode cL_law 777 = .ok (.lcmp, 1) := by decide +kernel
theorem dL_law_778 : decode cL_law 778 = .ok (.ifCond .eq 5, 3) := by decide +kernel
theorem dL_law_781 : decode cL_law 781 = .ok (.iconst 0, 1) := by decide +kernel
theorem dL_law_782 : decode cL_law 782 = .ok (.ireturn, 1) := by decide +kernel
theorem dL_law_783 : decode cL_law 783 = .ok (.goto 2230, 3) := by decide +kernel
theorem dL_law_786 : decode cL_law 786 = .ok (.aload_n 1, 1) := by decide +kernel
theorem dL_law_787 : decode cL_law 787 = .ok (.aload_n 0, 1) := by decide +kernel
theorem dL_law_788 : decode cL_law 788 = .ok (.iload 5, 2) := by decide +kernel
theorem dL_law_790 : decode cL_law 790 = .ok (.iconst 1, 1) := by decide +kernel
theorem dL_law_791 : decode cL_law 791 = .ok (.iadd, 1) := by decide +kernel
theorem dL_law_792 : decode cL_law 792 = .ok (.iaload, 1) := by decide +kernel
theorem dL_law_793 : decode cL_law 793 = .ok (.aload_n 3, 1) := by decide +kernel
theorem dL_law_794 : decode cL_law 794 = .ok (.invokestatic 190, 3) := by decide +kernel
theorem dL_law_797 : decode cL_law 797 = .ok (.istore 6, 2) := by decide +kernel
theorem dL_law_799 : decode cL_law 799 = .ok (.aload_n 2, 1) := by decide +kernel
theorem dL_law_800 : decode cL_law 800 = .ok (.aload_n 0, 1) := by decide +kernel
theorem dL_law_801 : decode cL_law 801 = .ok (.iload 5, 2) := by decide +kernel
theorem dL_law_803 : decode cL_law 803 = .ok (.iconst 1, 1) := by decide +kernel
theorem dL_law_804 : decode cL_law 804 = .ok (.iadd, 1) := by decide +kernel
theorem dL_law_805 : decode cL_law 805 = .ok (.iaload, 1) := by decide +kernel
theorem dL_law_806 : decode cL_law 806 = .ok (.invokevirtual 192, 3) := by decide +kernel
theorem dL_law_809 : decode cL_law 809 = .ok (.istore 7, 2) := by decide +kernel
theorem dL_law_811 : decode cL_law 811 = .ok (.aload_n 2, 1) := by decide +kernel
theorem dL_law_812 : decode cL_law 812 = .ok (.invokevirtual 155, 3) := by decide +kernel
theorem dL_law_815 : decode cL_law 815 = .ok (.iload 6, 2) := by decide +kernel
theorem dL_law_817 : decode cL_law 817 = .ok (.if_icmp .eq 5, 3) := by decide +kernel
theorem dL_law_820 : decode cL_law 820 = .ok (.iconst 0, 1) := by decide +kernel
theorem dL_law_821 : decode cL_law 821 = .ok (.ireturn, 1) := by decide +kernel
theorem dL_law_822 : decode cL_law 822 = .ok (.iload 6, 2) := by decide +kernel
theorem dL_law_824 : decode cL_law 824 = .ok (.ifCond .ne 15, 3) := by decide +kernel
theorem dL_law_827 : decode cL_law 827 = .ok (.aload_n 3, 1) := by decide +kernel
theorem dL_law_828 : decode cL_law 828 = .ok (.iconst 0, 1) := by decide +kernel
theorem dL_law_829 : decode cL_law 829 = .ok (.laload, 1) := by decide +kernel
theorem dL_law_830 : decode cL_law 830 = .ok (.iload 7, 2) := by decide +kernel
theorem dL_law_832 : decode cL_law 832 = .ok (.i2l, 1) := by decide +kernel
theorem dL_law_833 : decode cL_law 833 = .ok (.lcmp, 1) := by decide +kernel
theorem dL_law_834 : decode cL_law 834 = .ok (.ifCond .eq 5, 3) := by decide +kernel
theorem dL_law_837 : decode cL_law 837 = .ok (.iconst 0, 1) := by decide +kernel
theorem dL_law_838 : decode cL_law 838 = .ok (.ireturn, 1) := by decide +kernel
theorem dL_law_839 : decode cL_law 839 = .ok (.goto 2174, 3) := by decide +kernel
theorem dL_law_842 : decode cL_law 842 = .ok (.aload_n 1, 1) := by decide +kernel
theorem dL_law_843 : decode cL_law 843 = .ok (.aload_n 0, 1) := by decide +kernel
theorem dL_law_844 : decode cL_law 844 = .ok (.iload 5, 2) := by decide +kernel
theorem dL_law_846 : decode cL_law 846 = .ok (.iconst 1, 1) := by decide +kernel
theorem dL_law_847 : decode cL_law 847 = .ok (.iadd, 1) := by decide +kernel
theorem dL_law_848 : decode cL_law 848 = .ok (.iaload, 1) := by decide +kernel
theorem dL_law_849 : decode cL_law 849 = .ok (.aload_n 0, 1) := by decide +kernel
theorem dL_law_850 : decode cL_law 850 = .ok (.iload 5, 2) := by decide +kernel
theorem dL_law_852 : decode cL_law 852 = .ok (.iconst 2, 1) := by decide +kernel
theorem dL_law_853 : decode cL_law 853 = .ok (.iadd, 1) := by decide +kernel
theorem dL_law_854 : decode cL_law 854 = .ok (.iaload, 1) := by decide +kernel
theorem dL_law_855 : decode cL_law 855 = .ok (.aload_n 3, 1) := by decide +kernel
theorem dL_law_856 : decode cL_law 856 = .ok (.invokestatic 193, 3) := by decide +kernel
theorem dL_law_859 : decode cL_law 859 = .ok (.istore 6, 2) := by decide +kernel
theorem dL_law_861 : decode cL_law 861 = .ok (.aload_n 2, 1) := by decide +kernel
theorem dL_law_862 : decode cL_law 862 = .ok (.aload_n 0, 1) := by decide +kernel
theorem dL_law_863 : decode cL_law 863 = .ok (.iload 5, 2) := by decide +kernel
theorem dL_law_865 : decode cL_law 865 = .ok (.iconst 1, 1) := by decide +kernel
theorem dL_law_866 : decode cL_law 866 = .ok (.iadd, 1) := by decide +kernel
theorem dL_law_867 : decode cL_law 867 = .ok (.iaload, 1) := by decide +kernel
theorem dL_law_868 : decode cL_law 868 = .ok (.aload_n 0, 1) := by decide +kernel
theorem dL_law_869 : decode cL_law 869 = .ok (.iload 5, 2) := by decide +kernel
theorem dL_law_871 : decode cL_law 871 = .ok (.iconst 2, 1) := by decide +kernel
theorem dL_law_872 : decode cL_law 872 = .ok (.iadd, 1) := by decide +kernel
theorem dL_law_873 : decode cL_law 873 = .ok (.iaload, 1) := by decide +kernel
theorem dL_law_874 : decode cL_law 874 = .ok (.invokevirtual 195, 3) := by decide +kernel
theorem dL_law_877 : decode cL_law 877 = .ok (.istore 7, 2) := by decide +kernel
theorem dL_law_879 : decode cL_law 879 = .ok (.aload_n 2, 1) := by decide +kernel
theorem dL_law_880 : decode cL_law 880 = .ok (.invokevirtual 155, 3) := by decide +kernel
theorem dL_law_883 : decode cL_law 883 = .ok (.iload 6, 2) := by decide +kernel
theorem dL_law_885 : decode cL_law 885 = .ok (.if_icmp .eq 5, 3) := by decide +kernel
theorem dL_law_888 : decode cL_law 888 = .ok (.iconst 0, 1) := by decide +kernel
theorem dL_law_889 : decode cL_law 889 = .ok (.ireturn, 1) := by decide +kernel
theorem dL_law_890 : decode cL_law 890 = .ok (.iload 6, 2) := by decide +kernel
theorem dL_law_892 : decode cL_law 892 = .ok (.ifCond .ne 15, 3) := by decide +kernel
theorem dL_law_895 : decode cL_law 895 = .ok (.aload_n 3, 1) := by decide +kernel
theorem dL_law_896 : decode cL_law 896 = .ok (.iconst 0, 1) := by decide +kernel
theorem dL_law_897 : decode cL_law 897 = .ok (.laload, 1) := by decide +kernel
theorem dL_law_898 : decode cL_law 898 = .ok (.iload 7, 2) := by decide +kernel
theorem dL_law_900 : decode cL_law 900 = .ok (.i2l, 1) := by decide +kernel
theorem dL_law_901 : decode cL_law 901 = .ok (.lcmp, 1) := by decide +kernel
theorem dL_law_902 : decode cL_law 902 = .ok (.ifCond .eq 5, 3) := by decide +kernel
theorem dL_law_905 : decode cL_law 905 = .ok (.iconst 0, 1) := by decide +kernel
theorem dL_law_906 : decode cL_law 906 = .ok (.ireturn, 1) := by decide +kernel
theorem dL_law_907 : decode cL_law 907 = .ok (.goto 2106, 3) := by decide +kernel
theorem dL_law_910 : decode cL_law 910 = .ok (.aload_n 1, 1) := by decide +kernel
theorem dL_law_911 : decode cL_law 911 = .ok (.aload_n 0, 1) := by decide +kernel
theorem dL_law_912 : decode cL_law 912 = .ok (.iload 5, 2) := by decide +kernel
theorem dL_law_914 : decode cL_law 914 = .ok (.iconst 1, 1) := by decide +kernel
theorem dL_law_915 : decode cL_law 915 = .ok (.iadd, 1) := by decide +kernel
theorem dL_law_916 : decode cL_law 916 = .ok (.iaload, 1) := by decide +kernel
theorem dL_law_917 : decode cL_law 917 = .ok (.aload_n 0, 1) := by decide +kernel
theorem dL_law_918 : decode cL_law 918 = .ok (.iload 5, 2) := by decide +kernel
theorem dL_law_920 : decode cL_law 920 = .ok (.iconst 2, 1) := by decide +kernel
theorem dL_law_921 : decode cL_law 921 = .ok (.iadd, 1) := by decide +kernel
theorem dL_law_922 : decode cL_law 922 = .ok (.iaload, 1) := by decide +kernel
theorem dL_law_923 : decode cL_law 923 = .ok (.aload_n 3, 1) := by decide +kernel
theorem dL_law_924 : decode cL_law 924 = .ok (.invokestatic 196, 3) := by decide +kernel
theorem dL_law_927 : decode cL_law 927 = .ok (.istore 6, 2) := by decide +kernel
theorem dL_law_929 : decode cL_law 929 = .ok (.aload_n 2, 1) := by decide +kernel
theorem dL_law_930 : decode cL_law 930 = .ok (.aload_n 0, 1) := by decide +kernel
theorem dL_law_931 : decode cL_law 931 = .ok (.iload 5, 2) := by decide +kernel
theorem dL_law_933 : decode cL_law 933 = .ok (.iconst 1, 1) := by decide +kernel
theorem dL_law_934 : decode cL_law 934 = .ok (.iadd, 1) := by decide +kernel
theorem dL_law_935 : decode cL_law 935 = .ok (.iaload, 1) := by decide +kernel
theorem dL_law_936 : decode cL_law 936 = .ok (.aload_n 0, 1) := by decide +kernel
theorem dL_law_937 : decode cL_law 937 = .ok (.iload 5, 2) := by decide +kernel
theorem dL_law_939 : decode cL_law 939 = .ok (.iconst 2, 1) := by decide +kernel
theorem dL_law_940 : decode cL_law 940 = .ok (.iadd, 1) := by decide +kernel
theorem dL_law_941 : decode cL_law 941 = .ok (.iaload, 1) := by decide +kernel
theorem dL_law_942 : decode cL_law 942 = .ok (.invokevirtual 198, 3) := by decide +kernel
theorem dL_law_945 : decode cL_law 945 = .ok (.istore 7, 2) := by decide +kernel
theorem dL_law_947 : decode cL_law 947 = .ok (.aload_n 2, 1) := by decide +kernel
theorem dL_law_948 : decode cL_law 948 = .ok (.invokevirtual 155, 3) := by decide +kernel
theorem dL_law_951 : decode cL_law 951 = .ok (.iload 6, 2) := by decide +kernel
theorem dL_law_953 : decode cL_law 953 = .ok (.if_icmp .eq 5, 3) := by decide +kernel
theorem dL_law_956 : decode cL_law 956 = .ok (.iconst 0, 1) := by decide +kernel
theorem dL_law_957 : decode cL_law 957 = .ok (.ireturn, 1) := by decide +kernel
theorem dL_law_958 : decode cL_law 958 = .ok (.iload 6, 2) := by decide +kernel
theorem dL_law_960 : decode cL_law 960 = .ok (.ifCond .ne 15, 3) := by decide +kernel
theorem dL_law_963 : decode cL_law 963 = .ok (.aload_n 3, 1) := by decide +kernel
theorem dL_law_964 : decode cL_law 964 = .ok (.iconst 0, 1) := by decide +kernel
theorem dL_law_965 : decode cL_law 965 = .ok (.laload, 1) := by decide +kernel
theorem dL_law_966 : decode cL_law 966 = .ok (.iload 7, 2) := by decide +kernel
theorem dL_law_968 : decode cL_law 968 = .ok (.i2l, 1) := by decide +kernel
theorem dL_law_969 : decode cL_law 969 = .ok (.lcmp, 1) := by decide +kernel
theorem dL_law_970 : decode cL_law 970 = .ok (.ifCond .eq 5, 3) := by decide +kernel
theorem dL_law_973 : decode cL_law 973 = .ok (.iconst 0, 1) := by decide +kernel
theorem dL_law_974 : decode cL_law 974 = .ok (.ireturn, 1) := by decide +kernel
theorem dL_law_975 : decode cL_law 975 = .ok (.goto 2038, 3) := by decide +kernel
theorem dL_law_978 : decode cL_law 978 = .ok (.aload_n 1, 1) := by decide +kernel
theorem dL_law_979 : decode cL_law 979 = .ok (.aload_n 0, 1) := by decide +kernel
theorem dL_law_980 : decode cL_law 980 = .ok (.iload 5, 2) := by decide +kernel
theorem dL_law_982 : decode cL_law 982 = .ok (.iconst 1, 1) := by decide +kernel
theorem dL_law_983 : decode cL_law 983 = .ok (.iadd, 1) := by decide +kernel
theorem dL_law_984 : decode cL_law 984 = .ok (.iaload, 1) := by decide +kernel
theorem dL_law_985 : decode cL_law 985 = .ok (.aload_n 0, 1) := by decide +kernel
theorem dL_law_986 : decode cL_law 986 = .ok (.iload 5, 2) := by decide +kernel
theorem dL_law_988 : decode cL_law 988 = .ok (.iconst 2, 1) := by decide +kernel
theorem dL_law_989 : decode cL_law 989 = .ok (.iadd, 1) := by decide +kernel
theorem dL_law_990 : decode cL_law 990 = .ok (.iaload, 1) := by decide +kernel
theorem dL_law_991 : decode cL_law 991 = .ok (.aload_n 3, 1) := by decide +kernel
theorem dL_law_992 : decode cL_law 992 = .ok (.invokestatic 199, 3) := by decide +kernel
theorem dL_law_995 : decode cL_law 995 = .ok (.istore 6, 2) := by decide +kernel
theorem dL_law_997 : decode cL_law 997 = .ok (.aload_n 2, 1) := by decide +kernel
theorem dL_law_998 : decode cL_law 998 = .ok (.aload_n 0, 1) := by decide +kernel
theorem dL_law_999 : decode cL_law 999 = .ok (.iload 5, 2) := by decide +kernel
theorem dL_law_1001 : decode cL_law 1001 = .ok (.iconst 1, 1) := by decide +kernel
theorem dL_law_1002 : decode cL_law 1002 = .ok (.iadd, 1) := by decide +kernel
theorem dL_law_1003 : decode cL_law 1003 = .ok (.iaload, 1) := by decide +kernel
theorem dL_law_1004 : decode cL_law 1004 = .ok (.aload_n 0, 1) := by decide +kernel
theorem dL_law_1005 : decode cL_law 1005 = .ok (.iload 5, 2) := by decide +kernel
theorem dL_law_1007 : decode cL_law 1007 = .ok (.iconst 2, 1) := by decide +kernel
theorem dL_law_1008 : decode cL_law 1008 = .ok (.iadd, 1) := by decide +kernel
theorem dL_law_1009 : decode cL_law 1009 = .ok (.iaload, 1) := by decide +kernel
theorem dL_law_1010 : decode cL_law 1010 = .ok (.invokevirtual 201, 3) := by decide +kernel
theorem dL_law_1013 : decode cL_law 1013 = .ok (.istore 7, 2) := by decide +kernel
theorem dL_law_1015 : decode cL_law 1015 = .ok (.aload_n 2, 1) := by decide +kernel
theorem dL_law_1016 : decode cL_law 1016 = .ok (.invokevirtual 155, 3) := by decide +kernel
theorem dL_law_1019 : decode cL_law 1019 = .ok (.iload 6, 2) := by decide +kernel
theorem dL_law_1021 : decode cL_law 1021 = .ok (.if_icmp .eq 5, 3) := by decide +kernel
theorem dL_law_1024 : decode cL_law 1024 = .ok (.iconst 0, 1) := by decide +kernel
theorem dL_law_1025 : decode cL_law 1025 = .ok (.ireturn, 1) := by decide +kernel
theorem dL_law_1026 : decode cL_law 1026 = .ok (.iload 6, 2) := by decide +kernel
theorem dL_law_1028 : decode cL_law 1028 = .ok (.ifCond .ne 15, 3) := by decide +kernel
theorem dL_law_1031 : decode cL_law 1031 = .ok (.aload_n 3, 1) := by decide +kernel
theorem dL_law_1032 : decode cL_law 1032 = .ok (.iconst 0, 1) := by decide +kernel
theorem dL_law_1033 : decode cL_law 1033 = .ok (.laload, 1) := by decide +kernel
theorem dL_law_1034 : decode cL_law 1034 = .ok (.iload 7, 2) := by decide +kernel
theorem dL_law_1036 : decode cL_law 1036 = .ok (.i2l, 1) := by decide +kernel
theorem dL_law_1037 : decode cL_law 1037 = .ok (.lcmp, 1) := by decide +kernel
theorem dL_law_1038 : decode cL_law 1038 = .ok (.ifCond .eq 5, 3) := by decide +kernel
theorem dL_law_1041 : decode cL_law 1041 = .ok (.iconst 0, 1) := by decide +kernel
theorem dL_law_1042 : decode cL_law 1042 = .ok (.ireturn, 1) := by decide +kernel
theorem dL_law_1043 : decode cL_law 1043 = .ok (.goto 1970, 3) := by decide +kernel
theorem dL_law_1046 : decode cL_law 1046 = .ok (.aload_n 1, 1) := by decide +kernel
theorem dL_law_1047 : decode cL_law 1047 = .ok (.invokevirtual 202, 3) := by decide +kernel
theorem dL_law_1050 : decode cL_law 1050 = .ok (.aload_n 2, 1) := by decide +kernel
theorem dL_law_1051 : decode cL_law 1051 = .ok (.invokevirtual 205, 3) := by decide +kernel
theorem dL_law_1054 : decode cL_law 1054 = .ok (.if_icmp .eq 1959, 3) := by decide +kernel
theorem dL_law_1057 : decode cL_law 1057 = .ok (.iconst 0, 1) := by decide +kernel
theorem dL_law_1058 : decode cL_law 1058 = .ok (.ireturn, 1) := by decide +kernel
theorem dL_law_1059 : decode cL_law 1059 = .ok (.aload_n 1, 1) := by decide +kernel
theorem dL_law_1060 : decode cL_law 1060 = .ok (.invokevirtual 206, 3) := by decide +kernel
theorem dL_law_1063 : decode cL_law 1063 = .ok (.aload_n 2, 1) := by decide +kernel
theorem dL_law_1064 : decode cL_law 1064 = .ok (.invokevirtual 209, 3) := by decide +kernel
theorem dL_law_1067 : decode cL_law 1067 = .ok (.if_icmp .eq 1946, 3) := by decide +kernel
theorem dL_law_1070 : decode cL_law 1070 = .ok (.iconst 0, 1) := by decide +kernel
theorem dL_law_1071 : decode cL_law 1071 = .ok (.ireturn, 1) := by decide +kernel
theorem dL_law_1072 : decode cL_law 1072 = .ok (.aload_n 1, 1) := by decide +kernel
theorem dL_law_1073 : decode cL_law 1073 = .ok (.invokevirtual 210, 3) := by decide +kernel
theorem dL_law_1076 : decode cL_law 1076 = .ok (.aload_n 2, 1) := by decide +kernel
theorem dL_law_1077 : decode cL_law 1077 = .ok (.invokevirtual 213, 3) := by decide +kernel
theorem dL_law_1080 : decode cL_law 1080 = .ok (.if_icmp .eq 1933, 3) := by decide +kernel
theorem dL_law_1083 : decode cL_law 1083 = .ok (.iconst 0, 1) := by decide +kernel
theorem dL_law_1084 : decode cL_law 1084 = .ok (.ireturn, 1) := by decide +kernel
theorem dL_law_1085 : decode cL_law 1085 = .ok (.aload_n 1, 1) := by decide +kernel
theorem dL_law_1086 : decode cL_law 1086 = .ok (.aload_n 0, 1) := by decide +kernel
theorem dL_law_1087 : decode cL_law 1087 = .ok (.iload 5, 2) := by decide +kernel
theorem dL_law_1089 : decode cL_law 1089 = .ok (.iconst 1, 1) := by decide +kernel
theorem dL_law_1090 : decode cL_law 1090 = .ok (.iadd, 1) := by decide +kernel
theorem dL_law_1091 : decode cL_law 1091 = .ok (.iaload, 1) := by decide +kernel
theorem dL_law_1092 : decode cL_law 1092 = .ok (.aload_n 3, 1) := by decide +kernel
theorem dL_law_1093 : decode cL_law 1093 = .ok (.invokestatic 214, 3) := by decide +kernel
theorem dL_law_1096 : decode cL_law 1096 = .ok (.istore 6, 2) := by decide +kernel
theorem dL_law_1098 : decode cL_law 1098 = .ok (.aload_n 2, 1) := by decide +kernel
theorem dL_law_1099 : decode cL_law 1099 = .ok (.aload_n 0, 1) := by decide +kernel
theorem dL_law_1100 : decode cL_law 1100 = .ok (.iload 5, 2) := by decide +kernel
theorem dL_law_1102 : decode cL_law 1102 = .ok (.iconst 1, 1) := by decide +kernel
theorem dL_law_1103 : decode cL_law 1103 = .ok (.iadd, 1) := by decide +kernel
theorem dL_law_1104 : decode cL_law 1104 = .ok (.iaload, 1) := by decide +kernel
theorem dL_law_1105 : decode cL_law 1105 = .ok (.invokevirtual 216, 3) := by decide +kernel
theorem dL_law_1108 : decode cL_law 1108 = .ok (.istore 7, 2) := by decide +kernel
theorem dL_law_1110 : decode cL_law 1110 = .ok (.aload_n 2, 1) := by decide +kernel
theorem dL_law_1111 : decode cL_law 1111 = .ok (.invokevirtual 155, 3) := by decide +kernel
theorem dL_law_1114 : decode cL_law 1114 = .ok (.iload 6, 2) := by decide +kernel
theorem dL_law_1116 : decode cL_law 1116 = .ok (.if_icmp .eq 5, 3) := by decide +kernel
theorem dL_law_1119 : decode cL_law 1119 = .ok (.iconst 0, 1) := by decide +kernel
theorem dL_law_1120 : decode cL_law 1120 = .ok (.ireturn, 1) := by decide +kernel
theorem dL_law_1121 : decode cL_law 1121 = .ok (.iload 6, 2) := by decide +kernel
theorem dL_law_1123 : decode cL_law 1123 = .ok (.ifCond .ne 15, 3) := by decide +kernel
theorem dL_law_1126 : decode cL_law 1126 = .ok (.aload_n 3, 1) := by decide +kernel
theorem dL_law_1127 : decode cL_law 1127 = .ok (.iconst 0, 1) := by decide +kernel
theorem dL_law_1128 : decode cL_law 1128 = .ok (.laload, 1) := by decide +kernel
theorem dL_law_1129 : decode cL_law 1129 = .ok (.iload 7, 2) := by decide +kernel
theorem dL_law_1131 : decode cL_law 1131 = .ok (.i2l, 1) := by decide +kernel
theorem dL_law_1132 : decode cL_law 1132 = .ok (.lcmp, 1) := by decide +kernel
theorem dL_law_1133 : decode cL_law 1133 = .ok (.ifCond .eq 5, 3) := by decide +kernel
theorem dL_law_1136 : decode cL_law 1136 = .ok (.iconst 0, 1) := by decide +kernel
theorem dL_law_1137 : decode cL_law 1137 = .ok (.ireturn, 1) := by decide +kernel
theorem dL_law_1138 : decode cL_law 1138 = .ok (.goto 1875, 3) := by decide +kernel
theorem dL_law_1141 : decode cL_law 1141 = .ok (.aload_n 1, 1) := by decide +kernel
theorem dL_law_1142 : decode cL_law 1142 = .ok (.aload_n 0, 1) := by decide +kernel
theorem dL_law_1143 : decode cL_law 1143 = .ok (.iload 5, 2) := by decide +kernel
theorem dL_law_1145 : decode cL_law 1145 = .ok (.iconst 1, 1) := by decide +kernel
theorem dL_law_1146 : decode cL_law 1146 = .ok (.iadd, 1) := by decide +kernel
theorem dL_law_1147 : decode cL_law 1147 = .ok (.iaload, 1) := by decide +kernel
theorem dL_law_1148 : decode cL_law 1148 = .ok (.aload_n 0, 1) := by decide +kernel
theorem dL_law_1149 : decode cL_law 1149 = .ok (.iload 5, 2) := by decide +kernel
theorem dL_law_1151 : decode cL_law 1151 = .ok (.iconst 2, 1) := by decide +kernel
theorem dL_law_1152 : decode cL_law 1152 = .ok (.iadd, 1) := by decide +kernel
theorem dL_law_1153 : decode cL_law 1153 = .ok (.iaload, 1) := by decide +kernel
theorem dL_law_1154 : decode cL_law 1154 = .ok (.aload_n 3, 1) := by decide +kernel
theorem dL_law_1155 : decode cL_law 1155 = .ok (.invokestatic 217, 3) := by decide +kernel
theorem dL_law_1158 : decode cL_law 1158 = .ok (.istore 6, 2) := by decide +kernel
theorem dL_law_1160 : decode cL_law 1160 = .ok (.aload_n 2, 1) := by decide +kernel
theorem dL_law_1161 : decode cL_law 1161 = .ok (.aload_n 0, 1) := by decide +kernel
theorem dL_law_1162 : decode cL_law 1162 = .ok (.iload 5, 2) := by decide +kernel
theorem dL_law_1164 : decode cL_law 1164 = .ok (.iconst 1, 1) := by decide +kernel
theorem dL_law_1165 : decode cL_law 1165 = .ok (.iadd, 1) := by decide +kernel
theorem dL_law_1166 : decode cL_law 1166 = .ok (.iaload, 1) := by decide +kernel
theorem dL_law_1167 : decode cL_law 1167 = .ok (.aload_n 0, 1) := by decide +kernel
theorem dL_law_1168 : decode cL_law 1168 = .ok (.iload 5, 2) := by decide +kernel
theorem dL_law_1170 : decode cL_law 1170 = .ok (.iconst 2, 1) := by decide +kernel
theorem dL_law_1171 : decode cL_law 1171 = .ok (.iadd, 1) := by decide +kernel
theorem dL_law_1172 : decode cL_law 1172 = .ok (.iaload, 1) := by decide +kernel
theorem dL_law_1173 : decode cL_law 1173 = .ok (.invokevirtual 219, 3) := by decide +kernel
theorem dL_law_1176 : decode cL_law 1176 = .ok (.istore 7, 2) := by decide +kernel
theorem dL_law_1178 : decode cL_law 1178 = .ok (.aload_n 2, 1) := by decide +kernel
theorem dL_law_1179 : decode cL_law 1179 = .ok (.invokevirtual 155, 3) := by decide +kernel
theorem dL_law_1182 : decode cL_law 1182 = .ok (.iload 6, 2) := by decide +kernel
theorem dL_law_1184 : decode cL_law 1184 = .ok (.if_icmp .eq 5, 3) := by decide +kernel
theorem dL_law_1187 : decode cL_law 1187 = .ok (.iconst 0, 1) := by decide +kernel
theorem dL_law_1188 : decode cL_law 1188 = .ok (.ireturn, 1) := by decide +kernel
theorem dL_law_1189 : decode cL_law 1189 = .ok (.iload 6, 2) := by decide +kernel
theorem dL_law_1191 : decode cL_law 1191 = .ok (.ifCond .ne 15, 3) := by decide +kernel
theorem dL_law_1194 : decode cL_law 1194 = .ok (.aload_n 3, 1) := by decide +kernel
theorem dL_law_1195 : decode cL_law 1195 = .ok (.iconst 0, 1) := by decide +kernel
theorem dL_law_1196 : decode cL_law 1196 = .ok (.laload, 1) := by decide +kernel
theorem dL_law_1197 : decode cL_law 1197 = .ok (.iload 7, 2) := by decide +kernel
theorem dL_law_1199 : decode cL_law 1199 = .ok (.i2l, 1) := by decide +kernel
theorem dL_law_1200 : decode cL_law 1200 = .ok (.lcmp, 1) := by decide +kernel
theorem dL_law_1201 : decode cL_law 1201 = .ok (.ifCond .eq 5, 3) := by decide +kernel
theorem dL_law_1204 : decode cL_law 1204 = .ok (.iconst 0, 1) := by decide +kernel
theorem dL_law_1205 : decode cL_law 1205 = .ok (.ireturn, 1) := by decide +kernel
theorem dL_law_1206 : decode cL_law 1206 = .ok (.goto 1807, 3) := by decide +kernel
theorem dL_law_1209 : decode cL_law 1209 = .ok (.aload_n 1, 1) := by decide +kernel
theorem dL_law_1210 : decode cL_law 1210 = .ok (.aload_n 0, 1) := by decide +kernel
theorem dL_law_1211 : decode cL_law 1211 = .ok (.iload 5, 2) := by decide +kernel
theorem dL_law_1213 : decode cL_law 1213 = .ok (.iconst 1, 1) := by decide +kernel
theorem dL_law_1214 : decode cL_law 1214 = .ok (.iadd, 1) := by decide +kernel
theorem dL_law_1215 : decode cL_law 1215 = .ok (.iaload, 1) := by decide +kernel
theorem dL_law_1216 : decode cL_law 1216 = .ok (.aload_n 0, 1) := by decide +kernel
theorem dL_law_1217 : decode cL_law 1217 = .ok (.iload 5, 2) := by decide +kernel
theorem dL_law_1219 : decode cL_law 1219 = .ok (.iconst 2, 1) := by decide +kernel
theorem dL_law_1220 : decode cL_law 1220 = .ok (.iadd, 1) := by decide +kernel
theorem dL_law_1221 : decode cL_law 1221 = .ok (.iaload, 1) := by decide +kernel
theorem dL_law_1222 : decode cL_law 1222 = .ok (.aload_n 3, 1) := by decide +kernel
theorem dL_law_1223 : decode cL_law 1223 = .ok (.invokestatic 220, 3) := by decide +kernel
theorem dL_law_1226 : decode cL_law 1226 = .ok (.istore 6, 2) := by decide +kernel
theorem dL_law_1228 : decode cL_law 1228 = .ok (.aload_n 2, 1) := by decide +kernel
theorem dL_law_1229 : decode cL_law 1229 = .ok (.aload_n 0, 1) := by decide +kernel
theorem dL_law_1230 : decode cL_law 1230 = .ok (.iload 5, 2) := by decide +kernel
theorem dL_law_1232 : decode cL_law 1232 = .ok (.iconst 1, 1) := by decide +kernel
theorem dL_law_1233 : decode cL_law 1233 = .ok (.iadd, 1) := by decide +kernel
theorem dL_law_1234 : decode cL_law 1234 = .ok (.iaload, 1) := by decide +kernel
theorem dL_law_1235 : decode cL_law 1235 = .ok (.aload_n 0, 1) := by decide +kernel
theorem dL_law_1236 : decode cL_law 1236 = .ok (.iload 5, 2) := by decide +kernel
theorem dL_law_1238 : decode cL_law 1238 = .ok (.iconst 2, 1) := by decide +kernel
theorem dL_law_1239 : decode cL_law 1239 = .ok (.iadd, 1) := by decide +kernel
theorem dL_law_1240 : decode cL_law 1240 = .ok (.iaload, 1) := by decide +kernel
theorem dL_law_1241 : decode cL_law 1241 = .ok (.invokevirtual 222, 3) := by decide +kernel
theorem dL_law_1244 : decode cL_law 1244 = .ok (.istore 7, 2) := by decide +kernel
theorem dL_law_1246 : decode cL_law 1246 = .ok (.aload_n 2, 1) := by decide +kernel
theorem dL_law_1247 : decode cL_law 1247 = .ok (.invokevirtual 155, 3) := by decide +kernel
theorem dL_law_1250 : decode cL_law 1250 = .ok (.iload 6, 2) := by decide +kernel
theorem dL_law_1252 : decode cL_law 1252 = .ok (.if_icmp .eq 5, 3) := by decide +kernel
theorem dL_law_1255 : decode cL_law 1255 = .ok (.iconst 0, 1) := by decide +kernel
theorem dL_law_1256 : decode cL_law 1256 = .ok (.ireturn, 1) := by decide +kernel
theorem dL_law_1257 : decode cL_law 1257 = .ok (.iload 6, 2) := by decide +kernel
theorem dL_law_1259 : decode cL_law 1259 = .ok (.ifCond .ne 22, 3) := by decide +kernel
theorem dL_law_1262 : decode cL_law 1262 = .ok (.aload_n 3, 1) := by decide +kernel
theorem dL_law_1263 : decode cL_law 1263 = .ok (.iconst 0, 1) := by decide +kernel
theorem dL_law_1264 : decode cL_law 1264 = .ok (.laload, 1) := by decide +kernel
theorem dL_law_1265 : decode cL_law 1265 = .ok (.iload 7, 2) := by decide +kernel
theorem dL_law_1267 : decode cL_law 1267 = .ok (.ifCond .eq 7, 3) := by decide +kernel
theorem dL_law_1270 : decode cL_law 1270 = .ok (.lconst 1, 1) := by decide +kernel
theorem dL_law_1271 : decode cL_law 1271 = .ok (.goto 4, 3) := by decide +kernel
theorem dL_law_1274 : decode cL_law 1274 = .ok (.lconst 0, 1) := by decide +kernel
theorem dL_law_1275 : decode cL_law 1275 = .ok (.lcmp, 1) := by decide +kernel
theorem dL_law_1276 : decode cL_law 1276 = .ok (.ifCond .eq 5, 3) := by decide +kernel
theorem dL_law_1279 : decode cL_law 1279 = .ok (.iconst 0, 1) := by decide +kernel
theorem dL_law_1280 : decode cL_law 1280 = .ok (.ireturn, 1) := by decide +kernel
theorem dL_law_1281 : decode cL_law 1281 = .ok (.goto 1732, 3) := by decide +kernel
theorem dL_law_1284 : decode cL_law 1284 = .ok (.aload_n 1, 1) := by decide +kernel
theorem dL_law_1285 : decode cL_law 1285 = .ok (.aload_n 0, 1) := by decide +kernel
theorem dL_law_1286 : decode cL_law 1286 = .ok (.iload 5, 2) := by decide +kernel
theorem dL_law_1288 : decode cL_law 1288 = .ok (.iconst 1, 1) := by decide +kernel
theorem dL_law_1289 : decode cL_law 1289 = .ok (.iadd, 1) := by decide +kernel
theorem dL_law_1290 : decode cL_law 1290 = .ok (.iaload, 1) := by decide +kernel
theorem dL_law_1291 : decode cL_law 1291 = .ok (.aload_n 0, 1) := by decide +kernel
theorem dL_law_1292 : decode cL_law 1292 = .ok (.iload 5, 2) := by decide +kernel
theorem dL_law_1294 : decode cL_law 1294 = .ok (.iconst 2, 1) := by decide +kernel
theorem dL_law_1295 : decode cL_law 1295 = .ok (.iadd, 1) := by decide +kernel
theorem dL_law_1296 : decode cL_law 1296 = .ok (.iaload, 1) := by decide +kernel
theorem dL_law_1297 : decode cL_law 1297 = .ok (.aload_n 3, 1) := by decide +kernel
theorem dL_law_1298 : decode cL_law 1298 = .ok (.invokestatic 223, 3) := by decide +kernel
theorem dL_law_1301 : decode cL_law 1301 = .ok (.istore 6, 2) := by decide +kernel
theorem dL_law_1303 : decode cL_law 1303 = .ok (.aload_n 2, 1) := by decide +kernel
theorem dL_law_1304 : decode cL_law 1304 = .ok (.aload_n 0, 1) := by decide +kernel
theorem dL_law_1305 : decode cL_law 1305 = .ok (.iload 5, 2) := by decide +kernel
theorem dL_law_1307 : decode cL_law 1307 = .ok (.iconst 1, 1) := by decide +kernel
theorem dL_law_1308 : decode cL_law 1308 = .ok (.iadd, 1) := by decide +kernel
theorem dL_law_1309 : decode cL_law 1309 = .ok (.iaload, 1) := by decide +kernel
theorem dL_law_1310 : decode cL_law 1310 = .ok (.aload_n 0, 1) := by decide +kernel
theorem dL_law_1311 : decode cL_law 1311 = .ok (.iload 5, 2) := by decide +kernel
theorem dL_law_1313 : decode cL_law 1313 = .ok (.iconst 2, 1) := by decide +kernel
theorem dL_law_1314 : decode cL_law 1314 = .ok (.iadd, 1) := by decide +kernel
theorem dL_law_1315 : decode cL_law 1315 = .ok (.iaload, 1) := by decide +kernel
theorem dL_law_1316 : decode cL_law 1316 = .ok (.invokevirtual 225, 3) := by decide +kernel
theorem dL_law_1319 : decode cL_law 1319 = .ok (.istore 7, 2) := by decide +kernel
theorem dL_law_1321 : decode cL_law 1321 = .ok (.aload_n 2, 1) := by decide +kernel
theorem dL_law_1322 : decode cL_law 1322 = .ok (.invokevirtual 155, 3) := by decide +kernel
theorem dL_law_1325 : decode cL_law 1325 = .ok (.iload 6, 2) := by decide +kernel
theorem dL_law_1327 : decode cL_law 1327 = .ok (.if_icmp .eq 5, 3) := by decide +kernel
theorem dL_law_1330 : decode cL_law 1330 = .ok (.iconst 0, 1) := by decide +kernel
theorem dL_law_1331 : decode cL_law 1331 = .ok (.ireturn, 1) := by decide +kernel
theorem dL_law_1332 : decode cL_law 1332 = .ok (.iload 6, 2) := by decide +kernel
theorem dL_law_1334 : decode cL_law 1334 = .ok (.ifCond .ne 22, 3) := by decide +kernel
theorem dL_law_1337 : decode cL_law 1337 = .ok (.aload_n 3, 1) := by decide +kernel
theorem dL_law_1338 : decode cL_law 1338 = .ok (.iconst 0, 1) := by decide +kernel
theorem dL_law_1339 : decode cL_law 1339 = .ok (.laload, 1) := by decide +kernel
theorem dL_law_1340 : decode cL_law 1340 = .ok (.iload 7, 2) := by decide +kernel
theorem dL_law_1342 : decode cL_law 1342 = .ok (.ifCond .eq 7, 3) := by decide +kernel
theorem dL_law_1345 : decode cL_law 1345 = .ok (.lconst 1, 1) := by decide +kernel
theorem dL_law_1346 : decode cL_law 1346 = .ok (.goto 4, 3) := by decide +kernel
theorem dL_law_1349 : decode cL_law 1349 = .ok (.lconst 0, 1) := by decide +kernel
theorem dL_law_1350 : decode cL_law 1350 = .ok (.lcmp, 1) := by decide +kernel
theorem dL_law_1351 : decode cL_law 1351 = .ok (.ifCond .eq 5, 3) := by decide +kernel
theorem dL_law_1354 : decode cL_law 1354 = .ok (.iconst 0, 1) := by decide +kernel
theorem dL_law_1355 : decode cL_law 1355 = .ok (.ireturn, 1) := by decide +kernel
theorem dL_law_1356 : decode cL_law 1356 = .ok (.goto 1657, 3) := by decide +kernel
theorem dL_law_1359 : decode cL_law 1359 = .ok (.aload_n 1, 1) := by decide +kernel
theorem dL_law_1360 : decode cL_law 1360 = .ok (.aload_n 0, 1) := by decide +kernel
theorem dL_law_1361 : decode cL_law 1361 = .ok (.iload 5, 2) := by decide +kernel
theorem dL_law_1363 : decode cL_law 1363 = .ok (.iconst 1, 1) := by decide +kernel
theorem dL_law_1364 : decode cL_law 1364 = .ok (.iadd, 1) := by decide +kernel
theorem dL_law_1365 : decode cL_law 1365 = .ok (.iaload, 1) := by decide +kernel
theorem dL_law_1366 : decode cL_law 1366 = .ok (.aload_n 3, 1) := by decide +kernel
theorem dL_law_1367 : decode cL_law 1367 = .ok (.invokestatic 226, 3) := by decide +kernel
theorem dL_law_1370 : decode cL_law 1370 = .ok (.istore 6, 2) := by decide +kernel
theorem dL_law_1372 : decode cL_law 1372 = .ok (.aload_n 2, 1) := by decide +kernel
theorem dL_law_1373 : decode cL_law 1373 = .ok (.aload_n 0, 1) := by decide +kernel
theorem dL_law_1374 : decode cL_law 1374 = .ok (.iload 5, 2) := by decide +kernel
theorem dL_law_1376 : decode cL_law 1376 = .ok (.iconst 1, 1) := by decide +kernel
theorem dL_law_1377 : decode cL_law 1377 = .ok (.iadd, 1) := by decide +kernel
theorem dL_law_1378 : decode cL_law 1378 = .ok (.iaload, 1) := by decide +kernel
theorem dL_law_1379 : decode cL_law 1379 = .ok (.invokevirtual 228, 3) := by decide +kernel
theorem dL_law_1382 : decode cL_law 1382 = .ok (.istore 7, 2) := by decide +kernel
theorem dL_law_1384 : decode cL_law 1384 = .ok (.aload_n 2, 1) := by decide +kernel
theorem dL_law_1385 : decode cL_law 1385 = .ok (.invokevirtual 155, 3) := by decide +kernel
theorem dL_law_1388 : decode cL_law 1388 = .ok (.iload 6, 2) := by decide +kernel
theorem dL_law_1390 : decode cL_law 1390 = .ok (.if_icmp .eq 5, 3) := by decide +kernel
theorem dL_law_1393 : decode cL_law 1393 = .ok (.iconst 0, 1) := by decide +kernel
theorem dL_law_1394 : decode cL_law 1394 = .ok (.ireturn, 1) := by decide +kernel
theorem dL_law_1395 : decode cL_law 1395 = .ok (.iload 6, 2) := by decide +kernel
theorem dL_law_1397 : decode cL_law 1397 = .ok (.ifCond .ne 15, 3) := by decide +kernel
theorem dL_law_1400 : decode cL_law 1400 = .ok (.aload_n 3, 1) := by decide +kernel
theorem dL_law_1401 : decode cL_law 1401 = .ok (.iconst 0, 1) := by decide +kernel
theorem dL_law_1402 : decode cL_law 1402 = .ok (.laload, 1) := by decide +kernel
theorem dL_law_1403 : decode cL_law 1403 = .ok (.iload 7, 2) := by decide +kernel
theorem dL_law_1405 : decode cL_law 1405 = .ok (.i2l, 1) := by decide +kernel
theorem dL_law_1406 : decode cL_law 1406 = .ok (.lcmp, 1) := by decide +kernel
theorem dL_law_1407 : decode cL_law 1407 = .ok (.ifCond .eq 5, 3) := by decide +kernel
theorem dL_law_1410 : decode cL_law 1410 = .ok (.iconst 0, 1) := by decide +kernel
theorem dL_law_1411 : decode cL_law 1411 = .ok (.ireturn, 1) := by decide +kernel
theorem dL_law_1412 : decode cL_law 1412 = .ok (.goto 1601, 3) := by decide +kernel
theorem dL_law_1415 : decode cL_law 1415 = .ok (.aload_n 1, 1) := by decide +kernel
theorem dL_law_1416 : decode cL_law 1416 = .ok (.aload_n 0, 1) := by decide +kernel
theorem dL_law_1417 : decode cL_law 1417 = .ok (.iload 5, 2) := by decide +kernel
theorem dL_law_1419 : decode cL_law 1419 = .ok (.iconst 1, 1) := by decide +kernel
theorem dL_law_1420 : decode cL_law 1420 = .ok (.iadd, 1) := by decide +kernel
theorem dL_law_1421 : decode cL_law 1421 = .ok (.iaload, 1) := by decide +kernel
theorem dL_law_1422 : decode cL_law 1422 = .ok (.aload_n 3, 1) := by decide +kernel
theorem dL_law_1423 : decode cL_law 1423 = .ok (.invokestatic 229, 3) := by decide +kernel
theorem dL_law_1426 : decode cL_law 1426 = .ok (.istore 6, 2) := by decide +kernel
theorem dL_law_1428 : decode cL_law 1428 = .ok (.aload_n 2, 1) := by decide +kernel
theorem dL_law_1429 : decode cL_law 1429 = .ok (.aload_n 0, 1) := by decide +kernel
theorem dL_law_1430 : decode cL_law 1430 = .ok (.iload 5, 2) := by decide +kernel
theorem dL_law_1432 : decode cL_law 1432 = .ok (.iconst 1, 1) := by decide +kernel
theorem dL_law_1433 : decode cL_law 1433 = .ok (.iadd, 1) := by decide +kernel
theorem dL_law_1434 : decode cL_law 1434 = .ok (.iaload, 1) := by decide +kernel
theorem dL_law_1435 : decode cL_law 1435 = .ok (.invokevirtual 231, 3) := by decide +kernel
theorem dL_law_1438 : decode cL_law 1438 = .ok (.istore 7, 2) := by decide +kernel
theorem dL_law_1440 : decode cL_law 1440 = .ok (.aload_n 2, 1) := by decide +kernel
theorem dL_law_1441 : decode cL_law 1441 = .ok (.invokevirtual 155, 3) := by decide +kernel
theorem dL_law_1444 : decode cL_law 1444 = .ok (.iload 6, 2) := by decide +kernel
theorem dL_law_1446 : decode cL_law 1446 = .ok (.if_icmp .eq 5, 3) := by decide +kernel
theorem dL_law_1449 : decode cL_law 1449 = .ok (.iconst 0, 1) := by decide +kernel
theorem dL_law_1450 : decode cL_law 1450 = .ok (.ireturn, 1) := by decide +kernel
theorem dL_law_1451 : decode cL_law 1451 = .ok (.iload 6, 2) := by decide +kernel
theorem dL_law_1453 : decode cL_law 1453 = .ok (.ifCond .ne 15, 3) := by decide +kernel
theorem dL_law_1456 : decode cL_law 1456 = .ok (.aload_n 3, 1) := by decide +kernel
theorem dL_law_1457 : decode cL_law 1457 = .ok (.iconst 0, 1) := by decide +kernel
theorem dL_law_1458 : decode cL_law 1458 = .ok (.laload, 1) := by decide +kernel
theorem dL_law_1459 : decode cL_law 1459 = .ok (.iload 7, 2) := by decide +kernel
theorem dL_law_1461 : decode cL_law 1461 = .ok (.i2l, 1) := by decide +kernel
theorem dL_law_1462 : decode cL_law 1462 = .ok (.lcmp, 1) := by decide +kernel
theorem dL_law_1463 : decode cL_law 1463 = .ok (.ifCond .eq 5, 3) := by decide +kernel
theorem dL_law_1466 : decode cL_law 1466 = .ok (.iconst 0, 1) := by decide +kernel
theorem dL_law_1467 : decode cL_law 1467 = .ok (.ireturn, 1) := by decide +kernel
theorem dL_law_1468 : decode cL_law 1468 = .ok (.goto 1545, 3) := by decide +kernel
theorem dL_law_1471 : decode cL_law 1471 = .ok (.aload_n 1, 1) := by decide +kernel
theorem dL_law_1472 : decode cL_law 1472 = .ok (.aload_n 0, 1) := by decide +kernel
theorem dL_law_1473 : decode cL_law 1473 = .ok (.iload 5, 2) := by decide +kernel
theorem dL_law_1475 : decode cL_law 1475 = .ok (.iconst 1, 1) := by decide +kernel
theorem dL_law_1476 : decode cL_law 1476 = .ok (.iadd, 1) := by decide +kernel
theorem dL_law_1477 : decode cL_law 1477 = .ok (.iaload, 1) := by decide +kernel
theorem dL_law_1478 : decode cL_law 1478 = .ok (.aload_n 0, 1) := by decide +kernel
theorem dL_law_1479 : decode cL_law 1479 = .ok (.iload 5, 2) := by decide +kernel
theorem dL_law_1481 : decode cL_law 1481 = .ok (.iconst 2, 1) := by decide +kernel
theorem dL_law_1482 : decode cL_law 1482 = .ok (.iadd, 1) := by decide +kernel
theorem dL_law_1483 : decode cL_law 1483 = .ok (.iaload, 1) := by decide +kernel
theorem dL_law_1484 : decode cL_law 1484 = .ok (.aload_n 3, 1) := by decide +kernel
theorem dL_law_1485 : decode cL_law 1485 = .ok (.invokestatic 232, 3) := by decide +kernel
theorem dL_law_1488 : decode cL_law 1488 = .ok (.istore 6, 2) := by decide +kernel
theorem dL_law_1490 : decode cL_law 1490 = .ok (.aload_n 2, 1) := by decide +kernel
theorem dL_law_1491 : decode cL_law 1491 = .ok (.aload_n 0, 1) := by decide +kernel
theorem dL_law_1492 : decode cL_law 1492 = .ok (.iload 5, 2) := by decide +kernel
theorem dL_law_1494 : decode cL_law 1494 = .ok (.iconst 1, 1) := by decide +kernel
theorem dL_law_1495 : decode cL_law 1495 = .ok (.iadd, 1) := by decide +kernel
theorem dL_law_1496 : decode cL_law 1496 = .ok (.iaload, 1) := by decide +kernel
theorem dL_law_1497 : decode cL_law 1497 = .ok (.aload_n 0, 1) := by decide +kernel
theorem dL_law_1498 : decode cL_law 1498 = .ok (.iload 5, 2) := by decide +kernel
theorem dL_law_1500 : decode cL_law 1500 = .ok (.iconst 2, 1) := by decide +kernel
theorem dL_law_1501 : decode cL_law 1501 = .ok (.iadd, 1) := by decide +kernel
theorem dL_law_1502 : decode cL_law 1502 = .ok (.iaload, 1) := by decide +kernel
theorem dL_law_1503 : decode cL_law 1503 = .ok (.invokevirtual 234, 3) := by decide +kernel
theorem dL_law_1506 : decode cL_law 1506 = .ok (.istore 7, 2) := by decide +kernel
theorem dL_law_1508 : decode cL_law 1508 = .ok (.aload_n 2, 1) := by decide +kernel
theorem dL_law_1509 : decode cL_law 1509 = .ok (.invokevirtual 155, 3) := by decide +kernel
theorem dL_law_1512 : decode cL_law 1512 = .ok (.iload 6, 2) := by decide +kernel
theorem dL_law_1514 : decode cL_law 1514 = .ok (.if_icmp .eq 5, 3) := by decide +kernel
theorem dL_law_1517 : decode cL_law 1517 = .ok (.iconst 0, 1) := by decide +kernel
theorem dL_law_1518 : decode cL_law 1518 = .ok (.ireturn, 1) := by decide +kernel
theorem dL_law_1519 : decode cL_law 1519 = .ok (.iload 6, 2) := by decide +kernel
theorem dL_law_1521 : decode cL_law 1521 = .ok (.ifCond .ne 15, 3) := by decide +kernel
theorem dL_law_1524 : decode cL_law 1524 = .ok (.aload_n 3, 1) := by decide +kernel
theorem dL_law_1525 : decode cL_law 1525 = .ok (.iconst 0, 1) := by decide +kernel
theorem dL_law_1526 : decode cL_law 1526 = .ok (.laload, 1) := by decide +kernel
theorem dL_law_1527 : decode cL_law 1527 = .ok (.iload 7, 2) := by decide +kernel
theorem dL_law_1529 : decode cL_law 1529 = .ok (.i2l, 1) := by decide +kernel
theorem dL_law_1530 : decode cL_law 1530 = .ok (.lcmp, 1) := by decide +kernel
theorem dL_law_1531 : decode cL_law 1531 = .ok (.ifCond .eq 5, 3) := by decide +kernel
theorem dL_law_1534 : decode cL_law 1534 = .ok (.iconst 0, 1) := by decide +kernel
theorem dL_law_1535 : decode cL_law 1535 = .ok (.ireturn, 1) := by decide +kernel
theorem dL_law_1536 : decode cL_law 1536 = .ok (.goto 1477, 3) := by decide +kernel
theorem dL_law_1539 : decode cL_law 1539 = .ok (.aload_n 1, 1) := by decide +kernel
theorem dL_law_1540 : decode cL_law 1540 = .ok (.aload_n 0, 1) := by decide +kernel
theorem dL_law_1541 : decode cL_law 1541 = .ok (.iload 5, 2) := by decide +kernel
theorem dL_law_1543 : decode cL_law 1543 = .ok (.iconst 1, 1) := by decide +kernel
theorem dL_law_1544 : decode cL_law 1544 = .ok (.iadd, 1) := by decide +kernel
theorem dL_law_1545 : decode cL_law 1545 = .ok (.iaload, 1) := by decide +kernel
theorem dL_law_1546 : decode cL_law 1546 = .ok (.aload_n 0, 1) := by decide +kernel
theorem dL_law_1547 : decode cL_law 1547 = .ok (.iload 5, 2) := by decide +kernel
theorem dL_law_1549 : decode cL_law 1549 = .ok (.iconst 2, 1) := by decide +kernel
theorem dL_law_1550 : decode cL_law 1550 = .ok (.iadd, 1) := by decide +kernel
theorem dL_law_1551 : decode cL_law 1551 = .ok (.iaload, 1) := by decide +kernel
theorem dL_law_1552 : decode cL_law 1552 = .ok (.aload_n 0, 1) := by decide +kernel
theorem dL_law_1553 : decode cL_law 1553 = .ok (.iload 5, 2) := by decide +kernel
theorem dL_law_1555 : decode cL_law 1555 = .ok (.iconst 3, 1) := by decide +kernel
theorem dL_law_1556 : decode cL_law 1556 = .ok (.iadd, 1) := by decide +kernel
theorem dL_law_1557 : decode cL_law 1557 = .ok (.iaload, 1) := by decide +kernel
theorem dL_law_1558 : decode cL_law 1558 = .ok (.aload_n 3, 1) := by decide +kernel
theorem dL_law_1559 : decode cL_law 1559 = .ok (.invokestatic 235, 3) := by decide +kernel
theorem dL_law_1562 : decode cL_law 1562 = .ok (.istore 6, 2) := by decide +kernel
theorem dL_law_1564 : decode cL_law 1564 = .ok (.aload_n 2, 1) := by decide +kernel
theorem dL_law_1565 : decode cL_law 1565 = .ok (.aload_n 0, 1) := by decide +kernel
theorem dL_law_1566 : decode cL_law 1566 = .ok (.iload 5, 2) := by decide +kernel
theorem dL_law_1568 : decode cL_law 1568 = .ok (.iconst 1, 1) := by decide +kernel
theorem dL_law_1569 : decode cL_law 1569 = .ok (.iadd, 1) := by decide +kernel
theorem dL_law_1570 : decode cL_law 1570 = .ok (.iaload, 1) := by decide +kernel
theorem dL_law_1571 : decode cL_law 1571 = .ok (.aload_n 0, 1) := by decide +kernel
theorem dL_law_1572 : decode cL_law 1572 = .ok (.iload 5, 2) := by decide +kernel
theorem dL_law_1574 : decode cL_law 1574 = .ok (.iconst 2, 1) := by decide +kernel
theorem dL_law_1575 : decode cL_law 1575 = .ok (.iadd, 1) := by decide +kernel
theorem dL_law_1576 : decode cL_law 1576 = .ok (.iaload, 1) := by decide +kernel
theorem dL_law_1577 : decode cL_law 1577 = .ok (.aload_n 0, 1) := by decide +kernel
theorem dL_law_1578 : decode cL_law 1578 = .ok (.iload 5, 2) := by decide +kernel
theorem dL_law_1580 : decode cL_law 1580 = .ok (.iconst 3, 1) := by decide +kernel
theorem dL_law_1581 : decode cL_law 1581 = .ok (.iadd, 1) := by decide +kernel
theorem dL_law_1582 : decode cL_law 1582 = .ok (.iaload, 1) := by decide +kernel
theorem dL_law_1583 : decode cL_law 1583 = .ok (.invokevirtual 237, 3) := by decide +kernel
theorem dL_law_1586 : decode cL_law 1586 = .ok (.istore 7, 2) := by decide +kernel
theorem dL_law_1588 : decode cL_law 1588 = .ok (.aload_n 2, 1) := by decide +kernel
theorem dL_law_1589 : decode cL_law 1589 = .ok (.invokevirtual 155, 3) := by decide +kernel
theorem dL_law_1592 : decode cL_law 1592 = .ok (.iload 6, 2) := by decide +kernel
theorem dL_law_1594 : decode cL_law 1594 = .ok (.if_icmp .eq 5, 3) := by decide +kernel
theorem dL_law_1597 : decode cL_law 1597 = .ok (.iconst 0, 1) := by decide +kernel
theorem dL_law_1598 : decode cL_law 1598 = .ok (.ireturn, 1) := by decide +kernel
theorem dL_law_1599 : decode cL_law 1599 = .ok (.iload 6, 2) := by decide +kernel
theorem dL_law_1601 : decode cL_law 1601 = .ok (.ifCond .ne 15, 3) := by decide +kernel
theorem dL_law_1604 : decode cL_law 1604 = .ok (.aload_n 3, 1) := by decide +kernel
theorem dL_law_1605 : decode cL_law 1605 = .ok (.iconst 0, 1) := by decide +kernel
theorem dL_law_1606 : decode cL_law 1606 = .ok (.laload, 1) := by decide +kernel
theorem dL_law_1607 : decode cL_law 1607 = .ok (.iload 7, 2) := by decide +kernel
theorem dL_law_1609 : decode cL_law 1609 = .ok (.i2l, 1) := by decide +kernel
theorem dL_law_1610 : decode cL_law 1610 = .ok (.lcmp, 1) := by decide +kernel
theorem dL_law_1611 : decode cL_law 1611 = .ok (.ifCond .eq 5, 3) := by decide +kernel
theorem dL_law_1614 : decode cL_law 1614 = .ok (.iconst 0, 1) := by decide +kernel
theorem dL_law_1615 : decode cL_law 1615 = .ok (.ireturn, 1) := by decide +kernel
theorem dL_law_1616 : decode cL_law 1616 = .ok (.goto 1397, 3) := by decide +kernel
theorem dL_law_1619 : decode cL_law 1619 = .ok (.aload_n 1, 1) := by decide +kernel
theorem dL_law_1620 : decode cL_law 1620 = .ok (.aload_n 0, 1) := by decide +kernel
theorem dL_law_1621 : decode cL_law 1621 = .ok (.iload 5, 2) := by decide +kernel
theorem dL_law_1623 : decode cL_law 1623 = .ok (.iconst 1, 1) := by decide +kernel
theorem dL_law_1624 : decode cL_law 1624 = .ok (.iadd, 1) := by decide +kernel
theorem dL_law_1625 : decode cL_law 1625 = .ok (.iaload, 1) := by decide +kernel
theorem dL_law_1626 : decode cL_law 1626 = .ok (.aload_n 0, 1) := by decide +kernel
theorem dL_law_1627 : decode cL_law 1627 = .ok (.iload 5, 2) := by decide +kernel
theorem dL_law_1629 : decode cL_law 1629 = .ok (.iconst 2, 1) := by decide +kernel
theorem dL_law_1630 : decode cL_law 1630 = .ok (.iadd, 1) := by decide +kernel
theorem dL_law_1631 : decode cL_law 1631 = .ok (.iaload, 1) := by decide +kernel
theorem dL_law_1632 : decode cL_law 1632 = .ok (.aload_n 3, 1) := by decide +kernel
theorem dL_law_1633 : decode cL_law 1633 = .ok (.invokestatic 238, 3) := by decide +kernel
theorem dL_law_1636 : decode cL_law 1636 = .ok (.istore 6, 2) := by decide +kernel
theorem dL_law_1638 : decode cL_law 1638 = .ok (.aload_n 2, 1) := by decide +kernel
theorem dL_law_1639 : decode cL_law 1639 = .ok (.aload_n 0, 1) := by decide +kernel
theorem dL_law_1640 : decode cL_law 1640 = .ok (.iload 5, 2) := by decide +kernel
theorem dL_law_1642 : decode cL_law 1642 = .ok (.iconst 1, 1) := by decide +kernel
theorem dL_law_1643 : decode cL_law 1643 = .ok (.iadd, 1) := by decide +kernel
theorem dL_law_1644 : decode cL_law 1644 = .ok (.iaload, 1) := by decide +kernel
theorem dL_law_1645 : decode cL_law 1645 = .ok (.aload_n 0, 1) := by decide +kernel
theorem dL_law_1646 : decode cL_law 1646 = .ok (.iload 5, 2) := by decide +kernel
theorem dL_law_1648 : decode cL_law 1648 = .ok (.iconst 2, 1) := by decide +kernel
theorem dL_law_1649 : decode cL_law 1649 = .ok (.iadd, 1) := by decide +kernel
theorem dL_law_1650 : decode cL_law 1650 = .ok (.iaload, 1) := by decide +kernel
theorem dL_law_1651 : decode cL_law 1651 = .ok (.invokevirtual 240, 3) := by decide +kernel
theorem dL_law_1654 : decode cL_law 1654 = .ok (.istore 7, 2) := by decide +kernel
theorem dL_law_1656 : decode cL_law 1656 = .ok (.aload_n 2, 1) := by decide +kernel
theorem dL_law_1657 : decode cL_law 1657 = .ok (.invokevirtual 155, 3) := by decide +kernel
theorem dL_law_1660 : decode cL_law 1660 = .ok (.iload 6, 2) := by decide +kernel
theorem dL_law_1662 : decode cL_law 1662 = .ok (.if_icmp .eq 5, 3) := by decide +kernel
theorem dL_law_1665 : decode cL_law 1665 = .ok (.iconst 0, 1) := by decide +kernel
theorem dL_law_1666 : decode cL_law 1666 = .ok (.ireturn, 1) := by decide +kernel
theorem dL_law_1667 : decode cL_law 1667 = .ok (.iload 6, 2) := by decide +kernel
theorem dL_law_1669 : decode cL_law 1669 = .ok (.ifCond .ne 15, 3) := by decide +kernel
theorem dL_law_1672 : decode cL_law 1672 = .ok (.aload_n 3, 1) := by decide +kernel
theorem dL_law_1673 : decode cL_law 1673 = .ok (.iconst 0, 1) := by decide +kernel
theorem dL_law_1674 : decode cL_law 1674 = .ok (.laload, 1) := by decide +kernel
theorem dL_law_1675 : decode cL_law 1675 = .ok (.iload 7, 2) := by decide +kernel
theorem dL_law_1677 : decode cL_law 1677 = .ok (.i2l, 1) := by decide +kernel
theorem dL_law_1678 : decode cL_law 1678 = .ok (.lcmp, 1) := by decide +kernel
theorem dL_law_1679 : decode cL_law 1679 = .ok (.ifCond .eq 5, 3) := by decide +kernel
theorem dL_law_1682 : decode cL_law 1682 = .ok (.iconst 0, 1) := by decide +kernel
theorem dL_law_1683 : decode cL_law 1683 = .ok (.ireturn, 1) := by decide +kernel
theorem dL_law_1684 : decode cL_law 1684 = .ok (.goto 1329, 3) := by decide +kernel
theorem dL_law_1687 : decode cL_law 1687 = .ok (.aload_n 1, 1) := by decide +kernel
theorem dL_law_1688 : decode cL_law 1688 = .ok (.aload_n 0, 1) := by decide +kernel
theorem dL_law_1689 : decode cL_law 1689 = .ok (.iload 5, 2) := by decide +kernel
theorem dL_law_1691 : decode cL_law 1691 = .ok (.iconst 1, 1) := by decide +kernel
theorem dL_law_1692 : decode cL_law 1692 = .ok (.iadd, 1) := by decide +kernel
theorem dL_law_1693 : decode cL_law 1693 = .ok (.iaload, 1) := by decide +kernel
theorem dL_law_1694 : decode cL_law 1694 = .ok (.aload_n 0, 1) := by decide +kernel
theorem dL_law_1695 : decode cL_law 1695 = .ok (.iload 5, 2) := by decide +kernel
theorem dL_law_1697 : decode cL_law 1697 = .ok (.iconst 2, 1) := by decide +kernel
theorem dL_law_1698 : decode cL_law 1698 = .ok (.iadd, 1) := by decide +kernel
theorem dL_law_1699 : decode cL_law 1699 = .ok (.iaload, 1) := by decide +kernel
theorem dL_law_1700 : decode cL_law 1700 = .ok (.aload_n 3, 1) := by decide +kernel
theorem dL_law_1701 : decode cL_law 1701 = .ok (.invokestatic 241, 3) := by decide +kernel
theorem dL_law_1704 : decode cL_law 1704 = .ok (.istore 6, 2) := by decide +kernel
theorem dL_law_1706 : decode cL_law 1706 = .ok (.aload_n 2, 1) := by decide +kernel
theorem dL_law_1707 : decode cL_law 1707 = .ok (.aload_n 0, 1) := by decide +kernel
theorem dL_law_1708 : decode cL_law 1708 = .ok (.iload 5, 2) := by decide +kernel
theorem dL_law_1710 : decode cL_law 1710 = .ok (.iconst 1, 1) := by decide +kernel
theorem dL_law_1711 : decode cL_law 1711 = .ok (.iadd, 1) := by decide +kernel
theorem dL_law_1712 : decode cL_law 1712 = .ok (.iaload, 1) := by decide +kernel
theorem dL_law_1713 : decode cL_law 1713 = .ok (.aload_n 0, 1) := by decide +kernel
theorem dL_law_1714 : decode cL_law 1714 = .ok (.iload 5, 2) := by decide +kernel
theorem dL_law_1716 : decode cL_law 1716 = .ok (.iconst 2, 1) := by decide +kernel
theorem dL_law_1717 : decode cL_law 1717 = .ok (.iadd, 1) := by decide +kernel
theorem dL_law_1718 : decode cL_law 1718 = .ok (.iaload, 1) := by decide +kernel
theorem dL_law_1719 : decode cL_law 1719 = .ok (.invokevirtual 243, 3) := by decide +kernel
theorem dL_law_1722 : decode cL_law 1722 = .ok (.istore 7, 2) := by decide +kernel
theorem dL_law_1724 : decode cL_law 1724 = .ok (.aload_n 2, 1) := by decide +kernel
theorem dL_law_1725 : decode cL_law 1725 = .ok (.invokevirtual 155, 3) := by decide +kernel
theorem dL_law_1728 : decode cL_law 1728 = .ok (.iload 6, 2) := by decide +kernel
theorem dL_law_1730 : decode cL_law 1730 = .ok (.if_icmp .eq 5, 3) := by decide +kernel
theorem dL_law_1733 : decode cL_law 1733 = .ok (.iconst 0, 1) := by decide +kernel
theorem dL_law_1734 : decode cL_law 1734 = .ok (.ireturn, 1) := by decide +kernel
theorem dL_law_1735 : decode cL_law 1735 = .ok (.iload 6, 2) := by decide +kernel
theorem dL_law_1737 : decode cL_law 1737 = .ok (.ifCond .ne 15, 3) := by decide +kernel
theorem dL_law_1740 : decode cL_law 1740 = .ok (.aload_n 3, 1) := by decide +kernel
theorem dL_law_1741 : decode cL_law 1741 = .ok (.iconst 0, 1) := by decide +kernel
theorem dL_law_1742 : decode cL_law 1742 = .ok (.laload, 1) := by decide +kernel
theorem dL_law_1743 : decode cL_law 1743 = .ok (.iload 7, 2) := by decide +kernel
theorem dL_law_1745 : decode cL_law 1745 = .ok (.i2l, 1) := by decide +kernel
theorem dL_law_1746 : decode cL_law 1746 = .ok (.lcmp, 1) := by decide +kernel
theorem dL_law_1747 : decode cL_law 1747 = .ok (.ifCond .eq 5, 3) := by decide +kernel
theorem dL_law_1750 : decode cL_law 1750 = .ok (.iconst 0, 1) := by decide +kernel
theorem dL_law_1751 : decode cL_law 1751 = .ok (.ireturn, 1) := by decide +kernel
theorem dL_law_1752 : decode cL_law 1752 = .ok (.goto 1261, 3) := by decide +kernel
theorem dL_law_1755 : decode cL_law 1755 = .ok (.aload_n 1, 1) := by decide +kernel
theorem dL_law_1756 : decode cL_law 1756 = .ok (.aload_n 0, 1) := by decide +kernel
theorem dL_law_1757 : decode cL_law 1757 = .ok (.iload 5, 2) := by decide +kernel
theorem dL_law_1759 : decode cL_law 1759 = .ok (.iconst 1, 1) := by decide +kernel
theorem dL_law_1760 : decode cL_law 1760 = .ok (.iadd, 1) := by decide +kernel
theorem dL_law_1761 : decode cL_law 1761 = .ok (.iaload, 1) := by decide +kernel
theorem dL_law_1762 : decode cL_law 1762 = .ok (.aload_n 0, 1) := by decide +kernel
theorem dL_law_1763 : decode cL_law 1763 = .ok (.iload 5, 2) := by decide +kernel
theorem dL_law_1765 : decode cL_law 1765 = .ok (.iconst 2, 1) := by decide +kernel
theorem dL_law_1766 : decode cL_law 1766 = .ok (.iadd, 1) := by decide +kernel
theorem dL_law_1767 : decode cL_law 1767 = .ok (.iaload, 1) := by decide +kernel
theorem dL_law_1768 : decode cL_law 1768 = .ok (.aload_n 3, 1) := by decide +kernel
theorem dL_law_1769 : decode cL_law 1769 = .ok (.invokestatic 244, 3) := by decide +kernel
theorem dL_law_1772 : decode cL_law 1772 = .ok (.istore 6, 2) := by decide +kernel
theorem dL_law_1774 : decode cL_law 1774 = .ok (.aload_n 2, 1) := by decide +kernel
theorem dL_law_1775 : decode cL_law 1775 = .ok (.aload_n 0, 1) := by decide +kernel
theorem dL_law_1776 : decode cL_law 1776 = .ok (.iload 5, 2) := by decide +kernel
theorem dL_law_1778 : decode cL_law 1778 = .ok (.iconst 1, 1) := by decide +kernel
theorem dL_law_1779 : decode cL_law 1779 = .ok (.iadd, 1) := by decide +kernel
theorem dL_law_1780 : decode cL_law 1780 = .ok (.iaload, 1) := by decide +kernel
theorem dL_law_1781 : decode cL_law 1781 = .ok (.aload_n 0, 1) := by decide +kernel
theorem dL_law_1782 : decode cL_law 1782 = .ok (.iload 5, 2) := by decide +kernel
theorem dL_law_1784 : decode cL_law 1784 = .ok (.iconst 2, 1) := by decide +kernel
theorem dL_law_1785 : decode cL_law 1785 = .ok (.iadd, 1) := by decide +kernel
theorem dL_law_1786 : decode cL_law 1786 = .ok (.iaload, 1) := by decide +kernel
theorem dL_law_1787 : decode cL_law 1787 = .ok (.invokevirtual 246, 3) := by decide +kernel
theorem dL_law_1790 : decode cL_law 1790 = .ok (.istore 7, 2) := by decide +kernel
theorem dL_law_1792 : decode cL_law 1792 = .ok (.aload_n 2, 1) := by decide +kernel
theorem dL_law_1793 : decode cL_law 1793 = .ok (.invokevirtual 155, 3) := by decide +kernel
theorem dL_law_1796 : decode cL_law 1796 = .ok (.iload 6, 2) := by decide +kernel
theorem dL_law_1798 : decode cL_law 1798 = .ok (.if_icmp .eq 5, 3) := by decide +kernel
theorem dL_law_1801 : decode cL_law 1801 = .ok (.iconst 0, 1) := by decide +kernel
theorem dL_law_1802 : decode cL_law 1802 = .ok (.ireturn, 1) := by decide +kernel
theorem dL_law_1803 : decode cL_law 1803 = .ok (.iload 6, 2) := by decide +kernel
theorem dL_law_1805 : decode cL_law 1805 = .ok (.ifCond .ne 15, 3) := by decide +kernel
theorem dL_law_1808 : decode cL_law 1808 = .ok (.aload_n 3, 1) := by decide +kernel
theorem dL_law_1809 : decode cL_law 1809 = .ok (.iconst 0, 1) := by decide +kernel
theorem dL_law_1810 : decode cL_law 1810 = .ok (.laload, 1) := by decide +kernel
theorem dL_law_1811 : decode cL_law 1811 = .ok (.iload 7, 2) := by decide +kernel
theorem dL_law_1813 : decode cL_law 1813 = .ok (.i2l, 1) := by decide +kernel
theorem dL_law_1814 : decode cL_law 1814 = .ok (.lcmp, 1) := by decide +kernel
theorem dL_law_1815 : decode cL_law 1815 = .ok (.ifCond .eq 5, 3) := by decide +kernel
theorem dL_law_1818 : decode cL_law 1818 = .ok (.iconst 0, 1) := by decide +kernel
theorem dL_law_1819 : decode cL_law 1819 = .ok (.ireturn, 1) := by decide +kernel
theorem dL_law_1820 : decode cL_law 1820 = .ok (.goto 1193, 3) := by decide +kernel
theorem dL_law_1823 : decode cL_law 1823 = .ok (.aload_n 1, 1) := by decide +kernel
theorem dL_law_1824 : decode cL_law 1824 = .ok (.aload_n 0, 1) := by decide +kernel
theorem dL_law_1825 : decode cL_law 1825 = .ok (.iload 5, 2) := by decide +kernel
theorem dL_law_1827 : decode cL_law 1827 = .ok (.iconst 1, 1) := by decide +kernel
theorem dL_law_1828 : decode cL_law 1828 = .ok (.iadd, 1) := by decide +kernel
theorem dL_law_1829 : decode cL_law 1829 = .ok (.iaload, 1) := by decide +kernel
theorem dL_law_1830 : decode cL_law 1830 = .ok (.aload_n 0, 1) := by decide +kernel
theorem dL_law_1831 : decode cL_law 1831 = .ok (.iload 5, 2) := by decide +kernel
theorem dL_law_1833 : decode cL_law 1833 = .ok (.iconst 2, 1) := by decide +kernel
theorem dL_law_1834 : decode cL_law 1834 = .ok (.iadd, 1) := by decide +kernel
theorem dL_law_1835 : decode cL_law 1835 = .ok (.iaload, 1) := by decide +kernel
theorem dL_law_1836 : decode cL_law 1836 = .ok (.aload_n 3, 1) := by decide +kernel
theorem dL_law_1837 : decode cL_law 1837 = .ok (.invokestatic 247, 3) := by decide +kernel
theorem dL_law_1840 : decode cL_law 1840 = .ok (.istore 6, 2) := by decide +kernel
theorem dL_law_1842 : decode cL_law 1842 = .ok (.aload_n 2, 1) := by decide +kernel
theorem dL_law_1843 : decode cL_law 1843 = .ok (.aload_n 0, 1) := by decide +kernel
theorem dL_law_1844 : decode cL_law 1844 = .ok (.iload 5, 2) := by decide +kernel
theorem dL_law_1846 : decode cL_law 1846 = .ok (.iconst 1, 1) := by decide +kernel
theorem dL_law_1847 : decode cL_law 1847 = .ok (.iadd, 1) := by decide +kernel
theorem dL_law_1848 : decode cL_law 1848 = .ok (.iaload, 1) := by decide +kernel
theorem dL_law_1849 : decode cL_law 1849 = .ok (.aload_n 0, 1) := by decide +kernel
theorem dL_law_1850 : decode cL_law 1850 = .ok (.iload 5, 2) := by decide +kernel
theorem dL_law_1852 : decode cL_law 1852 = .ok (.iconst 2, 1) := by decide +kernel
theorem dL_law_1853 : decode cL_law 1853 = .ok (.iadd, 1) := by decide +kernel
theorem dL_law_1854 : decode cL_law 1854 = .ok (.iaload, 1) := by decide +kernel
theorem dL_law_1855 : decode cL_law 1855 = .ok (.invokevirtual 249, 3) := by decide +kernel
theorem dL_law_1858 : decode cL_law 1858 = .ok (.istore 7, 2) := by decide +kernel
theorem dL_law_1860 : decode cL_law 1860 = .ok (.aload_n 2, 1) := by decide +kernel
theorem dL_law_1861 : decode cL_law 1861 = .ok (.invokevirtual 155, 3) := by decide +kernel
theorem dL_law_1864 : decode cL_law 1864 = .ok (.iload 6, 2) := by decide +kernel
theorem dL_law_1866 : decode cL_law 1866 = .ok (.if_icmp .eq 5, 3) := by decide +kernel
theorem dL_law_1869 : decode cL_law 1869 = .ok (.iconst 0, 1) := by decide +kernel
theorem dL_law_1870 : decode cL_law 1870 = .ok (.ireturn, 1) := by decide +kernel
theorem dL_law_1871 : decode cL_law 1871 = .ok (.iload 6, 2) := by decide +kernel
theorem dL_law_1873 : decode cL_law 1873 = .ok (.ifCond .ne 15, 3) := by decide +kernel
theorem dL_law_1876 : decode cL_law 1876 = .ok (.aload_n 3, 1) := by decide +kernel
theorem dL_law_1877 : decode cL_law 1877 = .ok (.iconst 0, 1) := by decide +kernel
theorem dL_law_1878 : decode cL_law 1878 = .ok (.laload, 1) := by decide +kernel
theorem dL_law_1879 : decode cL_law 1879 = .ok (.iload 7, 2) := by decide +kernel
theorem dL_law_1881 : decode cL_law 1881 = .ok (.i2l, 1) := by decide +kernel
theorem dL_law_1882 : decode cL_law 1882 = .ok (.lcmp, 1) := by decide +kernel
theorem dL_law_1883 : decode cL_law 1883 = .ok (.ifCond .eq 5, 3) := by decide +kernel
theorem dL_law_1886 : decode cL_law 1886 = .ok (.iconst 0, 1) := by decide +kernel
theorem dL_law_1887 : decode cL_law 1887 = .ok (.ireturn, 1) := by decide +kernel
theorem dL_law_1888 : decode cL_law 1888 = .ok (.goto 1125, 3) := by decide +kernel
theorem dL_law_1891 : decode cL_law 1891 = .ok (.aload_n 1, 1) := by decide +kernel
theorem dL_law_1892 : decode cL_law 1892 = .ok (.aload_n 0, 1) := by decide +kernel
theorem dL_law_1893 : decode cL_law 1893 = .ok (.iload 5, 2) := by decide +kernel
theorem dL_law_1895 : decode cL_law 1895 = .ok (.iconst 1, 1) := by decide +kernel
theorem dL_law_1896 : decode cL_law 1896 = .ok (.iadd, 1) := by decide +kernel
theorem dL_law_1897 : decode cL_law 1897 = .ok (.iaload, 1) := by decide +kernel
theorem dL_law_1898 : decode cL_law 1898 = .ok (.aload_n 0, 1) := by decide +kernel
theorem dL_law_1899 : decode cL_law 1899 = .ok (.iload 5, 2) := by decide +kernel
theorem dL_law_1901 : decode cL_law 1901 = .ok (.iconst 2, 1) := by decide +kernel
theorem dL_law_1902 : decode cL_law 1902 = .ok (.iadd, 1) := by decide +kernel
theorem dL_law_1903 : decode cL_law 1903 = .ok (.iaload, 1) := by decide +kernel
theorem dL_law_1904 : decode cL_law 1904 = .ok (.aload_n 3, 1) := by decide +kernel
theorem dL_law_1905 : decode cL_law 1905 = .ok (.invokestatic 250, 3) := by decide +kernel
theorem dL_law_1908 : decode cL_law 1908 = .ok (.istore 6, 2) := by decide +kernel
theorem dL_law_1910 : decode cL_law 1910 = .ok (.aload_n 2, 1) := by decide +kernel
theorem dL_law_1911 : decode cL_law 1911 = .ok (.aload_n 0, 1) := by decide +kernel
theorem dL_law_1912 : decode cL_law 1912 = .ok (.iload 5, 2) := by decide +kernel
theorem dL_law_1914 : decode cL_law 1914 = .ok (.iconst 1, 1) := by decide +kernel
theorem dL_law_1915 : decode cL_law 1915 = .ok (.iadd, 1) := by decide +kernel
theorem dL_law_1916 : decode cL_law 1916 = .ok (.iaload, 1) := by decide +kernel
theorem dL_law_1917 : decode cL_law 1917 = .ok (.aload_n 0, 1) := by decide +kernel
theorem dL_law_1918 : decode cL_law 1918 = .ok (.iload 5, 2) := by decide +kernel
theorem dL_law_1920 : decode cL_law 1920 = .ok (.iconst 2, 1) := by decide +kernel
theorem dL_law_1921 : decode cL_law 1921 = .ok (.iadd, 1) := by decide +kernel
theorem dL_law_1922 : decode cL_law 1922 = .ok (.iaload, 1) := by decide +kernel
theorem dL_law_1923 : decode cL_law 1923 = .ok (.invokevirtual 252, 3) := by decide +kernel
theorem dL_law_1926 : decode cL_law 1926 = .ok (.istore 7, 2) := by decide +kernel
theorem dL_law_1928 : decode cL_law 1928 = .ok (.aload_n 2, 1) := by decide +kernel
theorem dL_law_1929 : decode cL_law 1929 = .ok (.invokevirtual 155, 3) := by decide +kernel
theorem dL_law_1932 : decode cL_law 1932 = .ok (.iload 6, 2) := by decide +kernel
theorem dL_law_1934 : decode cL_law 1934 = .ok (.if_icmp .eq 5, 3) := by decide +kernel
theorem dL_law_1937 : decode cL_law 1937 = .ok (.iconst 0, 1) := by decide +kernel
theorem dL_law_1938 : decode cL_law 1938 = .ok (.ireturn, 1) := by decide +kernel
theorem dL_law_1939 : decode cL_law 1939 = .ok (.iload 6, 2) := by decide +kernel
theorem dL_law_1941 : decode cL_law 1941 = .ok (.ifCond .ne 15, 3) := by decide +kernel
theorem dL_law_1944 : decode cL_law 1944 = .ok (.aload_n 3, 1) := by decide +kernel
theorem dL_law_1945 : decode cL_law 1945 = .ok (.iconst 0, 1) := by decide +kernel
theorem dL_law_1946 : decode cL_law 1946 = .ok (.laload, 1) := by decide +kernel
theorem dL_law_1947 : decode cL_law 1947 = .ok (.iload 7, 2) := by decide +kernel
theorem dL_law_1949 : decode cL_law 1949 = .ok (.i2l, 1) := by decide +kernel
theorem dL_law_1950 : decode cL_law 1950 = .ok (.lcmp, 1) := by decide +kernel
theorem dL_law_1951 : decode cL_law 1951 = .ok (.ifCond .eq 5, 3) := by decide +kernel
theorem dL_law_1954 : decode cL_law 1954 = .ok (.iconst 0, 1) := by decide +kernel
theorem dL_law_1955 : decode cL_law 1955 = .ok (.ireturn, 1) := by decide +kernel
theorem dL_law_1956 : decode cL_law 1956 = .ok (.goto 1057, 3) := by decide +kernel
theorem dL_law_1959 : decode cL_law 1959 = .ok (.aload_n 1, 1) := by decide +kernel
theorem dL_law_1960 : decode cL_law 1960 = .ok (.aload_n 0, 1) := by decide +kernel
theorem dL_law_1961 : decode cL_law 1961 = .ok (.iload 5, 2) := by decide +kernel
theorem dL_law_1963 : decode cL_law 1963 = .ok (.iconst 1, 1) := by decide +kernel
theorem dL_law_1964 : decode cL_law 1964 = .ok (.iadd, 1) := by decide +kernel
theorem dL_law_1965 : decode cL_law 1965 = .ok (.iaload, 1) := by decide +kernel
theorem dL_law_1966 : decode cL_law 1966 = .ok (.aload_n 0, 1) := by decide +kernel
theorem dL_law_1967 : decode cL_law 1967 = .ok (.iload 5, 2) := by decide +kernel
theorem dL_law_1969 : decode cL_law 1969 = .ok (.iconst 2, 1) := by decide +kernel
theorem dL_law_1970 : decode cL_law 1970 = .ok (.iadd, 1) := by decide +kernel
theorem dL_law_1971 : decode cL_law 1971 = .ok (.iaload, 1) := by decide +kernel
theorem dL_law_1972 : decode cL_law 1972 = .ok (.aload 4, 2) := by decide +kernel
theorem dL_law_1974 : decode cL_law 1974 = .ok (.invokestatic 253, 3) := by decide +kernel
theorem dL_law_1977 : decode cL_law 1977 = .ok (.istore 6, 2) := by decide +kernel
theorem dL_law_1979 : decode cL_law 1979 = .ok (.aload_n 2, 1) := by decide +kernel
theorem dL_law_1980 : decode cL_law 1980 = .ok (.aload_n 0, 1) := by decide +kernel
theorem dL_law_1981 : decode cL_law 1981 = .ok (.iload 5, 2) := by decide +kernel
theorem dL_law_1983 : decode cL_law 1983 = .ok (.iconst 1, 1) := by decide +kernel
theorem dL_law_1984 : decode cL_law 1984 = .ok (.iadd, 1) := by decide +kernel
theorem dL_law_1985 : decode cL_law 1985 = .ok (.iaload, 1) := by decide +kernel
theorem dL_law_1986 : decode cL_law 1986 = .ok (.aload_n 0, 1) := by decide +kernel
theorem dL_law_1987 : decode cL_law 1987 = .ok (.iload 5, 2) := by decide +kernel
theorem dL_law_1989 : decode cL_law 1989 = .ok (.iconst 2, 1) := by decide +kernel
theorem dL_law_1990 : decode cL_law 1990 = .ok (.iadd, 1) := by decide +kernel
theorem dL_law_1991 : decode cL_law 1991 = .ok (.iaload, 1) := by decide +kernel
theorem dL_law_1992 : decode cL_law 1992 = .ok (.invokevirtual 256, 3) := by decide +kernel
theorem dL_law_1995 : decode cL_law 1995 = .ok (.fstore 7, 2) := by decide +kernel
theorem dL_law_1997 : decode cL_law 1997 = .ok (.aload_n 2, 1) := by decide +kernel
theorem dL_law_1998 : decode cL_law 1998 = .ok (.invokevirtual 155, 3) := by decide +kernel
theorem dL_law_2001 : decode cL_law 2001 = .ok (.iload 6, 2) := by decide +kernel
theorem dL_law_2003 : decode cL_law 2003 = .ok (.if_icmp .eq 5, 3) := by decide +kernel
theorem dL_law_2006 : decode cL_law 2006 = .ok (.iconst 0, 1) := by decide +kernel
theorem dL_law_2007 : decode cL_law 2007 = .ok (.ireturn, 1) := by decide +kernel
theorem dL_law_2008 : decode cL_law 2008 = .ok (.iload 6, 2) := by decide +kernel
theorem dL_law_2010 : decode cL_law 2010 = .ok (.ifCond .ne 36, 3) := by decide +kernel
theorem dL_law_2013 : decode cL_law 2013 = .ok (.aload 4, 2) := by decide +kernel
theorem dL_law_2015 : decode cL_law 2015 = .ok (.iconst 0, 1) := by decide +kernel
theorem dL_law_2016 : decode cL_law 2016 = .ok (.daload, 1) := by decide +kernel
theorem dL_law_2017 : decode cL_law 2017 = .ok (.fload 7, 2) := by decide +kernel
theorem dL_law_2019 : decode cL_law 2019 = .ok (.f2d, 1) := by decide +kernel
theorem dL_law_2020 : decode cL_law 2020 = .ok (.dcmp .l, 1) := by decide +kernel
theorem dL_law_2021 : decode cL_law 2021 = .ok (.ifCond .eq 25, 3) := by decide +kernel
theorem dL_law_2024 : decode cL_law 2024 = .ok (.aload 4, 2) := by decide +kernel
theorem dL_law_2026 : decode cL_law 2026 = .ok (.iconst 0, 1) := by decide +kernel
theorem dL_law_2027 : decode cL_law 2027 = .ok (.daload, 1) := by decide +kernel
theorem dL_law_2028 : decode cL_law 2028 = .ok (.aload 4, 2) := by decide +kernel
theorem dL_law_2030 : decode cL_law 2030 = .ok (.iconst 0, 1) := by decide +kernel
theorem dL_law_2031 : decode cL_law 2031 = .ok (.daload, 1) := by decide +kernel
theorem dL_law_2032 : decode cL_law 2032 = .ok (.dcmp .l, 1) := by decide +kernel
theorem dL_law_2033 : decode cL_law 2033 = .ok (.ifCond .eq 11, 3) := by decide +kernel
theorem dL_law_2036 : decode cL_law 2036 = .ok (.fload 7, 2) := by decide +kernel
theorem dL_law_2038 : decode cL_law 2038 = .ok (.fload 7, 2) := by decide +kernel
theorem dL_law_2040 : decode cL_law 2040 = .ok (.fcmp .l, 1) := by decide +kernel
theorem dL_law_2041 : decode cL_law 2041 = .ok (.ifCond .ne 5, 3) := by decide +kernel
theorem dL_law_2044 : decode cL_law 2044 = .ok (.iconst 0, 1) := by decide +kernel
theorem dL_law_2045 : decode cL_law 2045 = .ok (.ireturn, 1) := by decide +kernel
theorem dL_law_2046 : decode cL_law 2046 = .ok (.goto 967, 3) := by decide +kernel
theorem dL_law_2049 : decode cL_law 2049 = .ok (.aload_n 1, 1) := by decide +kernel
theorem dL_law_2050 : decode cL_law 2050 = .ok (.aload_n 0, 1) := by decide +kernel
theorem dL_law_2051 : decode cL_law 2051 = .ok (.iload 5, 2) := by decide +kernel
theorem dL_law_2053 : decode cL_law 2053 = .ok (.iconst 1, 1) := by decide +kernel
theorem dL_law_2054 : decode cL_law 2054 = .ok (.iadd, 1) := by decide +kernel
theorem dL_law_2055 : decode cL_law 2055 = .ok (.iaload, 1) := by decide +kernel
theorem dL_law_2056 : decode cL_law 2056 = .ok (.aload_n 0, 1) := by decide +kernel
theorem dL_law_2057 : decode cL_law 2057 = .ok (.iload 5, 2) := by decide +kernel
theorem dL_law_2059 : decode cL_law 2059 = .ok (.iconst 2, 1) := by decide +kernel
theorem dL_law_2060 : decode cL_law 2060 = .ok (.iadd, 1) := by decide +kernel
theorem dL_law_2061 : decode cL_law 2061 = .ok (.iaload, 1) := by decide +kernel
theorem dL_law_2062 : decode cL_law 2062 = .ok (.aload_n 3, 1) := by decide +kernel
theorem dL_law_2063 : decode cL_law 2063 = .ok (.invokestatic 257, 3) := by decide +kernel
theorem dL_law_2066 : decode cL_law 2066 = .ok (.istore 6, 2) := by decide +kernel
theorem dL_law_2068 : decode cL_law 2068 = .ok (.aload_n 2, 1) := by decide +kernel
theorem dL_law_2069 : decode cL_law 2069 = .ok (.aload_n 0, 1) := by decide +kernel
theorem dL_law_2070 : decode cL_law 2070 = .ok (.iload 5, 2) := by decide +kernel
theorem dL_law_2072 : decode cL_law 2072 = .ok (.iconst 1, 1) := by decide +kernel
theorem dL_law_2073 : decode cL_law 2073 = .ok (.iadd, 1) := by decide +kernel
theorem dL_law_2074 : decode cL_law 2074 = .ok (.iaload, 1) := by decide +kernel
theorem dL_law_2075 : decode cL_law 2075 = .ok (.aload_n 0, 1) := by decide +kernel
theorem dL_law_2076 : decode cL_law 2076 = .ok (.iload 5, 2) := by decide +kernel
theorem dL_law_2078 : decode cL_law 2078 = .ok (.iconst 2, 1) := by decide +kernel
theorem dL_law_2079 : decode cL_law 2079 = .ok (.iadd, 1) := by decide +kernel
theorem dL_law_2080 : decode cL_law 2080 = .ok (.iaload, 1) := by decide +kernel
theorem dL_law_2081 : decode cL_law 2081 = .ok (.invokevirtual 259, 3) := by decide +kernel
theorem dL_law_2084 : decode cL_law 2084 = .ok (.istore 7, 2) := by decide +kernel
theorem dL_law_2086 : decode cL_law 2086 = .ok (.aload_n 2, 1) := by decide +kernel
theorem dL_law_2087 : decode cL_law 2087 = .ok (.invokevirtual 155, 3) := by decide +kernel
theorem dL_law_2090 : decode cL_law 2090 = .ok (.iload 6, 2) := by decide +kernel
theorem dL_law_2092 : decode cL_law 2092 = .ok (.if_icmp .eq 5, 3) := by decide +kernel
theorem dL_law_2095 : decode cL_law 2095 = .ok (.iconst 0, 1) := by decide +kernel
theorem dL_law_2096 : decode cL_law 2096 = .ok (.ireturn, 1) := by decide +kernel
theorem dL_law_2097 : decode cL_law 2097 = .ok (.iload 6, 2) := by decide +kernel
theorem dL_law_2099 : decode cL_law 2099 = .ok (.ifCond .ne 15, 3) := by decide +kernel
theorem dL_law_2102 : decode cL_law 2102 = .ok (.aload_n 3, 1) := by decide +kernel
theorem dL_law_2103 : decode cL_law 2103 = .ok (.iconst 0, 1) := by decide +kernel
theorem dL_law_2104 : decode cL_law 2104 = .ok (.laload, 1) := by decide +kernel
theorem dL_law_2105 : decode cL_law 2105 = .ok (.iload 7, 2) := by decide +kernel
theorem dL_law_2107 : decode cL_law 2107 = .ok (.i2l, 1) := by decide +kernel
theorem dL_law_2108 : decode cL_law 2108 = .ok (.lcmp, 1) := by decide +kernel
theorem dL_law_2109 : decode cL_law 2109 = .ok (.ifCond .eq 5, 3) := by decide +kernel
theorem dL_law_2112 : decode cL_law 2112 = .ok (.iconst 0, 1) := by decide +kernel
theorem dL_law_2113 : decode cL_law 2113 = .ok (.ireturn, 1) := by decide +kernel
theorem dL_law_2114 : decode cL_law 2114 = .ok (.goto 899, 3) := by decide +kernel
theorem dL_law_2117 : decode cL_law 2117 = .ok (.aload_n 1, 1) := by decide +kernel
theorem dL_law_2118 : decode cL_law 2118 = .ok (.aload_n 0, 1) := by decide +kernel
theorem dL_law_2119 : decode cL_law 2119 = .ok (.iload 5, 2) := by decide +kernel
theorem dL_law_2121 : decode cL_law 2121 = .ok (.iconst 1, 1) := by decide +kernel
theorem dL_law_2122 : decode cL_law 2122 = .ok (.iadd, 1) := by decide +kernel
theorem dL_law_2123 : decode cL_law 2123 = .ok (.iaload, 1) := by decide +kernel
theorem dL_law_2124 : decode cL_law 2124 = .ok (.aload_n 0, 1) := by decide +kernel
theorem dL_law_2125 : decode cL_law 2125 = .ok (.iload 5, 2) := by decide +kernel
theorem dL_law_2127 : decode cL_law 2127 = .ok (.iconst 2, 1) := by decide +kernel
theorem dL_law_2128 : decode cL_law 2128 = .ok (.iadd, 1) := by decide +kernel
theorem dL_law_2129 : decode cL_law 2129 = .ok (.iaload, 1) := by decide +kernel
theorem dL_law_2130 : decode cL_law 2130 = .ok (.aload_n 3, 1) := by decide +kernel
theorem dL_law_2131 : decode cL_law 2131 = .ok (.invokestatic 260, 3) := by decide +kernel
theorem dL_law_2134 : decode cL_law 2134 = .ok (.istore 6, 2) := by decide +kernel
theorem dL_law_2136 : decode cL_law 2136 = .ok (.aload_n 2, 1) := by decide +kernel
theorem dL_law_2137 : decode cL_law 2137 = .ok (.aload_n 0, 1) := by decide +kernel
theorem dL_law_2138 : decode cL_law 2138 = .ok (.iload 5, 2) := by decide +kernel
theorem dL_law_2140 : decode cL_law 2140 = .ok (.iconst 1, 1) := by decide +kernel
theorem dL_law_2141 : decode cL_law 2141 = .ok (.iadd, 1) := by decide +kernel
theorem dL_law_2142 : decode cL_law 2142 = .ok (.iaload, 1) := by decide +kernel
theorem dL_law_2143 : decode cL_law 2143 = .ok (.aload_n 0, 1) := by decide +kernel
theorem dL_law_2144 : decode cL_law 2144 = .ok (.iload 5, 2) := by decide +kernel
theorem dL_law_2146 : decode cL_law 2146 = .ok (.iconst 2, 1) := by decide +kernel
theorem dL_law_2147 : decode cL_law 2147 = .ok (.iadd, 1) := by decide +kernel
theorem dL_law_2148 : decode cL_law 2148 = .ok (.iaload, 1) := by decide +kernel
theorem dL_law_2149 : decode cL_law 2149 = .ok (.invokevirtual 262, 3) := by decide +kernel
theorem dL_law_2152 : decode cL_law 2152 = .ok (.istore 7, 2) := by decide +kernel
theorem dL_law_2154 : decode cL_law 2154 = .ok (.aload_n 2, 1) := by decide +kernel
theorem dL_law_2155 : decode cL_law 2155 = .ok (.invokevirtual 155, 3) := by decide +kernel
theorem dL_law_2158 : decode cL_law 2158 = .ok (.iload 6, 2) := by decide +kernel
theorem dL_law_2160 : decode cL_law 2160 = .ok (.if_icmp .eq 5, 3) := by decide +kernel
theorem dL_law_2163 : decode cL_law 2163 = .ok (.iconst 0, 1) := by decide +kernel
theorem dL_law_2164 : decode cL_law 2164 = .ok (.ireturn, 1) := by decide +kernel
theorem dL_law_2165 : decode cL_law 2165 = .ok (.iload 6, 2) := by decide +kernel
theorem dL_law_2167 : decode cL_law 2167 = .ok (.ifCond .ne 15, 3) := by decide +kernel
theorem dL_law_2170 : decode cL_law 2170 = .ok (.aload_n 3, 1) := by decide +kernel
theorem dL_law_2171 : decode cL_law 2171 = .ok (.iconst 0, 1) := by decide +kernel
theorem dL_law_2172 : decode cL_law 2172 = .ok (.laload, 1) := by decide +kernel
theorem dL_law_2173 : decode cL_law 2173 = .ok (.iload 7, 2) := by decide +kernel
theorem dL_law_2175 : decode cL_law 2175 = .ok (.i2l, 1) := by decide +kernel
theorem dL_law_2176 : decode cL_law 2176 = .ok (.lcmp, 1) := by decide +kernel
theorem dL_law_2177 : decode cL_law 2177 = .ok (.ifCond .eq 5, 3) := by decide +kernel
theorem dL_law_2180 : decode cL_law 2180 = .ok (.iconst 0, 1) := by decide +kernel
theorem dL_law_2181 : decode cL_law 2181 = .ok (.ireturn, 1) := by decide +kernel
theorem dL_law_2182 : decode cL_law 2182 = .ok (.goto 831, 3) := by decide +kernel
theorem dL_law_2185 : decode cL_law 2185 = .ok (.aload_n 1, 1) := by decide +kernel
theorem dL_law_2186 : decode cL_law 2186 = .ok (.aload_n 0, 1) := by decide +kernel
theorem dL_law_2187 : decode cL_law 2187 = .ok (.iload 5, 2) := by decide +kernel
theorem dL_law_2189 : decode cL_law 2189 = .ok (.iconst 1, 1) := by decide +kernel
theorem dL_law_2190 : decode cL_law 2190 = .ok (.iadd, 1) := by decide +kernel
theorem dL_law_2191 : decode cL_law 2191 = .ok (.iaload, 1) := by decide +kernel
theorem dL_law_2192 : decode cL_law 2192 = .ok (.aload_n 0, 1) := by decide +kernel
theorem dL_law_2193 : decode cL_law 2193 = .ok (.iload 5, 2) := by decide +kernel
theorem dL_law_2195 : decode cL_law 2195 = .ok (.iconst 2, 1) := by decide +kernel
theorem dL_law_2196 : decode cL_law 2196 = .ok (.iadd, 1) := by decide +kernel
theorem dL_law_2197 : decode cL_law 2197 = .ok (.iaload, 1) := by decide +kernel
theorem dL_law_2198 : decode cL_law 2198 = .ok (.aload_n 0, 1) := by decide +kernel
theorem dL_law_2199 : decode cL_law 2199 = .ok (.iload 5, 2) := by decide +kernel
theorem dL_law_2201 : decode cL_law 2201 = .ok (.iconst 3, 1) := by decide +kernel
theorem dL_law_2202 : decode cL_law 2202 = .ok (.iadd, 1) := by decide +kernel
theorem dL_law_2203 : decode cL_law 2203 = .ok (.iaload, 1) := by decide +kernel
theorem dL_law_2204 : decode cL_law 2204 = .ok (.aload_n 3, 1) := by decide +kernel
theorem dL_law_2205 : decode cL_law 2205 = .ok (.invokestatic 263, 3) := by decide +kernel
theorem dL_law_2208 : decode cL_law 2208 = .ok (.istore 6, 2) := by decide +kernel
theorem dL_law_2210 : decode cL_law 2210 = .ok (.aload_n 2, 1) := by decide +kernel
theorem dL_law_2211 : decode cL_law 2211 = .ok (.aload_n 0, 1) := by decide +kernel
theorem dL_law_2212 : decode cL_law 2212 = .ok (.iload 5, 2) := by decide +kernel
theorem dL_law_2214 : decode cL_law 2214 = .ok (.iconst 1, 1) := by decide +kernel
theorem dL_law_2215 : decode cL_law 2215 = .ok (.iadd, 1) := by decide +kernel
theorem dL_law_2216 : decode cL_law 2216 = .ok (.iaload, 1) := by decide +kernel
theorem dL_law_2217 : decode cL_law 2217 = .ok (.aload_n 0, 1) := by decide +kernel
theorem dL_law_2218 : decode cL_law 2218 = .ok (.iload 5, 2) := by decide +kernel
theorem dL_law_2220 : decode cL_law 2220 = .ok (.iconst 2, 1) := by decide +kernel
theorem dL_law_2221 : decode cL_law 2221 = .ok (.iadd, 1) := by decide +kernel
theorem dL_law_2222 : decode cL_law 2222 = .ok (.iaload, 1) := by decide +kernel
theorem dL_law_2223 : decode cL_law 2223 = .ok (.aload_n 0, 1) := by decide +kernel
theorem dL_law_2224 : decode cL_law 2224 = .ok (.iload 5, 2) := by decide +kernel
theorem dL_law_2226 : decode cL_law 2226 = .ok (.iconst 3, 1) := by decide +kernel
theorem dL_law_2227 : decode cL_law 2227 = .ok (.iadd, 1) := by decide +kernel
theorem dL_law_2228 : decode cL_law 2228 = .ok (.iaload, 1) := by decide +kernel
theorem dL_law_2229 : decode cL_law 2229 = .ok (.invokevirtual 265, 3) := by decide +kernel
theorem dL_law_2232 : decode cL_law 2232 = .ok (.istore 7, 2) := by decide +kernel
theorem dL_law_2234 : decode cL_law 2234 = .ok (.aload_n 2, 1) := by decide +kernel
theorem dL_law_2235 : decode cL_law 2235 = .ok (.invokevirtual 155, 3) := by decide +kernel
theorem dL_law_2238 : decode cL_law 2238 = .ok (.iload 6, 2) := by decide +kernel
theorem dL_law_2240 : decode cL_law 2240 = .ok (.if_icmp .eq 5, 3) := by decide +kernel
theorem dL_law_2243 : decode cL_law 2243 = .ok (.iconst 0, 1) := by decide +kernel
theorem dL_law_2244 : decode cL_law 2244 = .ok (.ireturn, 1) := by decide +kernel
theorem dL_law_2245 : decode cL_law 2245 = .ok (.iload 6, 2) := by decide +kernel
theorem dL_law_2247 : decode cL_law 2247 = .ok (.ifCond .ne 15, 3) := by decide +kernel
theorem dL_law_2250 : decode cL_law 2250 = .ok (.aload_n 3, 1) := by decide +kernel
theorem dL_law_2251 : decode cL_law 2251 = .ok (.iconst 0, 1) := by decide +kernel
theorem dL_law_2252 : decode cL_law 2252 = .ok (.laload, 1) := by decide +kernel
theorem dL_law_2253 : decode cL_law 2253 = .ok (.iload 7, 2) := by decide +kernel
theorem dL_law_2255 : decode cL_law 2255 = .ok (.i2l, 1) := by decide +kernel
theorem dL_law_2256 : decode cL_law 2256 = .ok (.lcmp, 1) := by decide +kernel
theorem dL_law_2257 : decode cL_law 2257 = .ok (.ifCond .eq 5, 3) := by decide +kernel
theorem dL_law_2260 : decode cL_law 2260 = .ok (.iconst 0, 1) := by decide +kernel
theorem dL_law_2261 : decode cL_law 2261 = .ok (.ireturn, 1) := by decide +kernel
theorem dL_law_2262 : decode cL_law 2262 = .ok (.goto 751, 3) := by decide +kernel
theorem dL_law_2265 : decode cL_law 2265 = .ok (.aload_n 1, 1) := by decide +kernel
theorem dL_law_2266 : decode cL_law 2266 = .ok (.aload_n 0, 1) := by decide +kernel
theorem dL_law_2267 : decode cL_law 2267 = .ok (.iload 5, 2) := by decide +kernel
theorem dL_law_2269 : decode cL_law 2269 = .ok (.iconst 1, 1) := by decide +kernel
theorem dL_law_2270 : decode cL_law 2270 = .ok (.iadd, 1) := by decide +kernel
theorem dL_law_2271 : decode cL_law 2271 = .ok (.iaload, 1) := by decide +kernel
theorem dL_law_2272 : decode cL_law 2272 = .ok (.aload_n 0, 1) := by decide +kernel
theorem dL_law_2273 : decode cL_law 2273 = .ok (.iload 5, 2) := by decide +kernel
theorem dL_law_2275 : decode cL_law 2275 = .ok (.iconst 2, 1) := by decide +kernel
theorem dL_law_2276 : decode cL_law 2276 = .ok (.iadd, 1) := by decide +kernel
theorem dL_law_2277 : decode cL_law 2277 = .ok (.iaload, 1) := by decide +kernel
theorem dL_law_2278 : decode cL_law 2278 = .ok (.aload_n 0, 1) := by decide +kernel
theorem dL_law_2279 : decode cL_law 2279 = .ok (.iload 5, 2) := by decide +kernel
theorem dL_law_2281 : decode cL_law 2281 = .ok (.iconst 3, 1) := by decide +kernel
theorem dL_law_2282 : decode cL_law 2282 = .ok (.iadd, 1) := by decide +kernel
theorem dL_law_2283 : decode cL_law 2283 = .ok (.iaload, 1) := by decide +kernel
theorem dL_law_2284 : decode cL_law 2284 = .ok (.aload_n 3, 1) := by decide +kernel
theorem dL_law_2285 : decode cL_law 2285 = .ok (.invokestatic 266, 3) := by decide +kernel
theorem dL_law_2288 : decode cL_law 2288 = .ok (.istore 6, 2) := by decide +kernel
theorem dL_law_2290 : decode cL_law 2290 = .ok (.aload_n 2, 1) := by decide +kernel
theorem dL_law_2291 : decode cL_law 2291 = .ok (.aload_n 0, 1) := by decide +kernel
theorem dL_law_2292 : decode cL_law 2292 = .ok (.iload 5, 2) := by decide +kernel
theorem dL_law_2294 : decode cL_law 2294 = .ok (.iconst 1, 1) := by decide +kernel
theorem dL_law_2295 : decode cL_law 2295 = .ok (.iadd, 1) := by decide +kernel
theorem dL_law_2296 : decode cL_law 2296 = .ok (.iaload, 1) := by decide +kernel
theorem dL_law_2297 : decode cL_law 2297 = .ok (.aload_n 0, 1) := by decide +kernel
theorem dL_law_2298 : decode cL_law 2298 = .ok (.iload 5, 2) := by decide +kernel
theorem dL_law_2300 : decode cL_law 2300 = .ok (.iconst 2, 1) := by decide +kernel
theorem dL_law_2301 : decode cL_law 2301 = .ok (.iadd, 1) := by decide +kernel
theorem dL_law_2302 : decode cL_law 2302 = .ok (.iaload, 1) := by decide +kernel
theorem dL_law_2303 : decode cL_law 2303 = .ok (.aload_n 0, 1) := by decide +kernel
theorem dL_law_2304 : decode cL_law 2304 = .ok (.iload 5, 2) := by decide +kernel
theorem dL_law_2306 : decode cL_law 2306 = .ok (.iconst 3, 1) := by decide +kernel
theorem dL_law_2307 : decode cL_law 2307 = .ok (.iadd, 1) := by decide +kernel
theorem dL_law_2308 : decode cL_law 2308 = .ok (.iaload, 1) := by decide +kernel
theorem dL_law_2309 : decode cL_law 2309 = .ok (.invokevirtual 268, 3) := by decide +kernel
theorem dL_law_2312 : decode cL_law 2312 = .ok (.istore 7, 2) := by decide +kernel
theorem dL_law_2314 : decode cL_law 2314 = .ok (.aload_n 2, 1) := by decide +kernel
theorem dL_law_2315 : decode cL_law 2315 = .ok (.invokevirtual 155, 3) := by decide +kernel
theorem dL_law_2318 : decode cL_law 2318 = .ok (.iload 6, 2) := by decide +kernel
theorem dL_law_2320 : decode cL_law 2320 = .ok (.if_icmp .eq 5, 3) := by decide +kernel
theorem dL_law_2323 : decode cL_law 2323 = .ok (.iconst 0, 1) := by decide +kernel
theorem dL_law_2324 : decode cL_law 2324 = .ok (.ireturn, 1) := by decide +kernel
theorem dL_law_2325 : decode cL_law 2325 = .ok (.iload 6, 2) := by decide +kernel
theorem dL_law_2327 : decode cL_law 2327 = .ok (.ifCond .ne 15, 3) := by decide +kernel
theorem dL_law_2330 : decode cL_law 2330 = .ok (.aload_n 3, 1) := by decide +kernel
theorem dL_law_2331 : decode cL_law 2331 = .ok (.iconst 0, 1) := by decide +kernel
theorem dL_law_2332 : decode cL_law 2332 = .ok (.laload, 1) := by decide +kernel
theorem dL_law_2333 : decode cL_law 2333 = .ok (.iload 7, 2) := by decide +kernel
theorem dL_law_2335 : decode cL_law 2335 = .ok (.i2l, 1) := by decide +kernel
theorem dL_law_2336 : decode cL_law 2336 = .ok (.lcmp, 1) := by decide +kernel
theorem dL_law_2337 : decode cL_law 2337 = .ok (.ifCond .eq 5, 3) := by decide +kernel
theorem dL_law_2340 : decode cL_law 2340 = .ok (.iconst 0, 1) := by decide +kernel
theorem dL_law_2341 : decode cL_law 2341 = .ok (.ireturn, 1) := by decide +kernel
theorem dL_law_2342 : decode cL_law 2342 = .ok (.goto 671, 3) := by decide +kernel
theorem dL_law_2345 : decode cL_law 2345 = .ok (.aload_n 1, 1) := by decide +kernel
theorem dL_law_2346 : decode cL_law 2346 = .ok (.aload_n 0, 1) := by decide +kernel
theorem dL_law_2347 : decode cL_law 2347 = .ok (.iload 5, 2) := by decide +kernel
theorem dL_law_2349 : decode cL_law 2349 = .ok (.iconst 1, 1) := by decide +kernel
theorem dL_law_2350 : decode cL_law 2350 = .ok (.iadd, 1) := by decide +kernel
theorem dL_law_2351 : decode cL_law 2351 = .ok (.iaload, 1) := by decide +kernel
theorem dL_law_2352 : decode cL_law 2352 = .ok (.aload_n 0, 1) := by decide +kernel
theorem dL_law_2353 : decode cL_law 2353 = .ok (.iload 5, 2) := by decide +kernel
theorem dL_law_2355 : decode cL_law 2355 = .ok (.iconst 2, 1) := by decide +kernel
theorem dL_law_2356 : decode cL_law 2356 = .ok (.iadd, 1) := by decide +kernel
theorem dL_law_2357 : decode cL_law 2357 = .ok (.iaload, 1) := by decide +kernel
theorem dL_law_2358 : decode cL_law 2358 = .ok (.aload_n 0, 1) := by decide +kernel
theorem dL_law_2359 : decode cL_law 2359 = .ok (.iload 5, 2) := by decide +kernel
theorem dL_law_2361 : decode cL_law 2361 = .ok (.iconst 3, 1) := by decide +kernel
theorem dL_law_2362 : decode cL_law 2362 = .ok (.iadd, 1) := by decide +kernel
theorem dL_law_2363 : decode cL_law 2363 = .ok (.iaload, 1) := by decide +kernel
theorem dL_law_2364 : decode cL_law 2364 = .ok (.aload_n 3, 1) := by decide +kernel
theorem dL_law_2365 : decode cL_law 2365 = .ok (.invokestatic 269, 3) := by decide +kernel
theorem dL_law_2368 : decode cL_law 2368 = .ok (.istore 6, 2) := by decide +kernel
theorem dL_law_2370 : decode cL_law 2370 = .ok (.aload_n 2, 1) := by decide +kernel
theorem dL_law_2371 : decode cL_law 2371 = .ok (.aload_n 0, 1) := by decide +kernel
theorem dL_law_2372 : decode cL_law 2372 = .ok (.iload 5, 2) := by decide +kernel
theorem dL_law_2374 : decode cL_law 2374 = .ok (.iconst 1, 1) := by decide +kernel
theorem dL_law_2375 : decode cL_law 2375 = .ok (.iadd, 1) := by decide +kernel
theorem dL_law_2376 : decode cL_law 2376 = .ok (.iaload, 1) := by decide +kernel
theorem dL_law_2377 : decode cL_law 2377 = .ok (.aload_n 0, 1) := by decide +kernel
theorem dL_law_2378 : decode cL_law 2378 = .ok (.iload 5, 2) := by decide +kernel
theorem dL_law_2380 : decode cL_law 2380 = .ok (.iconst 2, 1) := by decide +kernel
theorem dL_law_2381 : decode cL_law 2381 = .ok (.iadd, 1) := by decide +kernel
theorem dL_law_2382 : decode cL_law 2382 = .ok (.iaload, 1) := by decide +kernel
theorem dL_law_2383 : decode cL_law 2383 = .ok (.aload_n 0, 1) := by decide +kernel
theorem dL_law_2384 : decode cL_law 2384 = .ok (.iload 5, 2) := by decide +kernel
theorem dL_law_2386 : decode cL_law 2386 = .ok (.iconst 3, 1) := by decide +kernel
theorem dL_law_2387 : decode cL_law 2387 = .ok (.iadd, 1) := by decide +kernel
theorem dL_law_2388 : decode cL_law 2388 = .ok (.iaload, 1) := by decide +kernel
theorem dL_law_2389 : decode cL_law 2389 = .ok (.invokevirtual 271, 3) := by decide +kernel
theorem dL_law_2392 : decode cL_law 2392 = .ok (.istore 7, 2) := by decide +kernel
theorem dL_law_2394 : decode cL_law 2394 = .ok (.aload_n 2, 1) := by decide +kernel
theorem dL_law_2395 : decode cL_law 2395 = .ok (.invokevirtual 155, 3) := by decide +kernel
theorem dL_law_2398 : decode cL_law 2398 = .ok (.iload 6, 2) := by decide +kernel
theorem dL_law_2400 : decode cL_law 2400 = .ok (.if_icmp .eq 5, 3) := by decide +kernel
theorem dL_law_2403 : decode cL_law 2403 = .ok (.iconst 0, 1) := by decide +kernel
theorem dL_law_2404 : decode cL_law 2404 = .ok (.ireturn, 1) := by decide +kernel
theorem dL_law_2405 : decode cL_law 2405 = .ok (.iload 6, 2) := by decide +kernel
theorem dL_law_2407 : decode cL_law 2407 = .ok (.ifCond .ne 15, 3) := by decide +kernel
theorem dL_law_2410 : decode cL_law 2410 = .ok (.aload_n 3, 1) := by decide +kernel
theorem dL_law_2411 : decode cL_law 2411 = .ok (.iconst 0, 1) := by decide +kernel
theorem dL_law_2412 : decode cL_law 2412 = .ok (.laload, 1) := by decide +kernel
theorem dL_law_2413 : decode cL_law 2413 = .ok (.iload 7, 2) := by decide +kernel
theorem dL_law_2415 : decode cL_law 2415 = .ok (.i2l, 1) := by decide +kernel
theorem dL_law_2416 : decode cL_law 2416 = .ok (.lcmp, 1) := by decide +kernel
theorem dL_law_2417 : decode cL_law 2417 = .ok (.ifCond .eq 5, 3) := by decide +kernel
theorem dL_law_2420 : decode cL_law 2420 = .ok (.iconst 0, 1) := by decide +kernel
theorem dL_law_2421 : decode cL_law 2421 = .ok (.ireturn, 1) := by decide +kernel
theorem dL_law_2422 : decode cL_law 2422 = .ok (.goto 591, 3) := by decide +kernel
theorem dL_law_2425 : decode cL_law 2425 = .ok (.aload_n 1, 1) := by decide +kernel
theorem dL_law_2426 : decode cL_law 2426 = .ok (.aload_n 0, 1) := by decide +kernel
theorem dL_law_2427 : decode cL_law 2427 = .ok (.iload 5, 2) := by decide +kernel
theorem dL_law_2429 : decode cL_law 2429 = .ok (.iconst 1, 1) := by decide +kernel
theorem dL_law_2430 : decode cL_law 2430 = .ok (.iadd, 1) := by decide +kernel
theorem dL_law_2431 : decode cL_law 2431 = .ok (.iaload, 1) := by decide +kernel
theorem dL_law_2432 : decode cL_law 2432 = .ok (.aload_n 0, 1) := by decide +kernel
theorem dL_law_2433 : decode cL_law 2433 = .ok (.iload 5, 2) := by decide +kernel
theorem dL_law_2435 : decode cL_law 2435 = .ok (.iconst 2, 1) := by decide +kernel
theorem dL_law_2436 : decode cL_law 2436 = .ok (.iadd, 1) := by decide +kernel
theorem dL_law_2437 : decode cL_law 2437 = .ok (.iaload, 1) := by decide +kernel
theorem dL_law_2438 : decode cL_law 2438 = .ok (.aload_n 0, 1) := by decide +kernel
theorem dL_law_2439 : decode cL_law 2439 = .ok (.iload 5, 2) := by decide +kernel
theorem dL_law_2441 : decode cL_law 2441 = .ok (.iconst 3, 1) := by decide +kernel
theorem dL_law_2442 : decode cL_law 2442 = .ok (.iadd, 1) := by decide +kernel
theorem dL_law_2443 : decode cL_law 2443 = .ok (.iaload, 1) := by decide +kernel
theorem dL_law_2444 : decode cL_law 2444 = .ok (.aload_n 3, 1) := by decide +kernel
theorem dL_law_2445 : decode cL_law 2445 = .ok (.invokestatic 272, 3) := by decide +kernel
theorem dL_law_2448 : decode cL_law 2448 = .ok (.istore 6, 2) := by decide +kernel
theorem dL_law_2450 : decode cL_law 2450 = .ok (.aload_n 2, 1) := by decide +kernel
theorem dL_law_2451 : decode cL_law 2451 = .ok (.aload_n 0, 1) := by decide +kernel
theorem dL_law_2452 : decode cL_law 2452 = .ok (.iload 5, 2) := by decide +kernel
theorem dL_law_2454 : decode cL_law 2454 = .ok (.iconst 1, 1) := by decide +kernel
theorem dL_law_2455 : decode cL_law 2455 = .ok (.iadd, 1) := by decide +kernel
theorem dL_law_2456 : decode cL_law 2456 = .ok (.iaload, 1) := by decide +kernel
theorem dL_law_2457 : decode cL_law 2457 = .ok (.aload_n 0, 1) := by decide +kernel
theorem dL_law_2458 : decode cL_law 2458 = .ok (.iload 5, 2) := by decide +kernel
theorem dL_law_2460 : decode cL_law 2460 = .ok (.iconst 2, 1) := by decide +kernel
theorem dL_law_2461 : decode cL_law 2461 = .ok (.iadd, 1) := by decide +kernel
theorem dL_law_2462 : decode cL_law 2462 = .ok (.iaload, 1) := by decide +kernel
theorem dL_law_2463 : decode cL_law 2463 = .ok (.aload_n 0, 1) := by decide +kernel
theorem dL_law_2464 : decode cL_law 2464 = .ok (.iload 5, 2) := by decide +kernel
theorem dL_law_2466 : decode cL_law 2466 = .ok (.iconst 3, 1) := by decide +kernel
theorem dL_law_2467 : decode cL_law 2467 = .ok (.iadd, 1) := by decide +kernel
theorem dL_law_2468 : decode cL_law 2468 = .ok (.iaload, 1) := by decide +kernel
theorem dL_law_2469 : decode cL_law 2469 = .ok (.invokevirtual 274, 3) := by decide +kernel
theorem dL_law_2472 : decode cL_law 2472 = .ok (.istore 7, 2) := by decide +kernel
theorem dL_law_2474 : decode cL_law 2474 = .ok (.aload_n 2, 1) := by decide +kernel
theorem dL_law_2475 : decode cL_law 2475 = .ok (.invokevirtual 155, 3) := by decide +kernel
theorem dL_law_2478 : decode cL_law 2478 = .ok (.iload 6, 2) := by decide +kernel
theorem dL_law_2480 : decode cL_law 2480 = .ok (.if_icmp .eq 5, 3) := by decide +kernel
theorem dL_law_2483 : decode cL_law 2483 = .ok (.iconst 0, 1) := by decide +kernel
theorem dL_law_2484 : decode cL_law 2484 = .ok (.ireturn, 1) := by decide +kernel
theorem dL_law_2485 : decode cL_law 2485 = .ok (.iload 6, 2) := by decide +kernel
theorem dL_law_2487 : decode cL_law 2487 = .ok (.ifCond .ne 15, 3) := by decide +kernel
theorem dL_law_2490 : decode cL_law 2490 = .ok (.aload_n 3, 1) := by decide +kernel
theorem dL_law_2491 : decode cL_law 2491 = .ok (.iconst 0, 1) := by decide +kernel
theorem dL_law_2492 : decode cL_law 2492 = .ok (.laload, 1) := by decide +kernel
theorem dL_law_2493 : decode cL_law 2493 = .ok (.iload 7, 2) := by decide +kernel
theorem dL_law_2495 : decode cL_law 2495 = .ok (.i2l, 1) := by decide +kernel
theorem dL_law_2496 : decode cL_law 2496 = .ok (.lcmp, 1) := by decide +kernel
theorem dL_law_2497 : decode cL_law 2497 = .ok (.ifCond .eq 5, 3) := by decide +kernel
theorem dL_law_2500 : decode cL_law 2500 = .ok (.iconst 0, 1) := by decide +kernel
theorem dL_law_2501 : decode cL_law 2501 = .ok (.ireturn, 1) := by decide +kernel
theorem dL_law_2502 : decode cL_law 2502 = .ok (.goto 511, 3) := by decide +kernel
theorem dL_law_2505 : decode cL_law 2505 = .ok (.aload_n 1, 1) := by decide +kernel
theorem dL_law_2506 : decode cL_law 2506 = .ok (.aload_n 0, 1) := by decide +kernel
theorem dL_law_2507 : decode cL_law 2507 = .ok (.iload 5, 2) := by decide +kernel
theorem dL_law_2509 : decode cL_law 2509 = .ok (.iconst 1, 1) := by decide +kernel
theorem dL_law_2510 : decode cL_law 2510 = .ok (.iadd, 1) := by decide +kernel
theorem dL_law_2511 : decode cL_law 2511 = .ok (.iaload, 1) := by decide +kernel
theorem dL_law_2512 : decode cL_law 2512 = .ok (.aload_n 0, 1) := by decide +kernel
theorem dL_law_2513 : decode cL_law 2513 = .ok (.iload 5, 2) := by decide +kernel
theorem dL_law_2515 : decode cL_law 2515 = .ok (.iconst 2, 1) := by decide +kernel
theorem dL_law_2516 : decode cL_law 2516 = .ok (.iadd, 1) := by decide +kernel
theorem dL_law_2517 : decode cL_law 2517 = .ok (.iaload, 1) := by decide +kernel
theorem dL_law_2518 : decode cL_law 2518 = .ok (.aload_n 3, 1) := by decide +kernel
theorem dL_law_2519 : decode cL_law 2519 = .ok (.invokestatic 275, 3) := by decide +kernel
theorem dL_law_2522 : decode cL_law 2522 = .ok (.istore 6, 2) := by decide +kernel
theorem dL_law_2524 : decode cL_law 2524 = .ok (.aload_n 2, 1) := by decide +kernel
theorem dL_law_2525 : decode cL_law 2525 = .ok (.aload_n 0, 1) := by decide +kernel
theorem dL_law_2526 : decode cL_law 2526 = .ok (.iload 5, 2) := by decide +kernel
theorem dL_law_2528 : decode cL_law 2528 = .ok (.iconst 1, 1) := by decide +kernel
theorem dL_law_2529 : decode cL_law 2529 = .ok (.iadd, 1) := by decide +kernel
theorem dL_law_2530 : decode cL_law 2530 = .ok (.iaload, 1) := by decide +kernel
theorem dL_law_2531 : decode cL_law 2531 = .ok (.aload_n 0, 1) := by decide +kernel
theorem dL_law_2532 : decode cL_law 2532 = .ok (.iload 5, 2) := by decide +kernel
theorem dL_law_2534 : decode cL_law 2534 = .ok (.iconst 2, 1) := by decide +kernel
theorem dL_law_2535 : decode cL_law 2535 = .ok (.iadd, 1) := by decide +kernel
theorem dL_law_2536 : decode cL_law 2536 = .ok (.iaload, 1) := by decide +kernel
theorem dL_law_2537 : decode cL_law 2537 = .ok (.invokevirtual 277, 3) := by decide +kernel
theorem dL_law_2540 : decode cL_law 2540 = .ok (.istore 7, 2) := by decide +kernel
theorem dL_law_2542 : decode cL_law 2542 = .ok (.aload_n 2, 1) := by decide +kernel
theorem dL_law_2543 : decode cL_law 2543 = .ok (.invokevirtual 155, 3) := by decide +kernel
theorem dL_law_2546 : decode cL_law 2546 = .ok (.iload 6, 2) := by decide +kernel
theorem dL_law_2548 : decode cL_law 2548 = .ok (.if_icmp .eq 5, 3) := by decide +kernel
theorem dL_law_2551 : decode cL_law 2551 = .ok (.iconst 0, 1) := by decide +kernel
theorem dL_law_2552 : decode cL_law 2552 = .ok (.ireturn, 1) := by decide +kernel
theorem dL_law_2553 : decode cL_law 2553 = .ok (.iload 6, 2) := by decide +kernel
theorem dL_law_2555 : decode cL_law 2555 = .ok (.ifCond .ne 15, 3) := by decide +kernel
theorem dL_law_2558 : decode cL_law 2558 = .ok (.aload_n 3, 1) := by decide +kernel
theorem dL_law_2559 : decode cL_law 2559 = .ok (.iconst 0, 1) := by decide +kernel
theorem dL_law_2560 : decode cL_law 2560 = .ok (.laload, 1) := by decide +kernel
theorem dL_law_2561 : decode cL_law 2561 = .ok (.iload 7, 2) := by decide +kernel
theorem dL_law_2563 : decode cL_law 2563 = .ok (.i2l, 1) := by decide +kernel
theorem dL_law_2564 : decode cL_law 2564 = .ok (.lcmp, 1) := by decide +kernel
theorem dL_law_2565 : decode cL_law 2565 = .ok (.ifCond .eq 5, 3) := by decide +kernel
theorem dL_law_2568 : decode cL_law 2568 = .ok (.iconst 0, 1) := by decide +kernel
theorem dL_law_2569 : decode cL_law 2569 = .ok (.ireturn, 1) := by decide +kernel
theorem dL_law_2570 : decode cL_law 2570 = .ok (.goto 443, 3) := by decide +kernel
theorem dL_law_2573 : decode cL_law 2573 = .ok (.aload_n 1, 1) := by decide +kernel
theorem dL_law_2574 : decode cL_law 2574 = .ok (.aload_n 0, 1) := by decide +kernel
theorem dL_law_2575 : decode cL_law 2575 = .ok (.iload 5, 2) := by decide +kernel
theorem dL_law_2577 : decode cL_law 2577 = .ok (.iconst 1, 1) := by decide +kernel
theorem dL_law_2578 : decode cL_law 2578 = .ok (.iadd, 1) := by decide +kernel
theorem dL_law_2579 : decode cL_law 2579 = .ok (.iaload, 1) := by decide +kernel
theorem dL_law_2580 : decode cL_law 2580 = .ok (.aload_n 0, 1) := by decide +kernel
theorem dL_law_2581 : decode cL_law 2581 = .ok (.iload 5, 2) := by decide +kernel
theorem dL_law_2583 : decode cL_law 2583 = .ok (.iconst 2, 1) := by decide +kernel
theorem dL_law_2584 : decode cL_law 2584 = .ok (.iadd, 1) := by decide +kernel
theorem dL_law_2585 : decode cL_law 2585 = .ok (.iaload, 1) := by decide +kernel
theorem dL_law_2586 : decode cL_law 2586 = .ok (.aload_n 3, 1) := by decide +kernel
theorem dL_law_2587 : decode cL_law 2587 = .ok (.invokestatic 278, 3) := by decide +kernel
theorem dL_law_2590 : decode cL_law 2590 = .ok (.istore 6, 2) := by decide +kernel
theorem dL_law_2592 : decode cL_law 2592 = .ok (.aload_n 2, 1) := by decide +kernel
theorem dL_law_2593 : decode cL_law 2593 = .ok (.aload_n 0, 1) := by decide +kernel
theorem dL_law_2594 : decode cL_law 2594 = .ok (.iload 5, 2) := by decide +kernel
theorem dL_law_2596 : decode cL_law 2596 = .ok (.iconst 1, 1) := by decide +kernel
theorem dL_law_2597 : decode cL_law 2597 = .ok (.iadd, 1) := by decide +kernel
theorem dL_law_2598 : decode cL_law 2598 = .ok (.iaload, 1) := by decide +kernel
theorem dL_law_2599 : decode cL_law 2599 = .ok (.aload_n 0, 1) := by decide +kernel
theorem dL_law_2600 : decode cL_law 2600 = .ok (.iload 5, 2) := by decide +kernel
theorem dL_law_2602 : decode cL_law 2602 = .ok (.iconst 2, 1) := by decide +kernel
theorem dL_law_2603 : decode cL_law 2603 = .ok (.iadd, 1) := by decide +kernel
theorem dL_law_2604 : decode cL_law 2604 = .ok (.iaload, 1) := by decide +kernel
theorem dL_law_2605 : decode cL_law 2605 = .ok (.invokevirtual 280, 3) := by decide +kernel
theorem dL_law_2608 : decode cL_law 2608 = .ok (.istore 7, 2) := by decide +kernel
theorem dL_law_2610 : decode cL_law 2610 = .ok (.aload_n 2, 1) := by decide +kernel
theorem dL_law_2611 : decode cL_law 2611 = .ok (.invokevirtual 155, 3) := by decide +kernel
theorem dL_law_2614 : decode cL_law 2614 = .ok (.iload 6, 2) := by decide +kernel
theorem dL_law_2616 : decode cL_law 2616 = .ok (.if_icmp .eq 5, 3) := by decide +kernel
theorem dL_law_2619 : decode cL_law 2619 = .ok (.iconst 0, 1) := by decide +kernel
theorem dL_law_2620 : decode cL_law 2620 = .ok (.ireturn, 1) := by decide +kernel
theorem dL_law_2621 : decode cL_law 2621 = .ok (.iload 6, 2) := by decide +kernel
theorem dL_law_2623 : decode cL_law 2623 = .ok (.ifCond .ne 15, 3) := by decide +kernel
theorem dL_law_2626 : decode cL_law 2626 = .ok (.aload_n 3, 1) := by decide +kernel
theorem dL_law_2627 : decode cL_law 2627 = .ok (.iconst 0, 1) := by decide +kernel
theorem dL_law_2628 : decode cL_law 2628 = .ok (.laload, 1) := by decide +kernel
theorem dL_law_2629 : decode cL_law 2629 = .ok (.iload 7, 2) := by decide +kernel
theorem dL_law_2631 : decode cL_law 2631 = .ok (.i2l, 1) := by decide +kernel
theorem dL_law_2632 : decode cL_law 2632 = .ok (.lcmp, 1) := by decide +kernel
theorem dL_law_2633 : decode cL_law 2633 = .ok (.ifCond .eq 5, 3) := by decide +kernel
theorem dL_law_2636 : decode cL_law 2636 = .ok (.iconst 0, 1) := by decide +kernel
theorem dL_law_2637 : decode cL_law 2637 = .ok (.ireturn, 1) := by decide +kernel
theorem dL_law_2638 : decode cL_law 2638 = .ok (.goto 375, 3) := by decide +kernel
theorem dL_law_2641 : decode cL_law 2641 = .ok (.aload_n 1, 1) := by decide +kernel
theorem dL_law_2642 : decode cL_law 2642 = .ok (.aload_n 0, 1) := by decide +kernel
theorem dL_law_2643 : decode cL_law 2643 = .ok (.iload 5, 2) := by decide +kernel
theorem dL_law_2645 : decode cL_law 2645 = .ok (.iconst 1, 1) := by decide +kernel
theorem dL_law_2646 : decode cL_law 2646 = .ok (.iadd, 1) := by decide +kernel
theorem dL_law_2647 : decode cL_law 2647 = .ok (.iaload, 1) := by decide +kernel
theorem dL_law_2648 : decode cL_law 2648 = .ok (.aload_n 0, 1) := by decide +kernel
theorem dL_law_2649 : decode cL_law 2649 = .ok (.iload 5, 2) := by decide +kernel
theorem dL_law_2651 : decode cL_law 2651 = .ok (.iconst 2, 1) := by decide +kernel
theorem dL_law_2652 : decode cL_law 2652 = .ok (.iadd, 1) := by decide +kernel
theorem dL_law_2653 : decode cL_law 2653 = .ok (.iaload, 1) := by decide +kernel
theorem dL_law_2654 : decode cL_law 2654 = .ok (.aload_n 3, 1) := by decide +kernel
theorem dL_law_2655 : decode cL_law 2655 = .ok (.invokestatic 281, 3) := by decide +kernel
theorem dL_law_2658 : decode cL_law 2658 = .ok (.istore 6, 2) := by decide +kernel
theorem dL_law_2660 : decode cL_law 2660 = .ok (.aload_n 2, 1) := by decide +kernel
theorem dL_law_2661 : decode cL_law 2661 = .ok (.aload_n 0, 1) := by decide +kernel
theorem dL_law_2662 : decode cL_law 2662 = .ok (.iload 5, 2) := by decide +kernel
theorem dL_law_2664 : decode cL_law 2664 = .ok (.iconst 1, 1) := by decide +kernel
theorem dL_law_2665 : decode cL_law 2665 = .ok (.iadd, 1) := by decide +kernel
theorem dL_law_2666 : decode cL_law 2666 = .ok (.iaload, 1) := by decide +kernel
theorem dL_law_2667 : decode cL_law 2667 = .ok (.aload_n 0, 1) := by decide +kernel
theorem dL_law_2668 : decode cL_law 2668 = .ok (.iload 5, 2) := by decide +kernel
theorem dL_law_2670 : decode cL_law 2670 = .ok (.iconst 2, 1) := by decide +kernel
theorem dL_law_2671 : decode cL_law 2671 = .ok (.iadd, 1) := by decide +kernel
theorem dL_law_2672 : decode cL_law 2672 = .ok (.iaload, 1) := by decide +kernel
theorem dL_law_2673 : decode cL_law 2673 = .ok (.invokevirtual 283, 3) := by decide +kernel
theorem dL_law_2676 : decode cL_law 2676 = .ok (.istore 7, 2) := by decide +kernel
theorem dL_law_2678 : decode cL_law 2678 = .ok (.aload_n 2, 1) := by decide +kernel
theorem dL_law_2679 : decode cL_law 2679 = .ok (.invokevirtual 155, 3) := by decide +kernel
theorem dL_law_2682 : decode cL_law 2682 = .ok (.iload 6, 2) := by decide +kernel
theorem dL_law_2684 : decode cL_law 2684 = .ok (.if_icmp .eq 5, 3) := by decide +kernel
theorem dL_law_2687 : decode cL_law 2687 = .ok (.iconst 0, 1) := by decide +kernel
theorem dL_law_2688 : decode cL_law 2688 = .ok (.ireturn, 1) := by decide +kernel
theorem dL_law_2689 : decode cL_law 2689 = .ok (.iload 6, 2) := by decide +kernel
theorem dL_law_2691 : decode cL_law 2691 = .ok (.ifCond .ne 15, 3) := by decide +kernel
theorem dL_law_2694 : decode cL_law 2694 = .ok (.aload_n 3, 1) := by decide +kernel
theorem dL_law_2695 : decode cL_law 2695 = .ok (.iconst 0, 1) := by decide +kernel
theorem dL_law_2696 : decode cL_law 2696 = .ok (.laload, 1) := by decide +kernel
theorem dL_law_2697 : decode cL_law 2697 = .ok (.iload 7, 2) := by decide +kernel
theorem dL_law_2699 : decode cL_law 2699 = .ok (.i2l, 1) := by decide +kernel
theorem dL_law_2700 : decode cL_law 2700 = .ok (.lcmp, 1) := by decide +kernel
theorem dL_law_2701 : decode cL_law 2701 = .ok (.ifCond .eq 5, 3) := by decide +kernel
theorem dL_law_2704 : decode cL_law 2704 = .ok (.iconst 0, 1) := by decide +kernel
theorem dL_law_2705 : decode cL_law 2705 = .ok (.ireturn, 1) := by decide +kernel
theorem dL_law_2706 : decode cL_law 2706 = .ok (.goto 307, 3) := by decide +kernel
theorem dL_law_2709 : decode cL_law 2709 = .ok (.aload_n 1, 1) := by decide +kernel
theorem dL_law_2710 : decode cL_law 2710 = .ok (.aload_n 0, 1) := by decide +kernel
theorem dL_law_2711 : decode cL_law 2711 = .ok (.iload 5, 2) := by decide +kernel
theorem dL_law_2713 : decode cL_law 2713 = .ok (.iconst 1, 1) := by decide +kernel
theorem dL_law_2714 : decode cL_law 2714 = .ok (.iadd, 1) := by decide +kernel
theorem dL_law_2715 : decode cL_law 2715 = .ok (.iaload, 1) := by decide +kernel
theorem dL_law_2716 : decode cL_law 2716 = .ok (.aload_n 0, 1) := by decide +kernel
theorem dL_law_2717 : decode cL_law 2717 = .ok (.iload 5, 2) := by decide +kernel
theorem dL_law_2719 : decode cL_law 2719 = .ok (.iconst 2, 1) := by decide +kernel
theorem dL_law_2720 : decode cL_law 2720 = .ok (.iadd, 1) := by decide +kernel
theorem dL_law_2721 : decode cL_law 2721 = .ok (.iaload, 1) := by decide +kernel
theorem dL_law_2722 : decode cL_law 2722 = .ok (.aload_n 3, 1) := by decide +kernel
theorem dL_law_2723 : decode cL_law 2723 = .ok (.invokestatic 284, 3) := by decide +kernel
theorem dL_law_2726 : decode cL_law 2726 = .ok (.istore 6, 2) := by decide +kernel
theorem dL_law_2728 : decode cL_law 2728 = .ok (.aload_n 2, 1) := by decide +kernel
theorem dL_law_2729 : decode cL_law 2729 = .ok (.aload_n 0, 1) := by decide +kernel
theorem dL_law_2730 : decode cL_law 2730 = .ok (.iload 5, 2) := by decide +kernel
theorem dL_law_2732 : decode cL_law 2732 = .ok (.iconst 1, 1) := by decide +kernel
theorem dL_law_2733 : decode cL_law 2733 = .ok (.iadd, 1) := by decide +kernel
theorem dL_law_2734 : decode cL_law 2734 = .ok (.iaload, 1) := by decide +kernel
theorem dL_law_2735 : decode cL_law 2735 = .ok (.aload_n 0, 1) := by decide +kernel
theorem dL_law_2736 : decode cL_law 2736 = .ok (.iload 5, 2) := by decide +kernel
theorem dL_law_2738 : decode cL_law 2738 = .ok (.iconst 2, 1) := by decide +kernel
theorem dL_law_2739 : decode cL_law 2739 = .ok (.iadd, 1) := by decide +kernel
theorem dL_law_2740 : decode cL_law 2740 = .ok (.iaload, 1) := by decide +kernel
theorem dL_law_2741 : decode cL_law 2741 = .ok (.invokevirtual 286, 3) := by decide +kernel
theorem dL_law_2744 : decode cL_law 2744 = .ok (.istore 7, 2) := by decide +kernel
theorem dL_law_2746 : decode cL_law 2746 = .ok (.aload_n 2, 1) := by decide +kernel
theorem dL_law_2747 : decode cL_law 2747 = .ok (.invokevirtual 155, 3) := by decide +kernel
theorem dL_law_2750 : decode cL_law 2750 = .ok (.iload 6, 2) := by decide +kernel
theorem dL_law_2752 : decode cL_law 2752 = .ok (.if_icmp .eq 5, 3) := by decide +kernel
theorem dL_law_2755 : decode cL_law 2755 = .ok (.iconst 0, 1) := by decide +kernel
theorem dL_law_2756 : decode cL_law 2756 = .ok (.ireturn, 1) := by decide +kernel
theorem dL_law_2757 : decode cL_law 2757 = .ok (.iload 6, 2) := by decide +kernel
theorem dL_law_2759 : decode cL_law 2759 = .ok (.ifCond .ne 15, 3) := by decide +kernel
theorem dL_law_2762 : decode cL_law 2762 = .ok (.aload_n 3, 1) := by decide +kernel
theorem dL_law_2763 : decode cL_law 2763 = .ok (.iconst 0, 1) := by decide +kernel
theorem dL_law_2764 : decode cL_law 2764 = .ok (.laload, 1) := by decide +kernel
theorem dL_law_2765 : decode cL_law 2765 = .ok (.iload 7, 2) := by decide +kernel
theorem dL_law_2767 : decode cL_law 2767 = .ok (.i2l, 1) := by decide +kernel
theorem dL_law_2768 : decode cL_law 2768 = .ok (.lcmp, 1) := by decide +kernel
theorem dL_law_2769 : decode cL_law 2769 = .ok (.ifCond .eq 5, 3) := by decide +kernel
theorem dL_law_2772 : decode cL_law 2772 = .ok (.iconst 0, 1) := by decide +kernel
theorem dL_law_2773 : decode cL_law 2773 = .ok (.ireturn, 1) := by decide +kernel
theorem dL_law_2774 : decode cL_law 2774 = .ok (.goto 239, 3) := by decide +kernel
theorem dL_law_2777 : decode cL_law 2777 = .ok (.aload_n 1, 1) := by decide +kernel
theorem dL_law_2778 : decode cL_law 2778 = .ok (.aload_n 0, 1) := by decide +kernel
theorem dL_law_2779 : decode cL_law 2779 = .ok (.iload 5, 2) := by decide +kernel
theorem dL_law_2781 : decode cL_law 2781 = .ok (.iconst 1, 1) := by decide +kernel
theorem dL_law_2782 : decode cL_law 2782 = .ok (.iadd, 1) := by decide +kernel
theorem dL_law_2783 : decode cL_law 2783 = .ok (.iaload, 1) := by decide +kernel
theorem dL_law_2784 : decode cL_law 2784 = .ok (.aload_n 3, 1) := by decide +kernel
theorem dL_law_2785 : decode cL_law 2785 = .ok (.invokestatic 287, 3) := by decide +kernel
theorem dL_law_2788 : decode cL_law 2788 = .ok (.istore 6, 2) := by decide +kernel
theorem dL_law_2790 : decode cL_law 2790 = .ok (.aload_n 2, 1) := by decide +kernel
theorem dL_law_2791 : decode cL_law 2791 = .ok (.aload_n 0, 1) := by decide +kernel
theorem dL_law_2792 : decode cL_law 2792 = .ok (.iload 5, 2) := by decide +kernel
theorem dL_law_2794 : decode cL_law 2794 = .ok (.iconst 1, 1) := by decide +kernel
theorem dL_law_2795 : decode cL_law 2795 = .ok (.iadd, 1) := by decide +kernel
theorem dL_law_2796 : decode cL_law 2796 = .ok (.iaload, 1) := by decide +kernel
theorem dL_law_2797 : decode cL_law 2797 = .ok (.invokevirtual 289, 3) := by decide +kernel
theorem dL_law_2800 : decode cL_law 2800 = .ok (.istore 7, 2) := by decide +kernel
theorem dL_law_2802 : decode cL_law 2802 = .ok (.aload_n 2, 1) := by decide +kernel
theorem dL_law_2803 : decode cL_law 2803 = .ok (.invokevirtual 155, 3) := by decide +kernel
theorem dL_law_2806 : decode cL_law 2806 = .ok (.iload 6, 2) := by decide +kernel
theorem dL_law_2808 : decode cL_law 2808 = .ok (.if_icmp .eq 5, 3) := by decide +kernel
theorem dL_law_2811 : decode cL_law 2811 = .ok (.iconst 0, 1) := by decide +kernel
theorem dL_law_2812 : decode cL_law 2812 = .ok (.ireturn, 1) := by decide +kernel
theorem dL_law_2813 : decode cL_law 2813 = .ok (.iload 6, 2) := by decide +kernel
theorem dL_law_2815 : decode cL_law 2815 = .ok (.ifCond .ne 15, 3) := by decide +kernel
theorem dL_law_2818 : decode cL_law 2818 = .ok (.aload_n 3, 1) := by decide +kernel
theorem dL_law_2819 : decode cL_law 2819 = .ok (.iconst 0, 1) := by decide +kernel
theorem dL_law_2820 : decode cL_law 2820 = .ok (.laload, 1) := by decide +kernel
theorem dL_law_2821 : decode cL_law 2821 = .ok (.iload 7, 2) := by decide +kernel
theorem dL_law_2823 : decode cL_law 2823 = .ok (.i2l, 1) := by decide +kernel
theorem dL_law_2824 : decode cL_law 2824 = .ok (.lcmp, 1) := by decide +kernel
theorem dL_law_2825 : decode cL_law 2825 = .ok (.ifCond .eq 5, 3) := by decide +kernel
theorem dL_law_2828 : decode cL_law 2828 = .ok (.iconst 0, 1) := by decide +kernel
theorem dL_law_2829 : decode cL_law 2829 = .ok (.ireturn, 1) := by decide +kernel
theorem dL_law_2830 : decode cL_law 2830 = .ok (.goto 183, 3) := by decide +kernel
theorem dL_law_2833 : decode cL_law 2833 = .ok (.aload_n 1, 1) := by decide +kernel
theorem dL_law_2834 : decode cL_law 2834 = .ok (.aload_n 0, 1) := by decide +kernel
theorem dL_law_2835 : decode cL_law 2835 = .ok (.iload 5, 2) := by decide +kernel
theorem dL_law_2837 : decode cL_law 2837 = .ok (.iconst 1, 1) := by decide +kernel
theorem dL_law_2838 : decode cL_law 2838 = .ok (.iadd, 1) := by decide +kernel
theorem dL_law_2839 : decode cL_law 2839 = .ok (.iaload, 1) := by decide +kernel
theorem dL_law_2840 : decode cL_law 2840 = .ok (.aload_n 0, 1) := by decide +kernel
theorem dL_law_2841 : decode cL_law 2841 = .ok (.iload 5, 2) := by decide +kernel
theorem dL_law_2843 : decode cL_law 2843 = .ok (.iconst 2, 1) := by decide +kernel
theorem dL_law_2844 : decode cL_law 2844 = .ok (.iadd, 1) := by decide +kernel
theorem dL_law_2845 : decode cL_law 2845 = .ok (.iaload, 1) := by decide +kernel
theorem dL_law_2846 : decode cL_law 2846 = .ok (.aload_n 3, 1) := by decide +kernel
theorem dL_law_2847 : decode cL_law 2847 = .ok (.invokestatic 290, 3) := by decide +kernel
theorem dL_law_2850 : decode cL_law 2850 = .ok (.istore 6, 2) := by decide +kernel
theorem dL_law_2852 : decode cL_law 2852 = .ok (.aload_n 2, 1) := by decide +kernel
theorem dL_law_2853 : decode cL_law 2853 = .ok (.aload_n 0, 1) := by decide +kernel
theorem dL_law_2854 : decode cL_law 2854 = .ok (.iload 5, 2) := by decide +kernel
theorem dL_law_2856 : decode cL_law 2856 = .ok (.iconst 1, 1) := by decide +kernel
theorem dL_law_2857 : decode cL_law 2857 = .ok (.iadd, 1) := by decide +kernel
theorem dL_law_2858 : decode cL_law 2858 = .ok (.iaload, 1) := by decide +kernel
theorem dL_law_2859 : decode cL_law 2859 = .ok (.aload_n 0, 1) := by decide +kernel
theorem dL_law_2860 : decode cL_law 2860 = .ok (.iload 5, 2) := by decide +kernel
theorem dL_law_2862 : decode cL_law 2862 = .ok (.iconst 2, 1) := by decide +kernel
theorem dL_law_2863 : decode cL_law 2863 = .ok (.iadd, 1) := by decide +kernel
theorem dL_law_2864 : decode cL_law 2864 = .ok (.iaload, 1) := by decide +kernel
theorem dL_law_2865 : decode cL_law 2865 = .ok (.invokevirtual 292, 3) := by decide +kernel
theorem dL_law_2868 : decode cL_law 2868 = .ok (.istore 7, 2) := by decide +kernel
theorem dL_law_2870 : decode cL_law 2870 = .ok (.aload_n 2, 1) := by decide +kernel
theorem dL_law_2871 : decode cL_law 2871 = .ok (.invokevirtual 155, 3) := by decide +kernel
theorem dL_law_2874 : decode cL_law 2874 = .ok (.iload 6, 2) := by decide +kernel
theorem dL_law_2876 : decode cL_law 2876 = .ok (.if_icmp .eq 5, 3) := by decide +kernel
theorem dL_law_2879 : decode cL_law 2879 = .ok (.iconst 0, 1) := by decide +kernel
theorem dL_law_2880 : decode cL_law 2880 = .ok (.ireturn, 1) := by decide +kernel
theorem dL_law_2881 : decode cL_law 2881 = .ok (.iload 6, 2) := by decide +kernel
theorem dL_law_2883 : decode cL_law 2883 = .ok (.ifCond .ne 15, 3) := by decide +kernel
theorem dL_law_2886 : decode cL_law 2886 = .ok (.aload_n 3, 1) := by decide +kernel
theorem dL_law_2887 : decode cL_law 2887 = .ok (.iconst 0, 1) := by decide +kernel
theorem dL_law_2888 : decode cL_law 2888 = .ok (.laload, 1) := by decide +kernel
theorem dL_law_2889 : decode cL_law 2889 = .ok (.iload 7, 2) := by decide +kernel
theorem dL_law_2891 : decode cL_law 2891 = .ok (.i2l, 1) := by decide +kernel
theorem dL_law_2892 : decode cL_law 2892 = .ok (.lcmp, 1) := by decide +kernel
theorem dL_law_2893 : decode cL_law 2893 = .ok (.ifCond .eq 5, 3) := by decide +kernel
theorem dL_law_2896 : decode cL_law 2896 = .ok (.iconst 0, 1) := by decide +kernel
theorem dL_law_2897 : decode cL_law 2897 = .ok (.ireturn, 1) := by decide +kernel
theorem dL_law_2898 : decode cL_law 2898 = .ok (.goto 115, 3) := by decide +kernel
theorem dL_law_2901 : decode cL_law 2901 = .ok (.aload_n 1, 1) := by decide +kernel
theorem dL_law_2902 : decode cL_law 2902 = .ok (.aload_n 0, 1) := by decide +kernel
theorem dL_law_2903 : decode cL_law 2903 = .ok (.iload 5, 2) := by decide +kernel
theorem dL_law_2905 : decode cL_law 2905 = .ok (.iconst 1, 1) := by decide +kernel
theorem dL_law_2906 : decode cL_law 2906 = .ok (.iadd, 1) := by decide +kernel
theorem dL_law_2907 : decode cL_law 2907 = .ok (.iaload, 1) := by decide +kernel
theorem dL_law_2908 : decode cL_law 2908 = .ok (.aload_n 3, 1) := by decide +kernel
theorem dL_law_2909 : decode cL_law 2909 = .ok (.invokestatic 293, 3) := by decide +kernel
theorem dL_law_2912 : decode cL_law 2912 = .ok (.istore 6, 2) := by decide +kernel
theorem dL_law_2914 : decode cL_law 2914 = .ok (.aload_n 2, 1) := by decide +kernel
theorem dL_law_2915 : decode cL_law 2915 = .ok (.aload_n 0, 1) := by decide +kernel
theorem dL_law_2916 : decode cL_law 2916 = .ok (.iload 5, 2) := by decide +kernel
theorem dL_law_2918 : decode cL_law 2918 = .ok (.iconst 1, 1) := by decide +kernel
theorem dL_law_2919 : decode cL_law 2919 = .ok (.iadd, 1) := by decide +kernel
theorem dL_law_2920 : decode cL_law 2920 = .ok (.iaload, 1) := by decide +kernel
theorem dL_law_2921 : decode cL_law 2921 = .ok (.invokevirtual 295, 3) := by decide +kernel
theorem dL_law_2924 : decode cL_law 2924 = .ok (.istore 7, 2) := by decide +kernel
theorem dL_law_2926 : decode cL_law 2926 = .ok (.aload_n 2, 1) := by decide +kernel
theorem dL_law_2927 : decode cL_law 2927 = .ok (.invokevirtual 155, 3) := by decide +kernel
theorem dL_law_2930 : decode cL_law 2930 = .ok (.iload 6, 2) := by decide +kernel
theorem dL_law_2932 : decode cL_law 2932 = .ok (.if_icmp .eq 5, 3) := by decide +kernel
theorem dL_law_2935 : decode cL_law 2935 = .ok (.iconst 0, 1) := by decide +kernel
theorem dL_law_2936 : decode cL_law 2936 = .ok (.ireturn, 1) := by decide +kernel
theorem dL_law_2937 : decode cL_law 2937 = .ok (.iload 6, 2) := by decide +kernel
theorem dL_law_2939 : decode cL_law 2939 = .ok (.ifCond .ne 15, 3) := by decide +kernel
theorem dL_law_2942 : decode cL_law 2942 = .ok (.aload_n 3, 1) := by decide +kernel
theorem dL_law_2943 : decode cL_law 2943 = .ok (.iconst 0, 1) := by decide +kernel
theorem dL_law_2944 : decode cL_law 2944 = .ok (.laload, 1) := by decide +kernel
theorem dL_law_2945 : decode cL_law 2945 = .ok (.iload 7, 2) := by decide +kernel
theorem dL_law_2947 : decode cL_law 2947 = .ok (.i2l, 1) := by decide +kernel
theorem dL_law_2948 : decode cL_law 2948 = .ok (.lcmp, 1) := by decide +kernel
theorem dL_law_2949 : decode cL_law 2949 = .ok (.ifCond .eq 5, 3) := by decide +kernel
theorem dL_law_2952 : decode cL_law 2952 = .ok (.iconst 0, 1) := by decide +kernel
theorem dL_law_2953 : decode cL_law 2953 = .ok (.ireturn, 1) := by decide +kernel
theorem dL_law_2954 : decode cL_law 2954 = .ok (.goto 59, 3) := by decide +kernel
theorem dL_law_2957 : decode cL_law 2957 = .ok (.aload_n 1, 1) := by decide +kernel
theorem dL_law_2958 : decode cL_law 2958 = .ok (.aload_n 0, 1) := by decide +kernel
theorem dL_law_2959 : decode cL_law 2959 = .ok (.iload 5, 2) := by decide +kernel
theorem dL_law_2961 : decode cL_law 2961 = .ok (.iconst 1, 1) := by decide +kernel
theorem dL_law_2962 : decode cL_law 2962 = .ok (.iadd, 1) := by decide +kernel
theorem dL_law_2963 : decode cL_law 2963 = .ok (.iaload, 1) := by decide +kernel
theorem dL_law_2964 : decode cL_law 2964 = .ok (.aload_n 3, 1) := by decide +kernel
theorem dL_law_2965 : decode cL_law 2965 = .ok (.invokestatic 296, 3) := by decide +kernel
theorem dL_law_2968 : decode cL_law 2968 = .ok (.istore 6, 2) := by decide +kernel
theorem dL_law_2970 : decode cL_law 2970 = .ok (.aload_n 2, 1) := by decide +kernel
theorem dL_law_2971 : decode cL_law 2971 = .ok (.aload_n 0, 1) := by decide +kernel
theorem dL_law_2972 : decode cL_law 2972 = .ok (.iload 5, 2) := by decide +kernel
theorem dL_law_2974 : decode cL_law 2974 = .ok (.iconst 1, 1) := by decide +kernel
theorem dL_law_2975 : decode cL_law 2975 = .ok (.iadd, 1) := by decide +kernel
theorem dL_law_2976 : decode cL_law 2976 = .ok (.iaload, 1) := by decide +kernel
theorem dL_law_2977 : decode cL_law 2977 = .ok (.invokevirtual 298, 3) := by decide +kernel
theorem dL_law_2980 : decode cL_law 2980 = .ok (.istore 7, 2) := by decide +kernel
theorem dL_law_2982 : decode cL_law 2982 = .ok (.aload_n 2, 1) := by decide +kernel
theorem dL_law_2983 : decode cL_law 2983 = .ok (.invokevirtual 155, 3) := by decide +kernel
theorem dL_law_2986 : decode cL_law 2986 = .ok (.iload 6, 2) := by decide +kernel
theorem dL_law_2988 : decode cL_law 2988 = .ok (.if_icmp .eq 5, 3) := by decide +kernel
theorem dL_law_2991 : decode cL_law 2991 = .ok (.iconst 0, 1) := by decide +kernel
theorem dL_law_2992 : decode cL_law 2992 = .ok (.ireturn, 1) := by decide +kernel
theorem dL_law_2993 : decode cL_law 2993 = .ok (.iload 6, 2) := by decide +kernel
theorem dL_law_2995 : decode cL_law 2995 = .ok (.ifCond .ne 15, 3) := by decide +kernel
theorem dL_law_2998 : decode cL_law 2998 = .ok (.aload_n 3, 1) := by decide +kernel
theorem dL_law_2999 : decode cL_law 2999 = .ok (.iconst 0, 1) := by decide +kernel
theorem dL_law_3000 : decode cL_law 3000 = .ok (.laload, 1) := by decide +kernel
theorem dL_law_3001 : decode cL_law 3001 = .ok (.iload 7, 2) := by decide +kernel
theorem dL_law_3003 : decode cL_law 3003 = .ok (.i2l, 1) := by decide +kernel
theorem dL_law_3004 : decode cL_law 3004 = .ok (.lcmp, 1) := by decide +kernel
theorem dL_law_3005 : decode cL_law 3005 = .ok (.ifCond .eq 5, 3) := by decide +kernel
theorem dL_law_3008 : decode cL_law 3008 = .ok (.iconst 0, 1) := by decide +kernel
theorem dL_law_3009 : decode cL_law 3009 = .ok (.ireturn, 1) := by decide +kernel
theorem dL_law_3010 : decode cL_law 3010 = .ok (.goto 3, 3) := by decide +kernel
theorem dL_law_3013 : decode cL_law 3013 = .ok (.iinc 5 4, 3) := by decide +kernel
theorem dL_law_3016 : decode cL_law 3016 = .ok (.goto (-2988), 3) := by decide +kernel
theorem dL_law_3019 : decode cL_law 3019 = .ok (.iconst 1, 1) := by decide +kernel
theorem dL_law_3020 : decode cL_law 3020 = .ok (.ireturn, 1) := by decide +kernel
end
section
/-! THE ABSTRACT LAYER: a method's walk over cells that are numbered, not addressed. A reference in an abstract value is the number of a cell; the cell of the number i lies at the address base + i. -/
abbrev ab_M : Type := Program × Launch × Env × Room × State × MethodId × Array Value × List Frame × Method × Code
abbrev ab_G : Type := Nat × va_G × (Nat → ClassId)
abbrev xp (X : ab_M) : Program := X.1
abbrev xl (X : ab_M) : Launch := X.2.1
abbrev xe (X : ab_M) : Env := X.2.2.1
abbrev xR (X : ab_M) : Room := X.2.2.2.1
abbrev xs (X : ab_M) : State := X.2.2.2.2.1
abbrev xm (X : ab_M) : MethodId := X.2.2.2.2.2.1
abbrev xa (X : ab_M) : Array Value := X.2.2.2.2.2.2.1
abbrev xb (X : ab_M) : List Frame := X.2.2.2.2.2.2.2.1
abbrev xt (X : ab_M) : Method := X.2.2.2.2.2.2.2.2.1
abbrev xc (X : ab_M) : Code := X.2.2.2.2.2.2.2.2.2
/-- an abstract value's own -/
def cv (b : Nat) : Value → Value
  | .ref i => .ref (b + i)
  | v => v
theorem cv_cat (b : Nat) (v : Value) : (cv b v).category = v.category := by cases v <;> rfl
/-- a cell's own: its array class by its kind, its references by the base -/
def ce (b : Nat) (K : Nat → ClassId) : va_E → va_E
  | .inl (k, n, .inl f) => .inl (K k, n, .inl f)
  | .inl (k, n, .inr (.inl f)) => .inl (K k, n, .inr (.inl f))
  | .inl (k, n, .inr (.inr (.inl f))) => .inl (K k, n, .inr (.inr (.inl f)))
  | .inl (k, n, .inr (.inr (.inr (.inl f)))) => .inl (K k, n, .inr (.inr (.inr (.inl f))))
  | .inl (k, n, .inr (.inr (.inr (.inr f)))) => .inl (K k, n, .inr (.inr (.inr (.inr (fun j => (f j).map (fun i => b + i))))))
  | .inr (ci, fs) => .inr (ci, fs.map (cv b))
def cw (b : Nat) (K : Nat → ClassId) (ws : List va_E) : va_W := ws.zipIdx.map (fun q => (b + q.2, ce b K q.1))
theorem cw_at (b : Nat) (K : Nat → ClassId) (ws : List va_E) (i : Nat) : (cw b K ws)[i]? = (ws[i]?).map (fun e => (b + i, ce b K e)) := by
  unfold cw
  rw [List.getElem?_map, List.getElem?_zipIdx]
  cases ws[i]? <;> simp
theorem cw_get {b : Nat} {K : Nat → ClassId} {ws : List va_E} {i : Nat} {e : va_E} (h : ws[i]? = some e) : (cw b K ws)[i]? = some (b + i, ce b K e) := by
  rw [cw_at, h]; rfl
theorem cw_len (b : Nat) (K : Nat → ClassId) (ws : List va_E) : (cw b K ws).length = ws.length := by
  unfold cw; simp
theorem cw_set {b : Nat} {K : Nat → ClassId} {ws : List va_E} {i : Nat} {e : va_E} : (cw b K ws).set i (b + i, ce b K e) = cw b K (ws.set i e) := by
  apply List.ext_getElem?
  intro j
  rw [cw_at, List.getElem?_set, List.getElem?_set, cw_at, cw_len]
  by_cases h : i = j
  · subst h
    rw [if_pos rfl, if_pos rfl]
    by_cases hl : i < ws.length
    · rw [if_pos hl, if_pos hl]; rfl
    · rw [if_neg hl, if_neg hl]; rfl
  · rw [if_neg h, if_neg h]
theorem cw_push {b : Nat} {K : Nat → ClassId} {ws : List va_E} {e : va_E} : cw b K ws ++ [(b + ws.length, ce b K e)] = cw b K (ws ++ [e]) := by
  apply List.ext_getElem?
  intro j
  rw [cw_at]
  rcases Nat.lt_trichotomy j ws.length with h | h | h
  · rw [List.getElem?_append_left (by rw [cw_len]; exact h), List.getElem?_append_left h, cw_at]
  · subst h
    rw [List.getElem?_append_right (by rw [cw_len]; exact Nat.le_refl _), List.getElem?_append_right (Nat.le_refl _), cw_len, Nat.sub_self]; rfl
  · rw [List.getElem?_eq_none (by simp [cw_len]; omega), List.getElem?_eq_none (by simp; omega)]; rfl
theorem cw_D (b : Nat) (K : Nat → ClassId) (ws : List va_E) : va_D (fun q => b ≤ q) (cw b K ws) := by
  have key : ∀ (i : Nat) (p : Nat × va_E), (cw b K ws)[i]? = some p → p.1 = b + i := by
    intro i p h
    rw [cw_at] at h
    cases hw : ws[i]? with
    | none => rw [hw] at h; cases h
    | some e => rw [hw] at h; cases h; rfl
  refine ⟨fun i j p q hi hj h => ?_, fun k q hk => ?_⟩
  · have h1 := key i p hi
    have h2 := key j q hj
    omega
  · have h1 := key k q hk
    show b ≤ q.1
    omega
/-- what is known of the locals: none where nothing is -/
def ab_L (b : Nat) (ls : Array Slot) (nL : Nat) (L : List (Option Value)) : Prop := ls.size = nL ∧ lv_wf ls ∧ L.length = nL ∧ ∀ (i : Nat) (v : Value), L[i]? = some (some v) → ls[i]? = some (.val (cv b v)) ∧ v.category = 1
theorem ab_L.get {b : Nat} {ls : Array Slot} {nL : Nat} {L : List (Option Value)} (h : ab_L b ls nL L) {i : Nat} {v : Value} (hi : L[i]? = some (some v)) : ls[i]? = some (.val (cv b v)) := (h.2.2.2 i v hi).1
def ab_lv (b : Nat) (L : List (Option Value)) : List (Nat × Value) := L.zipIdx.filterMap (fun q => q.1.map (fun v => (q.2, cv b v)))
theorem ab_lv_mem {b : Nat} {L : List (Option Value)} {i : Nat} {w : Value} : (i, w) ∈ ab_lv b L ↔ ∃ v, L[i]? = some (some v) ∧ w = cv b v := by
  unfold ab_lv
  rw [List.mem_filterMap]
  constructor
  · rintro ⟨⟨o, j⟩, hm, h⟩
    rw [List.mem_zipIdx_iff_getElem?] at hm
    cases o with
    | none => cases h
    | some v =>
      cases h
      exact ⟨v, hm, rfl⟩
  · rintro ⟨v, h, rfl⟩
    exact ⟨(some v, i), by rw [List.mem_zipIdx_iff_getElem?]; exact h, rfl⟩
theorem ab_L.lv {b : Nat} {ls : Array Slot} {nL : Nat} {L : List (Option Value)} (h : ab_L b ls nL L) : lv_has ls nL (ab_lv b L) := ⟨h.1, h.2.1, fun q hq => by
  obtain ⟨v, h1, h2⟩ := ab_lv_mem.mp hq
  rw [h2]
  exact h.get h1⟩
theorem ab_L.put {b : Nat} {ls ls' : Array Slot} {nL : Nat} {L : List (Option Value)} (h : ab_L b ls nL L) {i : Nat} {v : Value} (hc : v.category = 1) (h' : lv_has ls' nL ((i, cv b v) :: (ab_lv b L).filter (fun q => !(q.1 == i) && !(q.1 + 1 == i && q.2.category == 2)))) : ab_L b ls' nL (L.set i (some v)) := by
  refine ⟨h'.1, h'.2.1, by rw [List.length_set]; exact h.2.2.1, fun j w hj => ?_⟩
  rw [List.getElem?_set] at hj
  by_cases hij : i = j
  · subst hij
    rw [if_pos rfl] at hj
    by_cases hl : i < L.length
    · rw [if_pos hl] at hj
      cases hj
      exact ⟨h'.2.2 _ List.mem_cons_self, hc⟩
    · rw [if_neg hl] at hj
      cases hj
  · rw [if_neg hij] at hj
    have hw := (h.2.2.2 j w hj).2
    refine ⟨h'.2.2 (j, cv b w) (List.mem_cons_of_mem _ (List.mem_filter.mpr ⟨ab_lv_mem.mpr ⟨w, hj, rfl⟩, ?_⟩)), hw⟩
    have h1 : (j == i) = false := beq_false_of_ne (fun e => hij e.symm)
    have h2 : ((cv b w).category == 2) = false := by rw [cv_cat, hw]; rfl
    simp only [h1, h2]
    simp
/-- the tables' words that may be handed on -/
def tk_w : List Cond := lw_tbl.filter goodWord
theorem tk_good (w : List Cond) (y : Cond) (h : ∀ c ∈ w, c ∈ tk_w) (hy : y ∈ tk_w) : GoodIn tk_w (y :: w) := fun c hc => by
  have h1 : c ∈ tk_w := by
    rcases List.mem_cons.mp hc with e | e
    · rw [e]; exact hy
    · exact h c e
  exact ⟨h1, good_of_word (List.mem_filter.mp h1).2⟩
def tk_ty (g : ab_G) : List (ClassId × FieldType) := [(g.2.2 0, .int), (g.2.2 1, .boolean), (g.2.2 2, .long), (g.2.2 3, .double), (g.2.2 4, .array .int)]
/-- what the start of a throw needs of the two statics -/
def tk_X (g : ab_G) (U : State) (H : Heap) : Prop := vx_Zq Bundle.tN "UNASSIGNED_STACK" Bundle.steD (fun q => g.1 ≤ q) U H ∧ vx_Zq Bundle.tN "SUPPRESSED_SENTINEL" Bundle.listD (fun q => g.1 ≤ q) U H
/-- what stands at the entry of a method whose code is cc, of the class own -/
def ab_Ok (X : ab_M) (g : ab_G) (cc : ByteArray) (own : String) : Prop :=
  (xp X).tables.exec = Jvm.exec ∧ (xc X).code = cc ∧ (xs X).vm.findClass own = some (xm X).cls ∧ (∀ w ∈ tk_w, w.before (xa X) (xs X) = true) ∧ va_K g.2.1 vwCl (tk_ty g) (xs X) ∧ g.1 ≤ (xs X).heap.size ∧ (xl X).stackTraces = false ∧ tk_X g (xs X) (xs X).heap ∧ (xt X).locks = false
abbrev ab_A (g : ab_G) : Nat → Prop := fun q => g.1 ≤ q
/-- from here the walk comes to its end -/
def Ab (X : ab_M) (g : ab_G) (cells slots : Nat) (Q : State → Prop) (pc : Nat) (L : List (Option Value)) (st : List Value) (ws : List va_E) : Prop :=
  ∀ (H : Heap) (locs : List Loc) (ls : Array Slot), va_P g.2.1 vwCl (cw g.1 g.2.2 ws) H → va_S (ab_A g) (xs X).heap H locs → ab_L g.1 ls (xc X).maxLocals L →
    W (xp X) (xl X) (xe X) (xR X) (xs X) (xm X) (xa X) (xb X) (xt X) (xc X) H locs cells slots Q (F0 (xm X) pc ls (st.map (cv g.1)))
section ABR
variable {X : ab_M} {g : ab_G} {cells slots : Nat} {Q : State → Prop} {pc : Nat} {L : List (Option Value)} {st : List Value} {ws : List va_E} {cc : ByteArray} {own : String}

theorem ab_iconst (O : ab_Ok X g cc own) {n : Int} (v : Int32) (hd : decode cc pc = .ok (.iconst n, 1)) (hv : Int32.ofInt n = v) (k : Ab X g cells slots Q (pc + 1) L (.int v :: st) ws) : Ab X g cells slots Q pc L st ws := by
  intro H locs ls hP hS hl
  exact lv_iconst O.1 O.2.1 hd hv (k H locs ls hP hS hl)

theorem ab_bipush (O : ab_Ok X g cc own) {n : Int} (v : Int32) (hd : decode cc pc = .ok (.bipush n, 2)) (hv : (Int8.ofInt n).toInt32 = v) (k : Ab X g cells slots Q (pc + 2) L (.int v :: st) ws) : Ab X g cells slots Q pc L st ws := by
  intro H locs ls hP hS hl
  exact lv_bipush O.1 O.2.1 hd hv (k H locs ls hP hS hl)

theorem ab_fconst0 (O : ab_Ok X g cc own) (hd : decode cc pc = .ok (.fconst 0, 1)) (k : Ab X g cells slots Q (pc + 1) L (.float 0 :: st) ws) : Ab X g cells slots Q pc L st ws := by
  intro H locs ls hP hS hl
  exact lv_fconst0 O.1 O.2.1 hd (k H locs ls hP hS hl)

theorem ab_lconst (O : ab_Ok X g cc own) {n : Fin 2} (v : Int64) (hd : decode cc pc = .ok (.lconst n, 1)) (hv : Int64.ofNat n = v) (k : Ab X g cells slots Q (pc + 1) L (.long v :: st) ws) : Ab X g cells slots Q pc L st ws := by
  intro H locs ls hP hS hl
  exact lv_lconst O.1 O.2.1 hd hv (k H locs ls hP hS hl)

theorem ab_iload_n (O : ab_Ok X g cc own) {k0 : Fin 4} (i : Nat) {x : Int32} (hd : decode cc pc = .ok (.iload_n k0, 1)) (hi : (k0 : Nat) = i) (hx : L[i]? = some (some (.int x))) (k : Ab X g cells slots Q (pc + 1) L (.int x :: st) ws) : Ab X g cells slots Q pc L st ws := by
  intro H locs ls hP hS hl
  exact lv_iload_n O.1 O.2.1 hd hi (hl.get hx) (k H locs ls hP hS hl)

theorem ab_iload (O : ab_Ok X g cc own) {i : Nat} {x : Int32} (hd : decode cc pc = .ok (.iload i, 2)) (hx : L[i]? = some (some (.int x))) (k : Ab X g cells slots Q (pc + 2) L (.int x :: st) ws) : Ab X g cells slots Q pc L st ws := by
  intro H locs ls hP hS hl
  exact lv_iload O.1 O.2.1 hd (hl.get hx) (k H locs ls hP hS hl)

theorem ab_istore_n (O : ab_Ok X g cc own) {k0 : Fin 4} (i : Nat) {x : Int32} (hd : decode cc pc = .ok (.istore_n k0, 1)) (hi : (k0 : Nat) = i) (hn : i < L.length) (k : Ab X g cells slots Q (pc + 1) (L.set i (some (.int x))) st ws)  : Ab X g cells slots Q pc L (.int x :: st) ws := by
  intro H locs ls hP hS hl
  exact lv_istore_n O.1 O.2.1 hd hi hl.lv (by rw [← hl.2.2.1]; exact hn) rfl (fun ls2 h2 => k H locs ls2 hP hS (hl.put rfl h2))

theorem ab_istore (O : ab_Ok X g cc own) {i : Nat} {x : Int32} (hd : decode cc pc = .ok (.istore i, 2)) (hn : i < L.length) (k : Ab X g cells slots Q (pc + 2) (L.set i (some (.int x))) st ws)  : Ab X g cells slots Q pc L (.int x :: st) ws := by
  intro H locs ls hP hS hl
  exact lv_istore O.1 O.2.1 hd hl.lv (by rw [← hl.2.2.1]; exact hn) rfl (fun ls2 h2 => k H locs ls2 hP hS (hl.put rfl h2))

theorem ab_aload_n (O : ab_Ok X g cc own) {k0 : Fin 4} (i : Nat) {x : Nat} (hd : decode cc pc = .ok (.aload_n k0, 1)) (hi : (k0 : Nat) = i) (hx : L[i]? = some (some (.ref x))) (k : Ab X g cells slots Q (pc + 1) L (.ref x :: st) ws) : Ab X g cells slots Q pc L st ws := by
  intro H locs ls hP hS hl
  exact lv_aload_n O.1 O.2.1 hd hi (hl.get hx) (k H locs ls hP hS hl)

theorem ab_aload (O : ab_Ok X g cc own) {i : Nat} {x : Nat} (hd : decode cc pc = .ok (.aload i, 2)) (hx : L[i]? = some (some (.ref x))) (k : Ab X g cells slots Q (pc + 2) L (.ref x :: st) ws) : Ab X g cells slots Q pc L st ws := by
  intro H locs ls hP hS hl
  exact lv_aload O.1 O.2.1 hd (hl.get hx) (k H locs ls hP hS hl)

theorem ab_astore_n (O : ab_Ok X g cc own) {k0 : Fin 4} (i : Nat) {x : Nat} (hd : decode cc pc = .ok (.astore_n k0, 1)) (hi : (k0 : Nat) = i) (hn : i < L.length) (k : Ab X g cells slots Q (pc + 1) (L.set i (some (.ref x))) st ws)  : Ab X g cells slots Q pc L (.ref x :: st) ws := by
  intro H locs ls hP hS hl
  exact lv_astore_n O.1 O.2.1 hd hi hl.lv (by rw [← hl.2.2.1]; exact hn) rfl (fun ls2 h2 => k H locs ls2 hP hS (hl.put rfl h2))

theorem ab_astore (O : ab_Ok X g cc own) {i : Nat} {x : Nat} (hd : decode cc pc = .ok (.astore i, 2)) (hn : i < L.length) (k : Ab X g cells slots Q (pc + 2) (L.set i (some (.ref x))) st ws)  : Ab X g cells slots Q pc L (.ref x :: st) ws := by
  intro H locs ls hP hS hl
  exact lv_astore O.1 O.2.1 hd hl.lv (by rw [← hl.2.2.1]; exact hn) rfl (fun ls2 h2 => k H locs ls2 hP hS (hl.put rfl h2))

theorem ab_fload_n (O : ab_Ok X g cc own) {k0 : Fin 4} (i : Nat) {x : UInt32} (hd : decode cc pc = .ok (.fload_n k0, 1)) (hi : (k0 : Nat) = i) (hx : L[i]? = some (some (.float x))) (k : Ab X g cells slots Q (pc + 1) L (.float x :: st) ws) : Ab X g cells slots Q pc L st ws := by
  intro H locs ls hP hS hl
  exact lv_fload_n O.1 O.2.1 hd hi (hl.get hx) (k H locs ls hP hS hl)

theorem ab_fload (O : ab_Ok X g cc own) {i : Nat} {x : UInt32} (hd : decode cc pc = .ok (.fload i, 2)) (hx : L[i]? = some (some (.float x))) (k : Ab X g cells slots Q (pc + 2) L (.float x :: st) ws) : Ab X g cells slots Q pc L st ws := by
  intro H locs ls hP hS hl
  exact lv_fload O.1 O.2.1 hd (hl.get hx) (k H locs ls hP hS hl)

theorem ab_fstore_n (O : ab_Ok X g cc own) {k0 : Fin 4} (i : Nat) {x : UInt32} (hd : decode cc pc = .ok (.fstore_n k0, 1)) (hi : (k0 : Nat) = i) (hn : i < L.length) (k : Ab X g cells slots Q (pc + 1) (L.set i (some (.float x))) st ws)  : Ab X g cells slots Q pc L (.float x :: st) ws := by
  intro H locs ls hP hS hl
  exact lv_fstore_n O.1 O.2.1 hd hi hl.lv (by rw [← hl.2.2.1]; exact hn) rfl (fun ls2 h2 => k H locs ls2 hP hS (hl.put rfl h2))

theorem ab_fstore (O : ab_Ok X g cc own) {i : Nat} {x : UInt32} (hd : decode cc pc = .ok (.fstore i, 2)) (hn : i < L.length) (k : Ab X g cells slots Q (pc + 2) (L.set i (some (.float x))) st ws)  : Ab X g cells slots Q pc L (.float x :: st) ws := by
  intro H locs ls hP hS hl
  exact lv_fstore O.1 O.2.1 hd hl.lv (by rw [← hl.2.2.1]; exact hn) rfl (fun ls2 h2 => k H locs ls2 hP hS (hl.put rfl h2))

theorem ab_iinc (O : ab_Ok X g cc own) {i : Nat} {n : Int} {x : Int32} (v : Int32) (hd : decode cc pc = .ok (.iinc i n, 3)) (hx : L[i]? = some (some (.int x))) (hv : x + Int32.ofInt n = v) (k : Ab X g cells slots Q (pc + 3) (L.set i (some (.int v))) st ws) : Ab X g cells slots Q pc L st ws := by
  intro H locs ls hP hS hl
  have hm : (i, cv g.1 (.int x)) ∈ ab_lv g.1 L := ab_lv_mem.mpr ⟨_, hx, rfl⟩
  obtain ⟨j, hj⟩ := List.getElem?_of_mem hm
  have hn : i < (xc X).maxLocals := by rw [← hl.2.2.1]; exact (List.getElem?_eq_some_iff.mp hx).1
  exact lv_iinc O.1 O.2.1 hd hl.lv hj hv hn rfl (fun ls2 h2 => k H locs ls2 hP hS (hl.put rfl h2))

theorem ab_iadd (O : ab_Ok X g cc own) {x y : Int32} (hd : decode cc pc = .ok (.iadd, 1)) (k : Ab X g cells slots Q (pc + 1) L (.int (x + y) :: st) ws) : Ab X g cells slots Q pc L (.int y :: .int x :: st) ws := by
  intro H locs ls hP hS hl
  exact lv_iadd O.1 O.2.1 hd (k H locs ls hP hS hl)

theorem ab_isub (O : ab_Ok X g cc own) {x y : Int32} (hd : decode cc pc = .ok (.isub, 1)) (k : Ab X g cells slots Q (pc + 1) L (.int (x - y) :: st) ws) : Ab X g cells slots Q pc L (.int y :: .int x :: st) ws := by
  intro H locs ls hP hS hl
  exact lv_isub O.1 O.2.1 hd (k H locs ls hP hS hl)

theorem ab_iand (O : ab_Ok X g cc own) {x y : Int32} (hd : decode cc pc = .ok (.iand, 1)) (k : Ab X g cells slots Q (pc + 1) L (.int (x &&& y) :: st) ws) : Ab X g cells slots Q pc L (.int y :: .int x :: st) ws := by
  intro H locs ls hP hS hl
  exact lv_iand O.1 O.2.1 hd (k H locs ls hP hS hl)

theorem ab_ishr (O : ab_Ok X g cc own) {x y : Int32} (hd : decode cc pc = .ok (.ishr, 1)) (k : Ab X g cells slots Q (pc + 1) L (.int (x >>> (y &&& 31)) :: st) ws) : Ab X g cells slots Q pc L (.int y :: .int x :: st) ws := by
  intro H locs ls hP hS hl
  exact lv_ishr O.1 O.2.1 hd (k H locs ls hP hS hl)

theorem ab_i2f (O : ab_Ok X g cc own) {x : Int32} (hd : decode cc pc = .ok (.i2f, 1)) (k : Ab X g cells slots Q (pc + 1) L (.float (FP.i2f x) :: st) ws) : Ab X g cells slots Q pc L (.int x :: st) ws := by
  intro H locs ls hP hS hl
  exact lv_i2f O.1 O.2.1 hd (k H locs ls hP hS hl)

theorem ab_i2l (O : ab_Ok X g cc own) {x : Int32} (hd : decode cc pc = .ok (.i2l, 1)) (k : Ab X g cells slots Q (pc + 1) L (.long x.toInt64 :: st) ws) : Ab X g cells slots Q pc L (.int x :: st) ws := by
  intro H locs ls hP hS hl
  exact lv_i2l O.1 O.2.1 hd rfl (k H locs ls hP hS hl)

theorem ab_i2c (O : ab_Ok X g cc own) {x : Int32} (hd : decode cc pc = .ok (.i2c, 1)) (k : Ab X g cells slots Q (pc + 1) L (.int (x.toUInt32 % 65536).toInt32 :: st) ws) : Ab X g cells slots Q pc L (.int x :: st) ws := by
  intro H locs ls hP hS hl
  exact lv_i2c O.1 O.2.1 hd rfl (k H locs ls hP hS hl)

theorem ab_fdiv (O : ab_Ok X g cc own) {x y : UInt32} (hd : decode cc pc = .ok (.fdiv, 1)) (hne : vf_n32 (FP.fdiv x y)) (k : Ab X g cells slots Q (pc + 1) L (.float (FP.fdiv x y) :: st) ws) : Ab X g cells slots Q pc L (.float y :: .float x :: st) ws := by
  intro H locs ls hP hS hl
  exact lv_fdiv O.1 O.2.1 hd hne (k H locs ls hP hS hl)

theorem ab_f2d (O : ab_Ok X g cc own) {x : UInt32} (hd : decode cc pc = .ok (.f2d, 1)) (hne : vf_n64 (FP.f2d x)) (k : Ab X g cells slots Q (pc + 1) L (.double (FP.f2d x) :: st) ws) : Ab X g cells slots Q pc L (.float x :: st) ws := by
  intro H locs ls hP hS hl
  exact lv_f2d O.1 O.2.1 hd hne (k H locs ls hP hS hl)

theorem ab_lcmp (O : ab_Ok X g cc own) {x y : Int64} (hd : decode cc pc = .ok (.lcmp, 1)) (k : Ab X g cells slots Q (pc + 1) L (.int (lg_cmp x y) :: st) ws) : Ab X g cells slots Q pc L (.long y :: .long x :: st) ws := by
  intro H locs ls hP hS hl
  exact W.lcmp O.1 O.2.1 hd (k H locs ls hP hS hl)

theorem ab_dcmp (O : ab_Ok X g cc own) {x y : UInt64} {op : CmpOp} (hd : decode cc pc = .ok (.dcmp op, 1)) (k : Ab X g cells slots Q (pc + 1) L (.int (Op.cmpValue (FP.dcmp x y) op) :: st) ws) : Ab X g cells slots Q pc L (.double y :: .double x :: st) ws := by
  intro H locs ls hP hS hl
  exact lv_dcmp O.1 O.2.1 hd (k H locs ls hP hS hl)

theorem ab_fcmp (O : ab_Ok X g cc own) {x y : UInt32} {op : CmpOp} (hd : decode cc pc = .ok (.fcmp op, 1)) (k : Ab X g cells slots Q (pc + 1) L (.int (Op.cmpValue (FP.fcmp x y) op) :: st) ws) : Ab X g cells slots Q pc L (.float y :: .float x :: st) ws := by
  intro H locs ls hP hS hl
  exact lv_fcmp O.1 O.2.1 hd (k H locs ls hP hS hl)

theorem ab_dup (O : ab_Ok X g cc own) {v : Value} (hd : decode cc pc = .ok (.dup, 1)) (hc : v.category = 1) (k : Ab X g cells slots Q (pc + 1) L (v :: v :: st) ws) : Ab X g cells slots Q pc L (v :: st) ws := by
  intro H locs ls hP hS hl
  exact lv_dup O.1 O.2.1 hd (by rw [cv_cat]; exact hc) (k H locs ls hP hS hl)

theorem ab_dup2 (O : ab_Ok X g cc own) {v u : Value} (hd : decode cc pc = .ok (.dup2, 1)) (hc : v.category = 1) (hu : u.category = 1) (k : Ab X g cells slots Q (pc + 1) L (v :: u :: v :: u :: st) ws) : Ab X g cells slots Q pc L (v :: u :: st) ws := by
  intro H locs ls hP hS hl
  exact lv_dup2_11 O.1 O.2.1 hd (by rw [cv_cat]; exact hc) (by rw [cv_cat]; exact hu) (k H locs ls hP hS hl)

theorem ab_pop (O : ab_Ok X g cc own) {v : Value} (hd : decode cc pc = .ok (.pop, 1)) (hc : v.category = 1) (k : Ab X g cells slots Q (pc + 1) L st ws) : Ab X g cells slots Q pc L (v :: st) ws := by
  intro H locs ls hP hS hl
  exact lv_pop O.1 O.2.1 hd (by rw [cv_cat]; exact hc) (k H locs ls hP hS hl)

theorem ab_goto (O : ab_Ok X g cc own) {off : Int} (tgt : Nat) (hd : decode cc pc = .ok (.goto off, 3)) (ht : (pc : Int) + off = (tgt : Int)) (k : Ab X g cells slots Q tgt L st ws) : Ab X g cells slots Q pc L st ws := by
  intro H locs ls hP hS hl
  exact lv_goto O.1 O.2.1 hd ht (k H locs ls hP hS hl)

theorem ab_if_eq (O : ab_Ok X g cc own) {x : Int32} {off : Int} (tgt : Nat) (hd : decode cc pc = .ok (.ifCond .eq off, 3)) (ht : (pc : Int) + off = (tgt : Int)) (kt : x = 0 → Ab X g cells slots Q tgt L st ws) (kf : ¬ x = 0 → Ab X g cells slots Q (pc + 3) L st ws) : Ab X g cells slots Q pc L (.int x :: st) ws := by
  intro H locs ls hP hS hl
  exact lv_if_eq O.1 O.2.1 hd ht (fun h => kt h H locs ls hP hS hl) (fun h => kf h H locs ls hP hS hl)

theorem ab_icmp_eq (O : ab_Ok X g cc own) {x y : Int32} {off : Int} (tgt : Nat) (hd : decode cc pc = .ok (.if_icmp .eq off, 3)) (ht : (pc : Int) + off = (tgt : Int)) (kt : x = y → Ab X g cells slots Q tgt L st ws) (kf : ¬ x = y → Ab X g cells slots Q (pc + 3) L st ws) : Ab X g cells slots Q pc L (.int y :: .int x :: st) ws := by
  intro H locs ls hP hS hl
  exact lv_icmp_eq O.1 O.2.1 hd ht (fun h => kt h H locs ls hP hS hl) (fun h => kf h H locs ls hP hS hl)

theorem ab_if_ne (O : ab_Ok X g cc own) {x : Int32} {off : Int} (tgt : Nat) (hd : decode cc pc = .ok (.ifCond .ne off, 3)) (ht : (pc : Int) + off = (tgt : Int)) (kt : ¬ x = 0 → Ab X g cells slots Q tgt L st ws) (kf : x = 0 → Ab X g cells slots Q (pc + 3) L st ws) : Ab X g cells slots Q pc L (.int x :: st) ws := by
  intro H locs ls hP hS hl
  exact lv_if_ne O.1 O.2.1 hd ht (fun h => kt h H locs ls hP hS hl) (fun h => kf h H locs ls hP hS hl)

theorem ab_icmp_ne (O : ab_Ok X g cc own) {x y : Int32} {off : Int} (tgt : Nat) (hd : decode cc pc = .ok (.if_icmp .ne off, 3)) (ht : (pc : Int) + off = (tgt : Int)) (kt : ¬ x = y → Ab X g cells slots Q tgt L st ws) (kf : x = y → Ab X g cells slots Q (pc + 3) L st ws) : Ab X g cells slots Q pc L (.int y :: .int x :: st) ws := by
  intro H locs ls hP hS hl
  exact lv_icmp_ne O.1 O.2.1 hd ht (fun h => kt h H locs ls hP hS hl) (fun h => kf h H locs ls hP hS hl)

theorem ab_if_lt (O : ab_Ok X g cc own) {x : Int32} {off : Int} (tgt : Nat) (hd : decode cc pc = .ok (.ifCond .lt off, 3)) (ht : (pc : Int) + off = (tgt : Int)) (kt : x < 0 → Ab X g cells slots Q tgt L st ws) (kf : ¬ x < 0 → Ab X g cells slots Q (pc + 3) L st ws) : Ab X g cells slots Q pc L (.int x :: st) ws := by
  intro H locs ls hP hS hl
  exact lv_if_lt O.1 O.2.1 hd ht (fun h => kt h H locs ls hP hS hl) (fun h => kf h H locs ls hP hS hl)

theorem ab_icmp_lt (O : ab_Ok X g cc own) {x y : Int32} {off : Int} (tgt : Nat) (hd : decode cc pc = .ok (.if_icmp .lt off, 3)) (ht : (pc : Int) + off = (tgt : Int)) (kt : x < y → Ab X g cells slots Q tgt L st ws) (kf : ¬ x < y → Ab X g cells slots Q (pc + 3) L st ws) : Ab X g cells slots Q pc L (.int y :: .int x :: st) ws := by
  intro H locs ls hP hS hl
  exact lv_icmp_lt O.1 O.2.1 hd ht (fun h => kt h H locs ls hP hS hl) (fun h => kf h H locs ls hP hS hl)

theorem ab_if_ge (O : ab_Ok X g cc own) {x : Int32} {off : Int} (tgt : Nat) (hd : decode cc pc = .ok (.ifCond .ge off, 3)) (ht : (pc : Int) + off = (tgt : Int)) (kt : 0 ≤ x → Ab X g cells slots Q tgt L st ws) (kf : ¬ 0 ≤ x → Ab X g cells slots Q (pc + 3) L st ws) : Ab X g cells slots Q pc L (.int x :: st) ws := by
  intro H locs ls hP hS hl
  exact lv_if_ge O.1 O.2.1 hd ht (fun h => kt h H locs ls hP hS hl) (fun h => kf h H locs ls hP hS hl)

theorem ab_icmp_ge (O : ab_Ok X g cc own) {x y : Int32} {off : Int} (tgt : Nat) (hd : decode cc pc = .ok (.if_icmp .ge off, 3)) (ht : (pc : Int) + off = (tgt : Int)) (kt : y ≤ x → Ab X g cells slots Q tgt L st ws) (kf : ¬ y ≤ x → Ab X g cells slots Q (pc + 3) L st ws) : Ab X g cells slots Q pc L (.int y :: .int x :: st) ws := by
  intro H locs ls hP hS hl
  exact lv_icmp_ge O.1 O.2.1 hd ht (fun h => kt h H locs ls hP hS hl) (fun h => kf h H locs ls hP hS hl)

theorem ab_if_gt (O : ab_Ok X g cc own) {x : Int32} {off : Int} (tgt : Nat) (hd : decode cc pc = .ok (.ifCond .gt off, 3)) (ht : (pc : Int) + off = (tgt : Int)) (kt : 0 < x → Ab X g cells slots Q tgt L st ws) (kf : ¬ 0 < x → Ab X g cells slots Q (pc + 3) L st ws) : Ab X g cells slots Q pc L (.int x :: st) ws := by
  intro H locs ls hP hS hl
  exact lv_if_gt O.1 O.2.1 hd ht (fun h => kt h H locs ls hP hS hl) (fun h => kf h H locs ls hP hS hl)

theorem ab_icmp_gt (O : ab_Ok X g cc own) {x y : Int32} {off : Int} (tgt : Nat) (hd : decode cc pc = .ok (.if_icmp .gt off, 3)) (ht : (pc : Int) + off = (tgt : Int)) (kt : y < x → Ab X g cells slots Q tgt L st ws) (kf : ¬ y < x → Ab X g cells slots Q (pc + 3) L st ws) : Ab X g cells slots Q pc L (.int y :: .int x :: st) ws := by
  intro H locs ls hP hS hl
  exact lv_icmp_gt O.1 O.2.1 hd ht (fun h => kt h H locs ls hP hS hl) (fun h => kf h H locs ls hP hS hl)

theorem ab_if_le (O : ab_Ok X g cc own) {x : Int32} {off : Int} (tgt : Nat) (hd : decode cc pc = .ok (.ifCond .le off, 3)) (ht : (pc : Int) + off = (tgt : Int)) (kt : x ≤ 0 → Ab X g cells slots Q tgt L st ws) (kf : ¬ x ≤ 0 → Ab X g cells slots Q (pc + 3) L st ws) : Ab X g cells slots Q pc L (.int x :: st) ws := by
  intro H locs ls hP hS hl
  exact lv_if_le O.1 O.2.1 hd ht (fun h => kt h H locs ls hP hS hl) (fun h => kf h H locs ls hP hS hl)

theorem ab_icmp_le (O : ab_Ok X g cc own) {x y : Int32} {off : Int} (tgt : Nat) (hd : decode cc pc = .ok (.if_icmp .le off, 3)) (ht : (pc : Int) + off = (tgt : Int)) (kt : x ≤ y → Ab X g cells slots Q tgt L st ws) (kf : ¬ x ≤ y → Ab X g cells slots Q (pc + 3) L st ws) : Ab X g cells slots Q pc L (.int y :: .int x :: st) ws := by
  intro H locs ls hP hS hl
  exact lv_icmp_le O.1 O.2.1 hd ht (fun h => kt h H locs ls hP hS hl) (fun h => kf h H locs ls hP hS hl)

/-- a field's link, at the place index of own's pool: the field k of the class ci -/
def fl_ok (own : String) (index ci k : Nat) (C : String) (T : u_T) (N : Nat) : Prop := vwCl[ci]? = some (C, T, N) ∧ k < N ∧ Cond.fieldLink own index (T k).1 (T k).2.1 (T k).2.2.1 ∈ tk_w ∧ ∀ w ∈ u_ws C T N, w ∈ tk_w
def cl_ok (T : u_T) (N : Nat) (ty : Nat → FieldType) : Prop := (∀ k, k < N → parseFieldDescriptor (T k).2.2.1 = some (ty k)) ∧ ∀ a, a < N → ∀ b, b < N → a ≠ b → (T a).2.1 ≠ (T b).2.1
theorem cw_fs {b k : Nat} {fs : List Value} {v : Value} (h : fs[k]? = some v) : (fs.map (cv b))[k]? = some (cv b v) := by rw [List.getElem?_map, h]; rfl
theorem ab_get (O : ab_Ok X g cc own) {index i ci k N : Nat} {C : String} {T : u_T} {fs : List Value} {v : Value} (F : fl_ok own index ci k C T N) (hd : decode cc pc = .ok (.getfield index, 3)) (he : ws[i]? = some (.inr (ci, fs))) (hv : fs[k]? = some v) (kk : Ab X g cells slots Q (pc + 3) L (v :: st) ws) : Ab X g cells slots Q pc L (.ref i :: st) ws := by
  intro H locs ls hP hS hl
  exact va_get O.1 O.2.1 O.2.2.2.1 F.2.2.2 O.2.2.1 O.2.2.2.2.1 hP i (cw_get he) F.1 k F.2.1 (O.2.2.2.1 _ F.2.2.1) (fun _ h => h) (cw_fs hv) hd (kk H locs ls hP hS hl)

theorem ab_put (O : ab_Ok X g cc own) {index i ci k N : Nat} {C : String} {T : u_T} {ty0 : Nat → FieldType} {fs : List Value} {v : Value} (F : fl_ok own index ci k C T N) (E : cl_ok T N ty0) (hd : decode cc pc = .ok (.putfield index, 3)) (he : ws[i]? = some (.inr (ci, fs))) (hfin : (T k).2.2.2 = false) (ty : FieldType) (hty : parseFieldDescriptor (T k).2.2.1 = some ty) (hn : ∀ b, narrow ty (cv b v) = cv b v) (hf : ∀ b, fits ty (cv b v) = true) (hk : k < fs.length) (kk : Ab X g cells slots Q (pc + 3) L st (ws.set i (.inr (ci, fs.set k v)))) : Ab X g cells slots Q pc L (v :: .ref i :: st) ws := by
  intro H locs ls hP hS hl
  refine va_put O.1 O.2.1 O.2.2.2.1 F.2.2.2 ty0 E.1 E.2 O.2.2.1 O.2.2.2.2.1 hP (cw_D _ _ _) hS i (cw_get he) F.1 k F.2.1 (O.2.2.2.1 _ F.2.2.1) (fun _ h => h) hfin hty (hn _) (hf _) (by rw [List.length_map]; exact hk) hd (fun H1 locs1 hP1 hD1 hS1 => ?_)
  have e1 : (fs.map (cv g.1)).set k (cv g.1 v) = (fs.set k v).map (cv g.1) := by rw [List.map_set]
  rw [e1] at hP1
  have e2 : (cw g.1 g.2.2 ws).set i (g.1 + i, .inr (ci, (fs.set k v).map (cv g.1))) = cw g.1 g.2.2 (ws.set i (.inr (ci, fs.set k v))) := cw_set (e := .inr (ci, fs.set k v))
  rw [e2] at hP1
  exact kk H1 locs1 ls hP1 hS1 hl

theorem ab_putF (O : ab_Ok X g cc own) {index i ci k N : Nat} {C : String} {T : u_T} {ty0 : Nat → FieldType} {fs : List Value} {v : Value} (F : fl_ok own index ci k C T N) (E : cl_ok T N ty0) (hd : decode cc pc = .ok (.putfield index, 3)) (he : ws[i]? = some (.inr (ci, fs))) (hfin : (T k).2.2.2 = true) (hin : (xt X).name = "<init>") (hdecl : (T k).1 = own) (ty : FieldType) (hty : parseFieldDescriptor (T k).2.2.1 = some ty) (hn : ∀ b, narrow ty (cv b v) = cv b v) (hf : ∀ b, fits ty (cv b v) = true) (hk : k < fs.length) (kk : Ab X g cells slots Q (pc + 3) L st (ws.set i (.inr (ci, fs.set k v)))) : Ab X g cells slots Q pc L (v :: .ref i :: st) ws := by
  intro H locs ls hP hS hl
  refine va_putF O.1 O.2.1 O.2.2.2.1 F.2.2.2 ty0 E.1 E.2 O.2.2.1 O.2.2.2.2.1 hP (cw_D _ _ _) hS i (cw_get he) F.1 k F.2.1 (O.2.2.2.1 _ F.2.2.1) (fun _ h => h) hfin hin hdecl hty (hn _) (hf _) (by rw [List.length_map]; exact hk) hd (fun H1 locs1 hP1 hD1 hS1 => ?_)
  have e1 : (fs.map (cv g.1)).set k (cv g.1 v) = (fs.set k v).map (cv g.1) := by rw [List.map_set]
  rw [e1] at hP1
  have e2 : (cw g.1 g.2.2 ws).set i (g.1 + i, .inr (ci, (fs.set k v).map (cv g.1))) = cw g.1 g.2.2 (ws.set i (.inr (ci, fs.set k v))) := cw_set (e := .inr (ci, fs.set k v))
  rw [e2] at hP1
  exact kk H1 locs1 ls hP1 hS1 hl

theorem ab_iald (O : ab_Ok X g cc own) {i n : Nat} {f : Nat → Int32} {j : Int32} (hd : decode cc pc = .ok (.iaload, 1)) (he : ws[i]? = some (.inl (0, n, .inl f))) (hin : vp_in j n) (k : Ab X g cells slots Q (pc + 1) L (.int (f j.toNatClampNeg) :: st) ws) : Ab X g cells slots Q pc L (.int j :: .ref i :: st) ws := by
  intro H locs ls hP hS hl
  exact va_iald O.1 O.2.1 O.2.2.2.2.1 hP i 0 (cw_get he) rfl hin hd (k H locs ls hP hS hl)

theorem ab_zald (O : ab_Ok X g cc own) {i n : Nat} {f : Nat → Int32} {j : Int32} (hd : decode cc pc = .ok (.baload, 1)) (he : ws[i]? = some (.inl (1, n, .inl f))) (hin : vp_in j n) (k : Ab X g cells slots Q (pc + 1) L (.int (f j.toNatClampNeg) :: st) ws) : Ab X g cells slots Q pc L (.int j :: .ref i :: st) ws := by
  intro H locs ls hP hS hl
  exact va_zald O.1 O.2.1 O.2.2.2.2.1 hP i 1 (cw_get he) rfl hin hd (k H locs ls hP hS hl)

theorem ab_lald (O : ab_Ok X g cc own) {i n : Nat} {f : Nat → Int64} {j : Int32} (hd : decode cc pc = .ok (.laload, 1)) (he : ws[i]? = some (.inl (2, n, .inr (.inl f)))) (hin : vp_in j n) (k : Ab X g cells slots Q (pc + 1) L (.long (f j.toNatClampNeg) :: st) ws) : Ab X g cells slots Q pc L (.int j :: .ref i :: st) ws := by
  intro H locs ls hP hS hl
  exact va_lald O.1 O.2.1 O.2.2.2.2.1 hP i 2 (cw_get he) rfl hin hd (k H locs ls hP hS hl)

theorem ab_dald (O : ab_Ok X g cc own) {i n : Nat} {f : Nat → UInt64} {j : Int32} (hd : decode cc pc = .ok (.daload, 1)) (he : ws[i]? = some (.inl (3, n, .inr (.inr (.inr (.inl f)))))) (hin : vp_in j n) (k : Ab X g cells slots Q (pc + 1) L (.double (f j.toNatClampNeg) :: st) ws) : Ab X g cells slots Q pc L (.int j :: .ref i :: st) ws := by
  intro H locs ls hP hS hl
  exact va_dald O.1 O.2.1 O.2.2.2.2.1 hP i 3 (cw_get he) rfl hin hd (k H locs ls hP hS hl)

theorem ab_aald (O : ab_Ok X g cc own) {i n r : Nat} {f : Nat → Option Nat} {j : Int32} (hd : decode cc pc = .ok (.aaload, 1)) (he : ws[i]? = some (.inl (4, n, .inr (.inr (.inr (.inr f)))))) (hin : vp_in j n) (hr : f j.toNatClampNeg = some r) (k : Ab X g cells slots Q (pc + 1) L (.ref r :: st) ws) : Ab X g cells slots Q pc L (.int j :: .ref i :: st) ws := by
  intro H locs ls hP hS hl
  have hlt : j.toNatClampNeg < n := Nat.not_le.mp fun q => hin (Or.inr q)
  have ha := hP i _ (cw_get he)
  refine W.aald (v := .ref (g.1 + r)) (ty := .array .int) O.1 O.2.1 ha ((O.2.2.2.2.1.2 4 _ rfl).1 n (fun j => va_rf ((f j).map (fun i => g.1 + i)))) rfl (fun q => by cases q) (by show ¬ (j < 0 ∨ (arrV _ _ _).slots.size ≤ _); rw [arrV_size]; exact hin) (by show (arrV _ _ _).slots[_]? = _; rw [arrV_read _ _ hlt]; show some (va_rf ((f j.toNatClampNeg).map _)) = _; rw [hr]; rfl) rfl rfl hd (k H locs ls hP hS hl)

theorem ab_iast (O : ab_Ok X g cc own) {i n : Nat} {f : Nat → Int32} {j : Int32} {x : Int32} (hd : decode cc pc = .ok (.iastore, 1)) (he : ws[i]? = some (.inl (0, n, .inl f))) (hin : vp_in j n) (kk : Ab X g cells slots Q (pc + 1) L st (ws.set i (.inl (0, n, .inl (upd f j.toNatClampNeg x))))) : Ab X g cells slots Q pc L (.int x :: .int j :: .ref i :: st) ws := by
  intro H locs ls hP hS hl
  refine va_iast O.1 O.2.1 O.2.2.2.2.1 hP (cw_D _ _ _) hS i 0 (cw_get he) rfl hin hd (fun H1 locs1 hP1 hD1 hS1 => ?_)
  have e2 : (cw g.1 g.2.2 ws).set i (g.1 + i, ce g.1 g.2.2 (.inl (0, n, .inl (upd f j.toNatClampNeg x)))) = _ := cw_set
  exact kk H1 locs1 ls (e2 ▸ hP1) hS1 hl

theorem ab_zast (O : ab_Ok X g cc own) {i n : Nat} {f : Nat → Int32} {j : Int32} {x : Int32} (hd : decode cc pc = .ok (.bastore, 1)) (he : ws[i]? = some (.inl (1, n, .inl f))) (hin : vp_in j n) (kk : Ab X g cells slots Q (pc + 1) L st (ws.set i (.inl (1, n, .inl (upd f j.toNatClampNeg (vp_nar .boolean x)))))) : Ab X g cells slots Q pc L (.int x :: .int j :: .ref i :: st) ws := by
  intro H locs ls hP hS hl
  refine va_zast O.1 O.2.1 O.2.2.2.2.1 hP (cw_D _ _ _) hS i 1 (cw_get he) rfl hin hd (fun H1 locs1 hP1 hD1 hS1 => ?_)
  have e2 : (cw g.1 g.2.2 ws).set i (g.1 + i, ce g.1 g.2.2 (.inl (1, n, .inl (upd f j.toNatClampNeg (vp_nar .boolean x))))) = _ := cw_set
  exact kk H1 locs1 ls (e2 ▸ hP1) hS1 hl

theorem ab_last (O : ab_Ok X g cc own) {i n : Nat} {f : Nat → Int64} {j : Int32} {x : Int64} (hd : decode cc pc = .ok (.lastore, 1)) (he : ws[i]? = some (.inl (2, n, .inr (.inl f)))) (hin : vp_in j n) (kk : Ab X g cells slots Q (pc + 1) L st (ws.set i (.inl (2, n, .inr (.inl (vp_updL f j.toNatClampNeg x)))))) : Ab X g cells slots Q pc L (.long x :: .int j :: .ref i :: st) ws := by
  intro H locs ls hP hS hl
  refine va_last O.1 O.2.1 O.2.2.2.2.1 hP (cw_D _ _ _) hS i 2 (cw_get he) rfl hin hd (fun H1 locs1 hP1 hD1 hS1 => ?_)
  have e2 : (cw g.1 g.2.2 ws).set i (g.1 + i, ce g.1 g.2.2 (.inl (2, n, .inr (.inl (vp_updL f j.toNatClampNeg x))))) = _ := cw_set
  exact kk H1 locs1 ls (e2 ▸ hP1) hS1 hl

theorem ab_dast (O : ab_Ok X g cc own) {i n : Nat} {f : Nat → UInt64} {j : Int32} {x : UInt64} (hd : decode cc pc = .ok (.dastore, 1)) (he : ws[i]? = some (.inl (3, n, .inr (.inr (.inr (.inl f)))))) (hin : vp_in j n) (kk : Ab X g cells slots Q (pc + 1) L st (ws.set i (.inl (3, n, .inr (.inr (.inr (.inl (vf_upd f j.toNatClampNeg x)))))))) : Ab X g cells slots Q pc L (.double x :: .int j :: .ref i :: st) ws := by
  intro H locs ls hP hS hl
  refine va_dast O.1 O.2.1 O.2.2.2.2.1 hP (cw_D _ _ _) hS i 3 (cw_get he) rfl hin hd (fun H1 locs1 hP1 hD1 hS1 => ?_)
  have e2 : (cw g.1 g.2.2 ws).set i (g.1 + i, ce g.1 g.2.2 (.inl (3, n, .inr (.inr (.inr (.inl (vf_upd f j.toNatClampNeg x))))))) = _ := cw_set
  exact kk H1 locs1 ls (e2 ▸ hP1) hS1 hl

theorem ab_alen (O : ab_Ok X g cc own) {i n : Nat} {f : Nat → Int32} {v : Int32} (hd : decode cc pc = .ok (.arraylength, 1)) (he : ws[i]? = some (.inl (0, n, .inl f))) (hv : Int32.ofNat n = v) (k : Ab X g cells slots Q (pc + 1) L (.int v :: st) ws) : Ab X g cells slots Q pc L (.ref i :: st) ws := by
  intro H locs ls hP hS hl
  exact va_alen O.1 O.2.1 O.2.2.2.2.1 hP i 0 (cw_get he) rfl hv hd (k H locs ls hP hS hl)

theorem ab_max (O : ab_Ok X g cc own) {index : Nat} {x y : Int32} (hd : decode cc pc = .ok (.invokestatic index, 3)) (hlink : Cond.methodLink own index Lib.Math.max.name ∈ tk_w) (hstat : Cond.static Lib.Math.max.name ∈ tk_w) (hini : Cond.initialized "java/lang/Math" ∈ tk_w) (hcode : Cond.code Lib.Math.max.name Lib.Math.max.code 2 (some .int) ∈ tk_w) (hfr : 1 ≤ (xR X).frames) (hlo : (st.map fun v => v.category).sum + 13 ≤ (xR X).locals) (hc : cells ≤ (xR X).cells) (hs : slots ≤ (xR X).slots) (k : Ab X g cells slots Q (pc + 3) L (.int (if x < y then y else x) :: st) ws) : Ab X g cells slots Q pc L (.int y :: .int x :: st) ws := by
  intro H locs ls hP hS hl
  have ec : ((st.map (cv g.1)).map fun v => v.category) = st.map fun v => v.category := by rw [List.map_map]; exact List.map_congr_left (fun v _ => cv_cat _ v)
  exact va_mmax O.1 O.2.1 hl.1.symm O.2.2.1 (O.2.2.2.1 _ hlink) (O.2.2.2.1 _ hstat) (O.2.2.2.1 _ hini) (O.2.2.2.1 _ hcode) hfr (by rw [ec]; exact hlo) hc hs hd (k H locs ls hP hS hl)

theorem ab_widen {c2 s2 : Nat} (h1 : cells ≤ c2) (h2 : slots ≤ s2) (k : Ab X g c2 s2 Q pc L st ws) : Ab X g cells slots Q pc L st ws := fun H locs ls hP hS hl => W.widen h1 h2 (k H locs ls hP hS hl)
theorem ab_eq {pc2 : Nat} {L2 : List (Option Value)} {st2 : List Value} {ws2 : List va_E} (h : Ab X g cells slots Q pc2 L2 st2 ws2) (e1 : pc2 = pc) (e2 : L2 = L) (e3 : st2 = st) (e4 : ws2 = ws) : Ab X g cells slots Q pc L st ws := by
  subst e1; subst e2; subst e3; subst e4; exact h
end ABR
end
section
/-! CONTRACTS over numbered cells -/
def tk_rm (d mc ms : Nat) : Room := { frames := d, cells := mc, slots := ms, locals := 36 * d }
/-- the strings that the class's throws load -/
def tk_S (strs : List (String × Nat × String)) (U : State) : Prop := ∀ q ∈ strs, ∃ sa : Nat, vk_R q.1 q.2.1 q.2.2 sa U
/-- a method's start: fr: nothing stands in the heap behind the cells -/
def tk_P (g : ab_G) (strs : List (String × Nat × String)) (fr : Prop) (ws : List va_E) : State → Prop := fun U => va_P g.2.1 vwCl (cw g.1 g.2.2 ws) U.heap ∧ (fr → U.heap.size = g.1 + ws.length) ∧ va_K g.2.1 vwCl (tk_ty g) U ∧ g.1 ≤ U.heap.size ∧ tk_X g U U.heap ∧ tk_S strs U
def tk_B (g : ab_G) (ws : List va_E) (t : State) : Prop := va_P g.2.1 vwCl (cw g.1 g.2.2 ws) t.heap
/-- its end where it throws -/
def tk_E (g : ab_G) (px : String → List va_E → Prop) : String → State → State → Prop := vx_X (fun _ : List va_E => True) (fun E u t => px E u ∧ tk_B g u t) (ab_A g)
abbrev tk_I (g : ab_G) (post : Int32 → List va_E → Prop) : Array Value → State → Outcome → State → Prop := va_Qi post (tk_B g) (ab_A g)
abbrev tk_V (g : ab_G) (post : List va_E → Prop) : Array Value → State → Outcome → State → Prop := va_Qv post (tk_B g) (ab_A g)
abbrev tk_F (g : ab_G) (post : UInt32 → List va_E → Prop) : Array Value → State → Outcome → State → Prop := va_Qf post (tk_B g) (ab_A g)
/-- a method's contract: depth d, at most mc cells of ms slots made -/
def Ct (l : Launch) (g : ab_G) (strs : List (String × Nat × String)) (fr : Prop) (d mc ms : Nat) (y : MethodName) (cc : ByteArray) (nL : Nat) (ret : Option FieldType) (args : List Value) (ws : List va_E) (Qc : Array Value → State → Outcome → State → Prop) (px : String → List va_E → Prop) : Prop :=
  vx_Met l y (.code y cc nL ret :: tk_w) (tk_rm d mc ms) (va_Pc (args.map (cv g.1)) (tk_P g strs fr ws)) Qc (tk_E g px) mc ms (ab_A g)
/-- the end that a walk owes -/
def tk_Q (X : ab_M) (g : ab_G) (Qc : Array Value → State → Outcome → State → Prop) (px : String → List va_E → Prop) (mc ms : Nat) : State → Prop := vx_MQ (xb X) Qc (tk_E g px) (xa X) (xs X) mc ms (ab_A g)
/-- what a walk knows of its own frame -/
def ab_I (X : ab_M) (l : Launch) (strs : List (String × Nat × String)) (nL : Nat) (ret : Option FieldType) (name : String) (d mc ms : Nat) : Prop :=
  xl X = l ∧ xR X = tk_rm d mc ms ∧ (xc X).maxLocals = nL ∧ (xt X).sig.returnType = ret ∧ (xt X).name = name ∧ (∀ x ∈ (xc X).exceptionTable.toList, False) ∧ tk_S strs (xs X)
theorem lv_args_at : ∀ (vs : List Value) (k i : Nat) (v : Value), (∀ u ∈ vs, u.category = 1) → vs[i]? = some v → (k + i, v) ∈ lv_args k vs
  | [], _, _, _, _, h => by simp at h
  | u :: vs, k, 0, v, _, h => by
    simp at h
    subst h
    exact List.mem_cons_self
  | u :: vs, k, i + 1, v, hc, h => by
    have h1 : u.category = 1 := hc u List.mem_cons_self
    have h2 := lv_args_at vs (k + 1) i v (fun x hx => hc x (List.mem_cons_of_mem _ hx)) (by simpa using h)
    have e : k + (i + 1) = k + 1 + i := by omega
    rw [e]
    refine List.mem_cons_of_mem _ ?_
    rw [if_neg (by rw [h1]; decide)]
    exact h2
theorem lg_sl_len : ∀ (vs : List Value), (∀ u ∈ vs, u.category = 1) → (lg_sl vs).length = vs.length
  | [], _ => rfl
  | u :: vs, hc => by
    have h1 : u.category = 1 := hc u List.mem_cons_self
    have h2 := lg_sl_len vs (fun x hx => hc x (List.mem_cons_of_mem _ hx))
    cases u <;> first | (exact absurd h1 (show ¬ (2 : Nat) = 1 by decide)) | (show (lg_sl vs).length + 1 = vs.length + 1; rw [h2])
theorem tk_S.moved {strs : List (String × Nat × String)} {u U : State} (hW : u.WarmedH U.vm) (h : tk_S strs u) : tk_S strs U := fun q hq => by
  obtain ⟨sa, h1⟩ := h q hq
  exact ⟨sa, h1.warm hW⟩
/-- into a method -/
theorem ct_in {l : Launch} {g : ab_G} {strs : List (String × Nat × String)} {fr : Prop} {d mc ms : Nat} {y : MethodName} {cc : ByteArray} {nL : Nat} {ret : Option FieldType} {args : List Value} {ws : List va_E} {Qc : Array Value → State → Outcome → State → Prop} {px : String → List va_E → Prop}
    (hy : plainName y.cls = true) (hn : args.length ≤ nL) (hc : ∀ u ∈ args, u.category = 1) (hl : l.stackTraces = false)
    (body : ∀ X : ab_M, ab_I X l strs nL ret y.name d mc ms → ab_Ok X g cc y.cls → (fr → (xs X).heap.size = g.1 + ws.length) → Ab X g 0 0 (tk_Q X g Qc px mc ms) 0 (args.map some ++ List.replicate (nL - args.length) none) [] ws) :
    Ct l g strs fr d mc ms y cc nL ret args ws Qc px := by
  refine vx_ofW (cc := cc) (maxL := nL) (ret := ret) hy rfl ?_
  intro p e s m a below meth c s₁ B hml hno hv
  obtain ⟨rfl, hP, hz, hK, hb, hX, hS⟩ := hv
  have hts := atoms_spec (ws := Cond.code y cc nL ret :: tk_w) B.pre
  have hcv : ∀ u ∈ args.map (cv g.1), u.category = 1 := fun u hu => by
    obtain ⟨v, hv, rfl⟩ := List.mem_map.mp hu
    rw [cv_cat]; exact hc v hv
  have hlen : (lg_sl (args.map (cv g.1))).length ≤ nL := by rw [lg_sl_len _ hcv, List.length_map]; exact hn
  have hL := lv_entry (args.map (cv g.1)) (n := nL) hlen
  rw [lg_entry_eq]
  have k := body (p, l, e, (headSpec (Cond.code y cc nL ret :: tk_w) (tk_rm d mc ms)).room, s, m, (args.map (cv g.1)).toArray, below, meth, c)
    ⟨rfl, rfl, hml, B.returns, (name_of_methodNamed B.named B.method).1, hno, hS⟩
    ⟨B.exec, B.bytes, findClass_of_methodNamed B.named, fun w hw => hts w (List.mem_cons_of_mem _ hw), hK, hb, hl, hX, B.notSynchronized⟩ hz
  refine k s.heap [] _ hP va_S.rf ⟨hL.1.trans hml.symm, hL.2.1, ?_, fun i v hi => ?_⟩
  · show _ = c.maxLocals
    rw [hml, List.length_append, List.length_map, List.length_replicate]; omega
  · by_cases hil : i < args.length
    · rw [List.getElem?_append_left (by rw [List.length_map]; exact hil), List.getElem?_map] at hi
      cases ha : args[i]? with
      | none => rw [ha] at hi; cases hi
      | some u =>
        rw [ha] at hi
        cases hi
        have h1 : (args.map (cv g.1))[i]? = some (cv g.1 v) := by rw [List.getElem?_map, ha]; rfl
        have h2 := lv_args_at (args.map (cv g.1)) 0 i _ hcv h1
        rw [Nat.zero_add] at h2
        exact ⟨hL.2.2 _ h2, hc v (List.mem_of_getElem? ha)⟩
    · rw [List.getElem?_append_right (by rw [List.length_map]; omega), List.getElem?_replicate] at hi
      split at hi <;> cases hi
section ABC
variable {X : ab_M} {g : ab_G} {cells slots : Nat} {pc : Nat} {L : List (Option Value)} {st : List Value} {ws : List va_E} {cc : ByteArray} {own : String} {Q : State → Prop}
variable {l : Launch} {strs : List (String × Nat × String)} {nL : Nat} {ret : Option FieldType} {name : String} {d mc ms : Nat} {px : String → List va_E → Prop}
theorem ab_ireturn {post : Int32 → List va_E → Prop} {ty : FieldType} {v : Int32} (O : ab_Ok X g cc own) (I : ab_I X l strs nL (some ty) name d mc ms) (hd : decode cc pc = .ok (.ireturn, 1)) (hc : cells ≤ mc) (hs : slots ≤ ms) (hn : narrow ty (.int v) = .int v) (hp : post v ws) : Ab X g cells slots (tk_Q X g (tk_I g post) px mc ms) pc L [.int v] ws := by
  intro H locs ls hP hS hl
  refine W.widen hc hs ?_
  refine vx_ret ?_
  exact W.zret (v := v) O.1 O.2.1 I.2.2.2.1 hn (fun t ht hW => ⟨⟨v, ws, rfl, hp, by show va_P _ _ _ t.heap; rw [ht]; exact hP⟩, hS.F ht⟩) hS.2.2 hd O.2.2.2.2.2.2.2.2
theorem ab_return {post : List va_E → Prop} (O : ab_Ok X g cc own) (I : ab_I X l strs nL none name d mc ms) (hd : decode cc pc = .ok (.return_, 1)) (hc : cells ≤ mc) (hs : slots ≤ ms) (hp : post ws) : Ab X g cells slots (tk_Q X g (tk_V g post) px mc ms) pc L [] ws := by
  intro H locs ls hP hS hl
  refine W.widen hc hs ?_
  refine vx_ret ?_
  exact W.vret O.1 O.2.1 I.2.2.2.1 (fun t ht hW => ⟨⟨ws, rfl, hp, by show va_P _ _ _ t.heap; rw [ht]; exact hP⟩, hS.F ht⟩) hS.2.2 hd O.2.2.2.2.2.2.2.2
theorem ab_freturn {post : UInt32 → List va_E → Prop} {v : UInt32} (O : ab_Ok X g cc own) (I : ab_I X l strs nL (some .float) name d mc ms) (hd : decode cc pc = .ok (.freturn, 1)) (hc : cells ≤ mc) (hs : slots ≤ ms) (hp : post v ws) : Ab X g cells slots (tk_Q X g (tk_F g post) px mc ms) pc L [.float v] ws := by
  intro H locs ls hP hS hl
  refine W.widen hc hs ?_
  refine vx_ret ?_
  exact W.fret (v := v) O.1 O.2.1 I.2.2.2.1 (fun t ht hW => ⟨⟨v, ws, rfl, hp, by show va_P _ _ _ t.heap; rw [ht]; exact hP⟩, hS.F ht⟩) hS.2.2 hd O.2.2.2.2.2.2.2.2
theorem ab_init {index : Nat} {i : Nat} (O : ab_Ok X g cc own) (hd : decode cc pc = .ok (.invokespecial index, 3)) (hlink : Cond.methodLink own index Lib.objectInit ∈ tk_w) (hinst : Cond.instanceMethod Lib.objectInit ∈ tk_w) (hcode : Cond.code Lib.objectInit ⟨#[0xb1]⟩ 1 none ∈ tk_w) (hfr : 1 ≤ (xR X).frames) (hlo : (st.map fun v => v.category).sum + 12 ≤ (xR X).locals) (k : Ab X g cells slots Q (pc + 3) L st ws) : Ab X g cells slots Q pc L (.ref i :: st) ws := by
  intro H locs ls hP hS hl
  have ec : ((st.map (cv g.1)).map fun v => v.category) = st.map fun v => v.category := by rw [List.map_map]; exact List.map_congr_left (fun v _ => cv_cat _ v)
  refine W.objInit O.1 O.2.1 O.2.2.1 (O.2.2.2.1 _ hlink) (O.2.2.2.1 _ hinst) (O.2.2.2.1 _ hcode) (g := F0 (xm X) pc ls (.ref (g.1 + i) :: st.map (cv g.1))) rfl hl.1 rfl hd hfr ?_ (k H locs ls hP hS hl)
  show 2 * 0 + ((st.map (cv g.1)).map fun v => v.category).sum + 12 ≤ _
  rw [ec]; omega
end ABC

/-- a throw of a new object of the class cls with a text -/
def th_ok (own cls : String) (ik ic : Nat) (names : List String) : Prop := Bundle.fit cls = true ∧ (∀ n ∈ names, Bundle.fit n = true) ∧ Cond.classLink own ik cls ∈ tk_w ∧ Cond.initialized cls ∈ tk_w ∧ ∀ w ∈ vx_atS own ic cls names, w ∈ tk_w
/-- in a frame, an exception of the class E thrown -/
def AbX (X : ab_M) (g : ab_G) (cells slots : Nat) (Q : State → Prop) (pc : Nat) (L : List (Option Value)) (E : String) (ws : List va_E) : Prop :=
  ∀ (H : Heap) (locs : List Loc) (ls : Array Slot) (rest : List Value) (ce : Cell) (q : Addr), va_P g.2.1 vwCl (cw g.1 g.2.2 ws) H → va_S (ab_A g) (xs X).heap H locs → ab_L g.1 ls (xc X).maxLocals L → H[q]? = some ce → ce.vm = .none → (xs X).vm.findClass E = some ce.cls →
    vx_W (xp X) (xl X) (xe X) (xR X) (xs X) (xm X) (xa X) (xb X) (xt X) (xc X) H locs cells slots Q (F0 (xm X) pc ls rest) q
section ABD
variable {X : ab_M} {g : ab_G} {cells slots : Nat} {pc : Nat} {L : List (Option Value)} {st : List Value} {ws : List va_E} {cc : ByteArray} {own : String} {Q : State → Prop}
variable {l : Launch} {strs : List (String × Nat × String)} {nL : Nat} {ret : Option FieldType} {name : String} {d mc ms : Nat} {px : String → List va_E → Prop} {Qc : Array Value → State → Outcome → State → Prop}
theorem tk_kept {H H1 : Heap} (hP : va_P g.2.1 vwCl (cw g.1 g.2.2 ws) H) (h : ∀ q : Nat, q < H.size → H1[q]? = H[q]?) : va_P g.2.1 vwCl (cw g.1 g.2.2 ws) H1 := hP.kept (fun k q hk => h q.1 ((hP k q hk).lt))
theorem abx_out (O : ab_Ok X g cc own) (I : ab_I X l strs nL ret name d mc ms) {E : String} (hc : cells ≤ mc) (hs : slots ≤ ms) (hp : px E ws) : AbX X g cells slots (tk_Q X g Qc px mc ms) pc L E ws := by
  intro H locs ls rest ce q hP hS hl h1 h2 h3
  exact vx_out (fun x hx => (I.2.2.2.2.2.1 x hx).elim) O.2.2.2.2.2.2.2.2 h1 h2 h3 (fun t ht _ => ⟨ws, trivial, ⟨hp, by show va_P _ _ _ t.heap; rw [ht]; exact hP⟩, hS.F ht⟩) hS.2.2 hc hs
theorem tk_cat (b : Nat) (st : List Value) : ((st.map (cv b)).map fun v => v.category) = st.map fun v => v.category := by rw [List.map_map]; exact List.map_congr_left (fun v _ => cv_cat _ v)

theorem ab_throw (O : ab_Ok X g cc own) (I : ab_I X l strs nL ret name d mc ms) {cls text : String} {ik is ic : Nat} {names : List String} (T : th_ok own cls ik ic names) (hstr : (own, is, text) ∈ strs)
    (d0 : decode cc pc = .ok (.new ik, 3)) (d3 : decode cc (pc + 3) = .ok (.dup, 1)) (d4 : decode cc (pc + 4) = .ok (.ldc is, 2)) (d6 : decode cc (pc + 6) = .ok (.invokespecial ic, 3)) (d9 : decode cc (pc + 9) = .ok (.athrow, 1))
    (hfr : names.length + 3 < d) (hlo : (st.map fun v => v.category).sum + (13 * (names.length + 1) + 43) ≤ 36 * d) (hc : cells + 1 ≤ mc) (hs : slots + 6 ≤ ms) (hp : px cls ws) : Ab X g cells slots (tk_Q X g Qc px mc ms) pc L st ws := by
  intro H locs ls hP hS hl
  obtain ⟨sa, hsa⟩ := I.2.2.2.2.2.2 _ hstr
  have hR : xR X = tk_rm d mc ms := I.2.1
  refine vx_throwS (own := own) (cls := cls) (names := names) (ik := ik) (is := is) (ic := ic) (A := ab_A g) O.1 O.2.1 O.2.2.2.2.2.2.1 O.2.2.1 T.1 T.2.1 (O.2.2.2.1 _ T.2.2.1) (O.2.2.2.1 _ T.2.2.2.1) hsa (fun w hw => O.2.2.2.1 _ (T.2.2.2.2 w hw)) ?_ O.2.2.2.2.2.2.2.1.1 O.2.2.2.2.2.2.2.1.2 hS hl.1 d0 d3 d4 d6 d9 (fun x hx => (I.2.2.2.2.2.1 x hx).elim) (by rw [hR]; exact hfr) (by rw [tk_cat, hR]; exact hlo) (by rw [hR]; exact hc) (by rw [hR]; exact hs) O.2.2.2.2.2.2.2.2 ?_ hS.2.2 hc hs
  · intro w hw
    have hm : w ∈ tk_w := by
      rcases List.mem_cons.mp hw with e | hw
      · rw [e]; exact T.2.2.1
      · rcases List.mem_cons.mp hw with e | hw
        · rw [e]; exact T.2.2.2.1
        · exact T.2.2.2.2 w hw
    show (w.onTables || goodWord w) = true
    rw [(List.mem_filter.mp hm).2, Bool.or_true]
  · intro t _ h1 h2
    exact ⟨ws, trivial, ⟨hp, tk_kept hP h2⟩, Nat.le_trans hS.1 h1, fun q hq hA => (h2 q (Nat.lt_of_lt_of_le hq hS.1)).trans (hS.2.1 q hq hA)⟩

theorem ab_throwW (O : ab_Ok X g cc own) (I : ab_I X l strs nL ret name d mc ms) {cls text : String} {ik is ic : Nat} {names : List String} (T : th_ok own cls ik ic names) (hstr : (own, is, text) ∈ strs)
    (d0 : decode cc pc = .ok (.new ik, 3)) (d3 : decode cc (pc + 3) = .ok (.dup, 1)) (d4 : decode cc (pc + 4) = .ok (.ldc_w is, 3)) (d6 : decode cc (pc + 7) = .ok (.invokespecial ic, 3)) (d9 : decode cc (pc + 10) = .ok (.athrow, 1))
    (hfr : names.length + 3 < d) (hlo : (st.map fun v => v.category).sum + (13 * (names.length + 1) + 43) ≤ 36 * d) (hc : cells + 1 ≤ mc) (hs : slots + 6 ≤ ms) (hp : px cls ws) : Ab X g cells slots (tk_Q X g Qc px mc ms) pc L st ws := by
  intro H locs ls hP hS hl
  obtain ⟨sa, hsa⟩ := I.2.2.2.2.2.2 _ hstr
  have hR : xR X = tk_rm d mc ms := I.2.1
  refine vx_throwSW (own := own) (cls := cls) (names := names) (ik := ik) (is := is) (ic := ic) (A := ab_A g) O.1 O.2.1 O.2.2.2.2.2.2.1 O.2.2.1 T.1 T.2.1 (O.2.2.2.1 _ T.2.2.1) (O.2.2.2.1 _ T.2.2.2.1) hsa (fun w hw => O.2.2.2.1 _ (T.2.2.2.2 w hw)) ?_ O.2.2.2.2.2.2.2.1.1 O.2.2.2.2.2.2.2.1.2 hS hl.1 d0 d3 d4 d6 d9 (fun x hx => (I.2.2.2.2.2.1 x hx).elim) (by rw [hR]; exact hfr) (by rw [tk_cat, hR]; exact hlo) (by rw [hR]; exact hc) (by rw [hR]; exact hs) O.2.2.2.2.2.2.2.2 ?_ hS.2.2 hc hs
  · intro w hw
    have hm : w ∈ tk_w := by
      rcases List.mem_cons.mp hw with e | hw
      · rw [e]; exact T.2.2.1
      · rcases List.mem_cons.mp hw with e | hw
        · rw [e]; exact T.2.2.2.1
        · exact T.2.2.2.2 w hw
    show (w.onTables || goodWord w) = true
    rw [(List.mem_filter.mp hm).2, Bool.or_true]
  · intro t _ h1 h2
    exact ⟨ws, trivial, ⟨hp, tk_kept hP h2⟩, Nat.le_trans hS.1 h1, fun q hq hA => (h2 q (Nat.lt_of_lt_of_le hq hS.1)).trans (hS.2.1 q hq hA)⟩

/-- the heap holds no less than the cells, and no more where all that was made is a cell -/
theorem tk_low {H : Heap} {locs : List Loc} (hb : g.1 ≤ (xs X).heap.size) (hP : va_P g.2.1 vwCl (cw g.1 g.2.2 ws) H) (hS : va_S (ab_A g) (xs X).heap H locs) : g.1 + ws.length ≤ H.size := by
  cases hw : ws with
  | nil => exact Nat.le_trans hb hS.1
  | cons e t =>
    have hl : t.length < ws.length := by rw [hw]; exact Nat.lt_succ_self _
    have h1 := (hP t.length _ (cw_get (List.getElem?_eq_getElem hl))).lt
    show g.1 + (t.length + 1) ≤ H.size
    have h2 : g.1 + t.length < H.size := h1
    omega
theorem tk_size {T : State} {H : Heap} {locs : List Loc} (hT : T.heap = H) (Xs : Stand (xp X) (xl X) (xe X) (xR X) (xs X) (xm X) (xa X) (xb X) (xt X) (xc X) T locs cells slots) (hb : g.1 ≤ (xs X).heap.size) (hP : va_P g.2.1 vwCl (cw g.1 g.2.2 ws) H) (hS : va_S (ab_A g) (xs X).heap H locs) (hF : (xs X).heap.size + cells ≤ g.1 + ws.length) : H.size = g.1 + ws.length := by
  have h1 := tk_low hb hP hS
  have h2 : T.heap.size ≤ (xs X).heap.size + cells := Xs.same.2.2.1
  rw [hT] at h2
  omega
theorem tk_blind {av : List Value} {fr : Prop} : FrameBlind (va_Pc av (tk_P g strs fr ws)) := fun a U g9 mk q => ⟨q.1, q.2.1, q.2.2.1, va_K.moved (u := U) (U := U.calling g9 mk a) (Vm.Alike.refl U.vm) q.2.2.2.1, q.2.2.2.2.1, ⟨vx_Zq.moved (u := U) (U := U.calling g9 mk a) (Vm.Alike.refl U.vm) q.2.2.2.2.2.1.1, vx_Zq.moved (u := U) (U := U.calling g9 mk a) (Vm.Alike.refl U.vm) q.2.2.2.2.2.1.2⟩, fun r hr => by
  obtain ⟨sa, h⟩ := q.2.2.2.2.2.2 r hr
  exact ⟨sa, vk_R.same (u := U) (U := U.calling g9 mk a) rfl h⟩⟩
theorem tk_pre {fr : Prop} {H : Heap} {locs : List Loc} (O : ab_Ok X g cc own) (hI : tk_S strs (xs X)) (hP : va_P g.2.1 vwCl (cw g.1 g.2.2 ws) H) (hS : va_S (ab_A g) (xs X).heap H locs) (hz : fr → H.size = g.1 + ws.length) (U : State) (hU : U.heap = H) (hW : (xs X).WarmedH U.vm) : tk_P g strs fr ws U := by
  refine ⟨by rw [hU]; exact hP, by rw [hU]; exact hz, va_K.moved hW.alike O.2.2.2.2.1, by rw [hU]; exact Nat.le_trans O.2.2.2.2.2.1 hS.1, ⟨?_, ?_⟩, hI.moved hW⟩
  · rw [hU]; exact (O.2.2.2.2.2.2.2.1.1.kept hS.2.1).moved hW.alike
  · rw [hU]; exact (O.2.2.2.2.2.2.2.1.2.kept hS.2.1).moved hW.alike
/-- what the tables say of a call -/
def cs_ok (own : String) (index : Nat) (y : MethodName) (c2 : ByteArray) (nL2 : Nat) (ret2 : Option FieldType) (n : Nat) : Prop := (y.cls ≠ "java/lang/invoke/MethodHandle" ∧ y.cls ≠ "java/lang/invoke/VarHandle" ∧ (parseMethodDescriptor y.desc).map (fun d => d.parameters.length) = some n) ∧ Cond.methodLink own index y ∈ tk_w ∧ Cond.initialized y.cls ∈ tk_w ∧ Cond.code y c2 nL2 ret2 ∈ tk_w
def cv_ok (own : String) (index : Nat) (y : MethodName) (c2 : ByteArray) (nL2 : Nat) (ret2 : Option FieldType) (n : Nat) : Prop := cs_ok own index y c2 nL2 ret2 n ∧ Cond.instanceMethod y ∈ tk_w ∧ Cond.selects y.cls y y ∈ tk_w
def ct_ok (own : String) (index : Nat) (y : MethodName) (c2 : ByteArray) (nL2 : Nat) (ret2 : Option FieldType) (n : Nat) : Prop := cs_ok own index y c2 nL2 ret2 n ∧ Cond.static y ∈ tk_w
def ci_ok (own : String) (index : Nat) (y : MethodName) (c2 : ByteArray) (nL2 : Nat) (n : Nat) : Prop := cs_ok own index y c2 nL2 none n ∧ Cond.instanceMethod y ∈ tk_w ∧ y.name = "<init>"
theorem tk_callB {R : Room} {s : State} {args : Array Value} {index n nL2 d2 mc2 ms2 : Nat} {y : MethodName} {c2 : ByteArray} {ret2 : Option FieldType} (hts : ∀ w ∈ tk_w, w.before args s = true) (h : cs_ok own index y c2 nL2 ret2 n) (hR : d2 + 1 ≤ R.frames ∧ 8 + (nL2 + 11) + 36 * d2 ≤ R.locals) : CallB R s args own index y c2 nL2 ret2 (.code y c2 nL2 ret2 :: tk_w) (tk_rm d2 mc2 ms2) mc2 ms2 n :=
  callB_of n hts (tk_good tk_w _ (fun _ h => h) h.2.2.2) rfl rfl rfl (hts _ h.2.2.1) (hts _ h.2.1) h.1 hR
theorem tk_recv {H : Heap} {i ci N : Nat} {C : String} {T : u_T} {fs : List Value} (O : ab_Ok X g cc own) (hP : va_P g.2.1 vwCl (cw g.1 g.2.2 ws) H) (hc : vwCl[ci]? = some (C, T, N)) (he : ws[i]? = some (.inr (ci, fs))) : ∃ cell : Cell, H[g.1 + i]? = some cell ∧ cell.vm.isStatics = false ∧ (xs X).vm.findClass C = some cell.cls :=
  va_recv O.2.2.2.2.1 hP hc (cw_get he)

theorem ab_callvI (O : ab_Ok X g cc own) (hI : tk_S strs (xs X)) {fr : Prop} {index n nL2 d2 mc2 ms2 : Nat} {y : MethodName} {c2 : ByteArray} {ret2 : Option FieldType} {args stk : List Value} {post : Int32 → List va_E → Prop} {px2 : String → List va_E → Prop} (h : cv_ok own index y c2 nL2 ret2 n) {i ci N : Nat} {T : u_T} {fs : List Value} (hcl : vwCl[ci]? = some (y.cls, T, N)) (he : ws[i]? = some (.inr (ci, fs))) (hd : decode cc pc = .ok (.invokevirtual index, 3))
    (hM : Ct (xl X) g strs fr d2 mc2 ms2 y c2 nL2 ret2 (.ref i :: args) ws (tk_I g post) px2) (hst : stk = args.reverse ++ .ref i :: st) (hn : args.length = n) (hR : d2 + 1 ≤ (xR X).frames ∧ 8 + (nL2 + 11) + 36 * d2 ≤ (xR X).locals) (hW : (st.map fun v => v.category).sum ≤ 8) (hroom : cells + mc2 ≤ (xR X).cells ∧ slots + ms2 ≤ (xR X).slots) (hF : fr → (xs X).heap.size + cells ≤ g.1 + ws.length)
    (kx : ∀ (E : String) (u : List va_E), px2 E u → AbX X g (cells + mc2) (slots + ms2) Q pc L E u) (kk : ∀ (r : Int32) (u : List va_E), post r u → Ab X g (cells + mc2) (slots + ms2) Q (pc + 3) L (.int r :: st) u) : Ab X g cells slots Q pc L stk ws := by
  subst hst
  intro H locs ls hP hS hl T hT Xs
  have hz : fr → H.size = g.1 + ws.length := fun q => tk_size hT Xs O.2.2.2.2.2.1 hP hS (hF q)
  refine vx_calli (A0 := ab_A g) (A1 := ab_A g) (AX := ab_A g) (a := ((.ref i :: args).map (cv g.1)).toArray) (rest := st.map (cv g.1)) (vx_runV (C := y.cls) (As := args.map (cv g.1)) (b := g.1 + i) (rest := st.map (cv g.1)) ⟨O.1, O.2.1, rfl, O.2.2.1, O.2.2.2.1⟩ hM ⟨tk_callB O.2.2.2.1 h.1 hR, O.2.2.2.1 _ h.2.1, O.2.2.2.1 _ h.2.2⟩ ⟨tk_blind, tk_recv O hP hcl he, fun U hU hW => ⟨rfl, tk_pre O hI hP hS hz U hU hW⟩⟩ rfl (by rw [List.length_map]; exact hn) hl.1 (by simp [F0, cv]) (by show 2 * 0 + _ ≤ 8; rw [tk_cat]; omega) hd hroom) hS (fun _ _ q => q) (fun _ q => q) (fun _ _ q => q) ?_ ?_ T hT Xs
  · exact fun E ce q9 u t H1 locs1 e1 _ _ hp _ _ hS1 hc1 hv1 hl1 => kx E u hp.1 H1 locs1 ls _ ce q9 (by rw [← e1]; exact hp.2) hS1 hl hc1 hv1 hl1
  · exact fun r u t H1 locs1 e1 _ hp hB _ _ hS1 => kk r u hp H1 locs1 ls (by rw [← e1]; exact hB) hS1 hl

theorem ab_callsI (O : ab_Ok X g cc own) (hI : tk_S strs (xs X)) {fr : Prop} {index n nL2 d2 mc2 ms2 : Nat} {y : MethodName} {c2 : ByteArray} {ret2 : Option FieldType} {args stk : List Value} {post : Int32 → List va_E → Prop} {px2 : String → List va_E → Prop} (h : ct_ok own index y c2 nL2 ret2 n) (hd : decode cc pc = .ok (.invokestatic index, 3))
    (hM : Ct (xl X) g strs fr d2 mc2 ms2 y c2 nL2 ret2 (args) ws (tk_I g post) px2) (hst : stk = args.reverse ++ st) (hn : args.length = n) (hR : d2 + 1 ≤ (xR X).frames ∧ 8 + (nL2 + 11) + 36 * d2 ≤ (xR X).locals) (hW : (st.map fun v => v.category).sum ≤ 8) (hroom : cells + mc2 ≤ (xR X).cells ∧ slots + ms2 ≤ (xR X).slots) (hF : fr → (xs X).heap.size + cells ≤ g.1 + ws.length)
    (kx : ∀ (E : String) (u : List va_E), px2 E u → AbX X g (cells + mc2) (slots + ms2) Q pc L E u) (kk : ∀ (r : Int32) (u : List va_E), post r u → Ab X g (cells + mc2) (slots + ms2) Q (pc + 3) L (.int r :: st) u) : Ab X g cells slots Q pc L stk ws := by
  subst hst
  intro H locs ls hP hS hl T hT Xs
  have hz : fr → H.size = g.1 + ws.length := fun q => tk_size hT Xs O.2.2.2.2.2.1 hP hS (hF q)
  refine vx_calli (A0 := ab_A g) (A1 := ab_A g) (AX := ab_A g) (a := ((args).map (cv g.1)).toArray) (rest := st.map (cv g.1)) (vx_runS (As := args.map (cv g.1)) (rest := st.map (cv g.1)) ⟨O.1, O.2.1, rfl, O.2.2.1, O.2.2.2.1⟩ hM ⟨tk_callB O.2.2.2.1 h.1 hR, O.2.2.2.1 _ h.2⟩ ⟨tk_blind, fun U hU hW => ⟨rfl, tk_pre O hI hP hS hz U hU hW⟩⟩ rfl (by rw [List.length_map]; exact hn) hl.1 (by simp [F0, cv]) (by show 2 * 0 + _ ≤ 8; rw [tk_cat]; omega) hd hroom) hS (fun _ _ q => q) (fun _ q => q) (fun _ _ q => q) ?_ ?_ T hT Xs
  · exact fun E ce q9 u t H1 locs1 e1 _ _ hp _ _ hS1 hc1 hv1 hl1 => kx E u hp.1 H1 locs1 ls _ ce q9 (by rw [← e1]; exact hp.2) hS1 hl hc1 hv1 hl1
  · exact fun r u t H1 locs1 e1 _ hp hB _ _ hS1 => kk r u hp H1 locs1 ls (by rw [← e1]; exact hB) hS1 hl

theorem ab_callvV (O : ab_Ok X g cc own) (hI : tk_S strs (xs X)) {fr : Prop} {index n nL2 d2 mc2 ms2 : Nat} {y : MethodName} {c2 : ByteArray} {ret2 : Option FieldType} {args stk : List Value} {post : List va_E → Prop} {px2 : String → List va_E → Prop} (h : cv_ok own index y c2 nL2 ret2 n) {i ci N : Nat} {T : u_T} {fs : List Value} (hcl : vwCl[ci]? = some (y.cls, T, N)) (he : ws[i]? = some (.inr (ci, fs))) (hd : decode cc pc = .ok (.invokevirtual index, 3))
    (hM : Ct (xl X) g strs fr d2 mc2 ms2 y c2 nL2 ret2 (.ref i :: args) ws (tk_V g post) px2) (hst : stk = args.reverse ++ .ref i :: st) (hn : args.length = n) (hR : d2 + 1 ≤ (xR X).frames ∧ 8 + (nL2 + 11) + 36 * d2 ≤ (xR X).locals) (hW : (st.map fun v => v.category).sum ≤ 8) (hroom : cells + mc2 ≤ (xR X).cells ∧ slots + ms2 ≤ (xR X).slots) (hF : fr → (xs X).heap.size + cells ≤ g.1 + ws.length)
    (kx : ∀ (E : String) (u : List va_E), px2 E u → AbX X g (cells + mc2) (slots + ms2) Q pc L E u) (kk : ∀ (u : List va_E), post u → Ab X g (cells + mc2) (slots + ms2) Q (pc + 3) L (st) u) : Ab X g cells slots Q pc L stk ws := by
  subst hst
  intro H locs ls hP hS hl T hT Xs
  have hz : fr → H.size = g.1 + ws.length := fun q => tk_size hT Xs O.2.2.2.2.2.1 hP hS (hF q)
  refine vx_callv (A0 := ab_A g) (A1 := ab_A g) (AX := ab_A g) (a := ((.ref i :: args).map (cv g.1)).toArray) (rest := st.map (cv g.1)) (vx_runV (C := y.cls) (As := args.map (cv g.1)) (b := g.1 + i) (rest := st.map (cv g.1)) ⟨O.1, O.2.1, rfl, O.2.2.1, O.2.2.2.1⟩ hM ⟨tk_callB O.2.2.2.1 h.1 hR, O.2.2.2.1 _ h.2.1, O.2.2.2.1 _ h.2.2⟩ ⟨tk_blind, tk_recv O hP hcl he, fun U hU hW => ⟨rfl, tk_pre O hI hP hS hz U hU hW⟩⟩ rfl (by rw [List.length_map]; exact hn) hl.1 (by simp [F0, cv]) (by show 2 * 0 + _ ≤ 8; rw [tk_cat]; omega) hd hroom) hS (fun _ _ q => q) (fun _ q => q) (fun _ _ q => q) ?_ ?_ T hT Xs
  · exact fun E ce q9 u t H1 locs1 e1 _ _ hp _ _ hS1 hc1 hv1 hl1 => kx E u hp.1 H1 locs1 ls _ ce q9 (by rw [← e1]; exact hp.2) hS1 hl hc1 hv1 hl1
  · exact fun u t H1 locs1 e1 _ hp hB _ _ hS1 => kk u hp H1 locs1 ls (by rw [← e1]; exact hB) hS1 hl

theorem ab_callsV (O : ab_Ok X g cc own) (hI : tk_S strs (xs X)) {fr : Prop} {index n nL2 d2 mc2 ms2 : Nat} {y : MethodName} {c2 : ByteArray} {ret2 : Option FieldType} {args stk : List Value} {post : List va_E → Prop} {px2 : String → List va_E → Prop} (h : ct_ok own index y c2 nL2 ret2 n) (hd : decode cc pc = .ok (.invokestatic index, 3))
    (hM : Ct (xl X) g strs fr d2 mc2 ms2 y c2 nL2 ret2 (args) ws (tk_V g post) px2) (hst : stk = args.reverse ++ st) (hn : args.length = n) (hR : d2 + 1 ≤ (xR X).frames ∧ 8 + (nL2 + 11) + 36 * d2 ≤ (xR X).locals) (hW : (st.map fun v => v.category).sum ≤ 8) (hroom : cells + mc2 ≤ (xR X).cells ∧ slots + ms2 ≤ (xR X).slots) (hF : fr → (xs X).heap.size + cells ≤ g.1 + ws.length)
    (kx : ∀ (E : String) (u : List va_E), px2 E u → AbX X g (cells + mc2) (slots + ms2) Q pc L E u) (kk : ∀ (u : List va_E), post u → Ab X g (cells + mc2) (slots + ms2) Q (pc + 3) L (st) u) : Ab X g cells slots Q pc L stk ws := by
  subst hst
  intro H locs ls hP hS hl T hT Xs
  have hz : fr → H.size = g.1 + ws.length := fun q => tk_size hT Xs O.2.2.2.2.2.1 hP hS (hF q)
  refine vx_callv (A0 := ab_A g) (A1 := ab_A g) (AX := ab_A g) (a := ((args).map (cv g.1)).toArray) (rest := st.map (cv g.1)) (vx_runS (As := args.map (cv g.1)) (rest := st.map (cv g.1)) ⟨O.1, O.2.1, rfl, O.2.2.1, O.2.2.2.1⟩ hM ⟨tk_callB O.2.2.2.1 h.1 hR, O.2.2.2.1 _ h.2⟩ ⟨tk_blind, fun U hU hW => ⟨rfl, tk_pre O hI hP hS hz U hU hW⟩⟩ rfl (by rw [List.length_map]; exact hn) hl.1 (by simp [F0, cv]) (by show 2 * 0 + _ ≤ 8; rw [tk_cat]; omega) hd hroom) hS (fun _ _ q => q) (fun _ q => q) (fun _ _ q => q) ?_ ?_ T hT Xs
  · exact fun E ce q9 u t H1 locs1 e1 _ _ hp _ _ hS1 hc1 hv1 hl1 => kx E u hp.1 H1 locs1 ls _ ce q9 (by rw [← e1]; exact hp.2) hS1 hl hc1 hv1 hl1
  · exact fun u t H1 locs1 e1 _ hp hB _ _ hS1 => kk u hp H1 locs1 ls (by rw [← e1]; exact hB) hS1 hl

theorem ab_callvF (O : ab_Ok X g cc own) (hI : tk_S strs (xs X)) {fr : Prop} {index n nL2 d2 mc2 ms2 : Nat} {y : MethodName} {c2 : ByteArray} {ret2 : Option FieldType} {args stk : List Value} {post : UInt32 → List va_E → Prop} {px2 : String → List va_E → Prop} (h : cv_ok own index y c2 nL2 ret2 n) {i ci N : Nat} {T : u_T} {fs : List Value} (hcl : vwCl[ci]? = some (y.cls, T, N)) (he : ws[i]? = some (.inr (ci, fs))) (hd : decode cc pc = .ok (.invokevirtual index, 3))
    (hM : Ct (xl X) g strs fr d2 mc2 ms2 y c2 nL2 ret2 (.ref i :: args) ws (tk_F g post) px2) (hst : stk = args.reverse ++ .ref i :: st) (hn : args.length = n) (hR : d2 + 1 ≤ (xR X).frames ∧ 8 + (nL2 + 11) + 36 * d2 ≤ (xR X).locals) (hW : (st.map fun v => v.category).sum ≤ 8) (hroom : cells + mc2 ≤ (xR X).cells ∧ slots + ms2 ≤ (xR X).slots) (hF : fr → (xs X).heap.size + cells ≤ g.1 + ws.length)
    (kx : ∀ (E : String) (u : List va_E), px2 E u → AbX X g (cells + mc2) (slots + ms2) Q pc L E u) (kk : ∀ (r : UInt32) (u : List va_E), post r u → Ab X g (cells + mc2) (slots + ms2) Q (pc + 3) L (.float r :: st) u) : Ab X g cells slots Q pc L stk ws := by
  subst hst
  intro H locs ls hP hS hl T hT Xs
  have hz : fr → H.size = g.1 + ws.length := fun q => tk_size hT Xs O.2.2.2.2.2.1 hP hS (hF q)
  refine vx_callf (A0 := ab_A g) (A1 := ab_A g) (AX := ab_A g) (a := ((.ref i :: args).map (cv g.1)).toArray) (rest := st.map (cv g.1)) (vx_runV (C := y.cls) (As := args.map (cv g.1)) (b := g.1 + i) (rest := st.map (cv g.1)) ⟨O.1, O.2.1, rfl, O.2.2.1, O.2.2.2.1⟩ hM ⟨tk_callB O.2.2.2.1 h.1 hR, O.2.2.2.1 _ h.2.1, O.2.2.2.1 _ h.2.2⟩ ⟨tk_blind, tk_recv O hP hcl he, fun U hU hW => ⟨rfl, tk_pre O hI hP hS hz U hU hW⟩⟩ rfl (by rw [List.length_map]; exact hn) hl.1 (by simp [F0, cv]) (by show 2 * 0 + _ ≤ 8; rw [tk_cat]; omega) hd hroom) hS (fun _ _ q => q) (fun _ q => q) (fun _ _ q => q) ?_ ?_ T hT Xs
  · exact fun E ce q9 u t H1 locs1 e1 _ _ hp _ _ hS1 hc1 hv1 hl1 => kx E u hp.1 H1 locs1 ls _ ce q9 (by rw [← e1]; exact hp.2) hS1 hl hc1 hv1 hl1
  · exact fun r u t H1 locs1 e1 _ hp hB _ _ hS1 => kk r u hp H1 locs1 ls (by rw [← e1]; exact hB) hS1 hl

theorem ab_callsF (O : ab_Ok X g cc own) (hI : tk_S strs (xs X)) {fr : Prop} {index n nL2 d2 mc2 ms2 : Nat} {y : MethodName} {c2 : ByteArray} {ret2 : Option FieldType} {args stk : List Value} {post : UInt32 → List va_E → Prop} {px2 : String → List va_E → Prop} (h : ct_ok own index y c2 nL2 ret2 n) (hd : decode cc pc = .ok (.invokestatic index, 3))
    (hM : Ct (xl X) g strs fr d2 mc2 ms2 y c2 nL2 ret2 (args) ws (tk_F g post) px2) (hst : stk = args.reverse ++ st) (hn : args.length = n) (hR : d2 + 1 ≤ (xR X).frames ∧ 8 + (nL2 + 11) + 36 * d2 ≤ (xR X).locals) (hW : (st.map fun v => v.category).sum ≤ 8) (hroom : cells + mc2 ≤ (xR X).cells ∧ slots + ms2 ≤ (xR X).slots) (hF : fr → (xs X).heap.size + cells ≤ g.1 + ws.length)
    (kx : ∀ (E : String) (u : List va_E), px2 E u → AbX X g (cells + mc2) (slots + ms2) Q pc L E u) (kk : ∀ (r : UInt32) (u : List va_E), post r u → Ab X g (cells + mc2) (slots + ms2) Q (pc + 3) L (.float r :: st) u) : Ab X g cells slots Q pc L stk ws := by
  subst hst
  intro H locs ls hP hS hl T hT Xs
  have hz : fr → H.size = g.1 + ws.length := fun q => tk_size hT Xs O.2.2.2.2.2.1 hP hS (hF q)
  refine vx_callf (A0 := ab_A g) (A1 := ab_A g) (AX := ab_A g) (a := ((args).map (cv g.1)).toArray) (rest := st.map (cv g.1)) (vx_runS (As := args.map (cv g.1)) (rest := st.map (cv g.1)) ⟨O.1, O.2.1, rfl, O.2.2.1, O.2.2.2.1⟩ hM ⟨tk_callB O.2.2.2.1 h.1 hR, O.2.2.2.1 _ h.2⟩ ⟨tk_blind, fun U hU hW => ⟨rfl, tk_pre O hI hP hS hz U hU hW⟩⟩ rfl (by rw [List.length_map]; exact hn) hl.1 (by simp [F0, cv]) (by show 2 * 0 + _ ≤ 8; rw [tk_cat]; omega) hd hroom) hS (fun _ _ q => q) (fun _ q => q) (fun _ _ q => q) ?_ ?_ T hT Xs
  · exact fun E ce q9 u t H1 locs1 e1 _ _ hp _ _ hS1 hc1 hv1 hl1 => kx E u hp.1 H1 locs1 ls _ ce q9 (by rw [← e1]; exact hp.2) hS1 hl hc1 hv1 hl1
  · exact fun r u t H1 locs1 e1 _ hp hB _ _ hS1 => kk r u hp H1 locs1 ls (by rw [← e1]; exact hB) hS1 hl

end ABD
end
section
/-! ALLOCATIONS, constructors -/
section ABN
variable {X : ab_M} {g : ab_G} {cells slots : Nat} {pc : Nat} {L : List (Option Value)} {st : List Value} {ws : List va_E} {cc : ByteArray} {own : String} {Q : State → Prop}
variable {l : Launch} {strs : List (String × Nat × String)} {nL : Nat} {ret : Option FieldType} {name : String} {d mc ms : Nat} {px : String → List va_E → Prop} {Qc : Array Value → State → Outcome → State → Prop}
theorem ct_met {fr : Prop} {y : MethodName} {args : List Value} (h : Ct l g strs fr d mc ms y cc nL ret args ws Qc (fun _ _ => False)) : Met l y (.code y cc nL ret :: tk_w) (tk_rm d mc ms) (va_Pc (args.map (cv g.1)) (tk_P g strs fr ws)) Qc mc ms (ab_A g) := by
  intro p e h1 h2 h3 s m a below hf happ hP hK
  obtain ⟨n, o, q1, q2, q3, q4⟩ := h p e h1 h2 h3 s m a below hf happ hP hK
  refine ⟨n, o, q1, q2, q3, ?_⟩
  rcases q4 with q4 | ⟨q, -, E, ce, L, hx, -⟩
  · exact q4
  · obtain ⟨u, -, hu, -⟩ := hx
    exact hu.1.elim
theorem ab_callc (O : ab_Ok X g cc own) (hI : tk_S strs (xs X)) {fr : Prop} {index n nL2 d2 mc2 ms2 i : Nat} {y : MethodName} {c2 : ByteArray} {args stk : List Value} {post : List va_E → Prop} (h : ci_ok own index y c2 nL2 n) (hd : decode cc pc = .ok (.invokespecial index, 3))
    (hM : Ct (xl X) g strs fr d2 mc2 ms2 y c2 nL2 none (.ref i :: args) ws (tk_V g post) (fun _ _ => False)) (hst : stk = args.reverse ++ .ref i :: st) (hn : args.length = n) (hR : d2 + 1 ≤ (xR X).frames ∧ 8 + (nL2 + 11) + 36 * d2 ≤ (xR X).locals) (hW : (st.map fun v => v.category).sum ≤ 8) (hroom : cells + mc2 ≤ (xR X).cells ∧ slots + ms2 ≤ (xR X).slots) (hF : fr → (xs X).heap.size + cells ≤ g.1 + ws.length)
    (kk : ∀ (u : List va_E), post u → Ab X g (cells + mc2) (slots + ms2) Q (pc + 3) L st u) : Ab X g cells slots Q pc L stk ws := by
  subst hst
  intro H locs ls hP hS hl T hT Xs
  have hz : fr → H.size = g.1 + ws.length := fun q => tk_size hT Xs O.2.2.2.2.2.1 hP hS (hF q)
  refine va_callv (A0 := ab_A g) (A1 := ab_A g) (a := ((.ref i :: args).map (cv g.1)).toArray) (rest := st.map (cv g.1)) (va_runI (As := args.map (cv g.1)) (b := g.1 + i) (rest := st.map (cv g.1)) ⟨O.1, O.2.1, rfl, O.2.2.1, O.2.2.2.1⟩ (ct_met hM) ⟨tk_callB O.2.2.2.1 h.1 hR, h.2.2, O.2.2.2.1 _ h.2.1⟩ ⟨tk_blind, fun U hU hW => ⟨rfl, tk_pre O hI hP hS hz U hU hW⟩⟩ rfl (by rw [List.length_map]; exact hn) hl.1 (by simp [F0, cv]) (by show 2 * 0 + _ ≤ 8; rw [tk_cat]; omega) hd hroom) hS (fun _ _ q => q) (fun _ q => q) ?_ T hT Xs
  exact fun u t H1 locs1 e1 _ hp hB _ _ hS1 => kk u hp H1 locs1 ls (by rw [← e1]; exact hB) hS1 hl
def nw_ok (own : String) (index ci : Nat) (C : String) (T : u_T) (N : Nat) (ty : Nat → FieldType) : Prop := vwCl[ci]? = some (C, T, N) ∧ Cond.classLink own index C ∈ tk_w ∧ Cond.instantiable C N ∈ tk_w ∧ Cond.initialized C ∈ tk_w ∧ (∀ w ∈ u_ws C T N, w ∈ tk_w) ∧ ∀ k, k < N → parseFieldDescriptor (T k).2.2.1 = some (ty k)
theorem ab_new (O : ab_Ok X g cc own) {index ci N : Nat} {C : String} {T : u_T} {ty : Nat → FieldType} {fs : List Value} (h : nw_ok own index ci C T N ty) (hd : decode cc pc = .ok (.new index, 3)) (hfs : ∀ j, j < N → defaultValue (ty j) = vp_V fs j) (hfc : ∀ b, fs.map (cv b) = fs) (hcells : cells + 1 ≤ (xR X).cells) (hslots : slots + N ≤ (xR X).slots) (hF : (xs X).heap.size + cells ≤ g.1 + ws.length)
    (kk : Ab X g (cells + 1) (slots + N) Q (pc + 3) L (.ref ws.length :: st) (ws ++ [.inr (ci, fs)])) : Ab X g cells slots Q pc L st ws := by
  intro H locs ls hP hS hl T hT Xs
  have hz : H.size = g.1 + ws.length := tk_size hT Xs O.2.2.2.2.2.1 hP hS hF
  have hKn := O.2.2.2.2.1.1 ci _ h.1
  refine W.newcK (g := F0 (xm X) pc ls (st.map (cv g.1))) O.1 O.2.1 O.2.2.1 (O.2.2.2.1 _ h.2.1) (O.2.2.2.1 _ h.2.2.1) (O.2.2.2.1 _ h.2.2.2.1) rfl hd hcells hslots hKn.2.1 hz (fun H1 kC hkC e1 z1 o1 => ?_) T hT Xs
  have hk : ∀ q : Nat, q < H.size → H1[q]? = H[q]? := fun q hq => o1 q (by rw [← hz]; exact hq)
  refine kk H1 locs ls ?_ ⟨Nat.le_trans hS.1 (by omega), fun q h1 h2 => (hk q (Nat.lt_of_lt_of_le h1 hS.1)).trans (hS.2.1 q h1 h2), hS.2.2⟩ hl
  rw [← cw_push]
  refine (tk_kept hP hk).app (fun k x hx => ?_)
  have h0 : k < 1 := (List.getElem?_eq_some_iff.mp hx).1
  rw [show k = 0 by omega] at hx
  cases hx
  refine ⟨_, h.1, (u_born ty O.2.2.2.1 h.2.2.2.2.1 hKn hkC e1 h.2.2.2.2.2).to (fun j hj => ?_)⟩
  show defaultValue (ty j) = vp_V (fs.map (cv g.1)) j
  rw [hfc]
  exact hfs j hj
theorem ab_newa (O : ab_Ok X g cc own) {atype : ArrayType} {ty : FieldType} {n : Int32} {N kd : Nat} {a0 : vp_A} (hty : newarray.typeOf atype = ty) (hd : decode cc pc = .ok (.newarray atype, 2)) (harr : Cond.arrayClass ty ∈ tk_w) (hk : (tk_ty g)[kd]? = some (g.2.2 kd, ty)) (hr : va_RA (xs X) (g.2.2 kd) ty → (xs X).vm.findClass ("[" ++ ty.toString) = some (g.2.2 kd)) (ha : ∀ cA : ClassId, vp_cell cA a0 = arrV cA N (fun _ => defaultValue ty)) (hc : ∀ b, ce b g.2.2 (.inl (kd, a0)) = .inl (g.2.2 kd, a0)) (hn : ¬ n < 0) (hN : n.toNatClampNeg = N) (hbytes : N * componentBytes ty ≤ 536870912) (hcells : cells + 1 ≤ (xR X).cells) (hslots : slots + N ≤ (xR X).slots) (hF : (xs X).heap.size + cells ≤ g.1 + ws.length)
    (kk : Ab X g (cells + 1) (slots + N) Q (pc + 2) L (.ref ws.length :: st) (ws ++ [.inl (kd, a0)])) : Ab X g cells slots Q pc L (.int n :: st) ws := by
  subst hty
  intro H locs ls hP hS hl T hT Xs
  have hz : H.size = g.1 + ws.length := tk_size hT Xs O.2.2.2.2.2.1 hP hS hF
  refine va_newaK (g := F0 (xm X) pc ls (.int n :: st.map (cv g.1))) O.1 O.2.1 (O.2.2.2.1 _ harr) rfl hd rfl hn hN hbytes hcells hslots hz (fun H1 cA e1 z1 o1 hAr hNm => ?_) T hT Xs
  have hkk := O.2.2.2.2.1.2 kd _ hk
  have hcA : cA = g.2.2 kd := Option.some.inj (hNm.symm.trans (hr hkk.2))
  subst hcA
  have hk : ∀ q : Nat, q < H.size → H1[q]? = H[q]? := fun q hq => o1 q (by rw [← hz]; exact hq)
  refine kk H1 locs ls ?_ ⟨Nat.le_trans hS.1 (by omega), fun q h1 h2 => (hk q (Nat.lt_of_lt_of_le h1 hS.1)).trans (hS.2.1 q h1 h2), hS.2.2⟩ hl
  rw [← cw_push]
  refine (tk_kept hP hk).app (fun k x hx => ?_)
  have h0 : k < 1 := (List.getElem?_eq_some_iff.mp hx).1
  rw [show k = 0 by omega] at hx
  cases hx
  rw [hc]
  show H1[g.1 + ws.length]? = some (vp_cell _ a0)
  rw [ha]
  exact e1
/-- new int[N][K]: the outer array's cell, and N rows behind it -/
theorem ab_multi (O : ab_Ok X g cc own) {index : Nat} {n k0 : Int32} {N K : Nat} (hd : decode cc pc = .ok (.multianewarray index 2, 4)) (hcl : Cond.classLink own index ("[" ++ (FieldType.array .int).toString) ∈ tk_w) (hov : Cond.arrayOver (.array .int) ∈ tk_w) (harr : Cond.arrayClass .int ∈ tk_w) (hn : ¬ n < 0) (hk : ¬ k0 < 0) (hN : n.toNatClampNeg = N) (hK : k0.toNatClampNeg = K) (hb : N ≤ 1000 ∧ K ≤ 1000) (hcells : cells + (1 + N) ≤ (xR X).cells) (hslots : slots + (N + N * K) ≤ (xR X).slots) (hF : (xs X).heap.size + cells ≤ g.1 + ws.length)
    (kk : Ab X g (cells + 1 + N) (slots + N + N * K) Q (pc + 4) L (.ref ws.length :: st) (ws ++ .inl (4, N, .inr (.inr (.inr (.inr (fun i => if i < N then some (ws.length + 1 + i) else none))))) :: List.replicate N (.inl (0, K, .inl (fun _ => 0))))) : Ab X g cells slots Q pc L (.int k0 :: .int n :: st) ws := by
  subst hN
  subst hK
  intro H locs ls hP hS hl T hT Xs
  have hz : H.size = g.1 + ws.length := tk_size hT Xs O.2.2.2.2.2.1 hP hS hF
  obtain ⟨vm₁, cA, comp, -, fA, fC, -, -, X', step⟩ := Xs.multianewarray2F O.1 O.2.2.1 (O.2.2.2.1 _ hcl) (O.2.2.2.1 _ hov) (O.2.2.2.1 _ harr) (g := F0 (xm X) pc ls (.int k0 :: .int n :: st.map (cv g.1))) rfl (by rw [O.2.1]; exact hd) rfl hn hk (by omega) (by rw [show componentBytes FieldType.int = 4 from rfl]; omega) (by omega) rfl rfl hcells hslots
  have hcA : cA = g.2.2 4 := Option.some.inj (fA.symm.trans (O.2.2.2.2.1.2 4 _ rfl).2)
  have hco : comp = g.2.2 0 := Option.some.inj (fC.symm.trans (O.2.2.2.2.1.2 0 _ rfl).2)
  subst hcA
  subst hco
  obtain ⟨f1, f2, -, -⟩ := Jvm.Free.Multi.fill_facts (T.setVm vm₁) (g.2.2 4) (g.2.2 0) n.toNatClampNeg k0.toNatClampNeg (defaultValue .int) n.toNatClampNeg
  have f3 := fun j hj => Jvm.Free.Multi.fill_inner (T.setVm vm₁) (g.2.2 4) (g.2.2 0) n.toNatClampNeg k0.toNatClampNeg (defaultValue .int) n.toNatClampNeg j hj
  have f4 := fun (a : Nat) (ha : a < (T.setVm vm₁).heap.size) => Jvm.Free.Multi.fill_old (T.setVm vm₁) (g.2.2 4) (g.2.2 0) n.toNatClampNeg k0.toNatClampNeg (defaultValue .int) (a := a) ha n.toNatClampNeg
  have hTh : (T.setVm vm₁).heap = H := hT
  rw [hTh] at f1 f2 f3 f4
  generalize Jvm.Free.Multi.fill (T.setVm vm₁) (g.2.2 4) (g.2.2 0) n.toNatClampNeg k0.toNatClampNeg (defaultValue .int) n.toNatClampNeg = F at X' step f1 f2 f3 f4
  have hP1 : va_P g.2.1 vwCl (cw g.1 g.2.2 (ws ++ .inl (4, n.toNatClampNeg, .inr (.inr (.inr (.inr (fun i => if i < n.toNatClampNeg then some (ws.length + 1 + i) else none))))) :: List.replicate n.toNatClampNeg (.inl (0, k0.toNatClampNeg, .inl (fun _ => 0))))) F.heap := by
    intro j x hx
    rw [cw_at] at hx
    by_cases h1 : j < ws.length
    · rw [List.getElem?_append_left h1] at hx
      refine (hP j x (by rw [cw_at]; exact hx)).kept (f4 _ ?_)
      exact (hP j x (by rw [cw_at]; exact hx)).lt
    · rw [List.getElem?_append_right (by omega)] at hx
      by_cases h2 : j = ws.length
      · subst h2
        rw [Nat.sub_self] at hx
        cases hx
        show F.heap[g.1 + ws.length]? = some (vp_cell _ _)
        rw [← hz, f2, vr_outer, vp_cell_q]
        congr 2
        funext i
        by_cases hi : i < n.toNatClampNeg
        · simp only [hi, if_true, Option.map_some]
          rw [hz]
          show va_rf (some _) = va_rf (some _)
          congr 2
          omega
        · simp only [hi, if_false, Option.map_none]
      · rw [show j - ws.length = (j - ws.length - 1) + 1 by omega, List.getElem?_cons_succ, List.getElem?_replicate] at hx
        by_cases h3 : j - ws.length - 1 < n.toNatClampNeg
        · rw [if_pos h3] at hx
          cases hx
          show F.heap[g.1 + j]? = some (vp_cell _ _)
          have := f3 _ h3
          rw [hz, show g.1 + ws.length + 1 + (j - ws.length - 1) = g.1 + j by omega] at this
          rw [this, vp_cell_i]
          show some _ = some (arrV _ _ _)
          rw [show (fun (_ : Nat) => Value.int 0) = (fun _ => defaultValue .int) from rfl, ← arrV_new]
          rfl
        · rw [if_neg h3] at hx
          cases hx
  obtain ⟨t, a1, a2⟩ := kk F.heap locs ls hP1 ⟨by rw [f1]; exact Nat.le_trans hS.1 (by omega), fun q h1 h2 => (f4 q (Nat.lt_of_lt_of_le h1 hS.1)).trans (hS.2.1 q h1 h2), hS.2.2⟩ hl F rfl X'
  refine ⟨t, step t ?_, a2⟩
  rw [hT, hz]
  exact a1
end ABN
end
section
/-! THE WORLD: 0 Thicket, 1 Graph (2 values, 3 ones, 4 others, 5 weights, 6 present), 7 Forest (8 edgeBetween, 9..28 its rows), 29 RootedTree (30 order, 31 depths, 32 parents, 33 sums, 34 lastEdges), 35 ForestKeeper, 36 ForestAnew (37 sorted, 38 groups, 39 chosen), 40 GraphWalk (41 seen, 42 queue), 43 HeavyPaths (44 sizes, 45 sums, 46 heavyChildren, 47 heads, 48 sumsToHead, 49 lights), 50 Jumps (51 targets, 52..56 its rows), 57 ThicketModel (58 values, 59 ones, 60 others, 61 weights, 62 order, 63 labels, 64 isPresent, 65 isForest, 66 isThen, 67 parents, 68 depths, 69 sizes, 70 heavies, 71 row), 72 out, 73 outD. V a j: the place j of the cell a. -/
abbrev Mm : Type := Nat → Nat → Int32
def SW (V : Mm) (o : Nat → Int64) (D : Nat → UInt64) : List va_E := [.inr (8, [.ref 1, .ref 7, .ref 29, .ref 35, .ref 36, .ref 40, .ref 43, .ref 50]), .inr (3, [.ref 2, .ref 3, .ref 4, .ref 5, .ref 6, .int (V 1 5), .int (V 1 6)]), .inl (0, 20, .inl (V 2)), .inl (0, 60, .inl (V 3)), .inl (0, 60, .inl (V 4)), .inl (0, 60, .inl (V 5)), .inl (1, 60, .inl (V 6)), .inr (0, [.ref 1, .ref 8, .int (V 7 2), .int (V 7 3)]), .inl (4, 20, .inr (.inr (.inr (.inr (fun i => if i < 20 then some (9 + i) else none))))), .inl (0, 20, .inl (V 9)), .inl (0, 20, .inl (V 10)), .inl (0, 20, .inl (V 11)), .inl (0, 20, .inl (V 12)), .inl (0, 20, .inl (V 13)), .inl (0, 20, .inl (V 14)), .inl (0, 20, .inl (V 15)), .inl (0, 20, .inl (V 16)), .inl (0, 20, .inl (V 17)), .inl (0, 20, .inl (V 18)), .inl (0, 20, .inl (V 19)), .inl (0, 20, .inl (V 20)), .inl (0, 20, .inl (V 21)), .inl (0, 20, .inl (V 22)), .inl (0, 20, .inl (V 23)), .inl (0, 20, .inl (V 24)), .inl (0, 20, .inl (V 25)), .inl (0, 20, .inl (V 26)), .inl (0, 20, .inl (V 27)), .inl (0, 20, .inl (V 28)), .inr (7, [.ref 1, .ref 7, .ref 30, .ref 31, .ref 32, .ref 33, .ref 34, .int (V 29 7)]), .inl (0, 20, .inl (V 30)), .inl (0, 20, .inl (V 31)), .inl (0, 20, .inl (V 32)), .inl (0, 20, .inl (V 33)), .inl (0, 20, .inl (V 34)), .inr (2, [.ref 1, .ref 7, .ref 29]), .inr (1, [.ref 1, .ref 37, .ref 38, .ref 39, .int (V 36 4), .int (V 36 5)]), .inl (0, 60, .inl (V 37)), .inl (0, 20, .inl (V 38)), .inl (1, 60, .inl (V 39)), .inr (4, [.ref 1, .ref 41, .ref 42, .int (V 40 3)]), .inl (1, 20, .inl (V 41)), .inl (0, 20, .inl (V 42)), .inr (5, [.ref 1, .ref 29, .ref 44, .ref 45, .ref 46, .ref 47, .ref 48, .ref 49]), .inl (0, 20, .inl (V 44)), .inl (0, 20, .inl (V 45)), .inl (0, 20, .inl (V 46)), .inl (0, 20, .inl (V 47)), .inl (0, 20, .inl (V 48)), .inl (0, 20, .inl (V 49)), .inr (6, [.ref 1, .ref 29, .ref 51]), .inl (4, 5, .inr (.inr (.inr (.inr (fun i => if i < 5 then some (52 + i) else none))))), .inl (0, 20, .inl (V 52)), .inl (0, 20, .inl (V 53)), .inl (0, 20, .inl (V 54)), .inl (0, 20, .inl (V 55)), .inl (0, 20, .inl (V 56)), .inr (9, [.int (V 57 0), .ref 58, .ref 59, .ref 60, .ref 61, .ref 62, .ref 63, .ref 64, .ref 65, .int (V 57 9), .int (V 57 10), .ref 66, .ref 67, .ref 68, .ref 69, .ref 70, .ref 71, .int (V 57 17)]), .inl (0, 20, .inl (V 58)), .inl (0, 60, .inl (V 59)), .inl (0, 60, .inl (V 60)), .inl (0, 60, .inl (V 61)), .inl (0, 60, .inl (V 62)), .inl (0, 20, .inl (V 63)), .inl (1, 60, .inl (V 64)), .inl (1, 60, .inl (V 65)), .inl (1, 60, .inl (V 66)), .inl (0, 20, .inl (V 67)), .inl (0, 20, .inl (V 68)), .inl (0, 20, .inl (V 69)), .inl (0, 20, .inl (V 70)), .inl (0, 20, .inl (V 71)), .inl (2, 1, .inr (.inl o)), .inl (3, 1, .inr (.inr (.inr (.inl D))))]
def wr (V : Mm) (a j : Nat) (x : Int32) : Mm := va_up V a (upd (V a) j x)
def wfill (V : Mm) (a n : Nat) (x : Int32) : Mm := va_up V a (fun j => if j < n then x else V a j)
theorem at_0 (V : Mm) (o : Nat → Int64) (D : Nat → UInt64) : (SW V o D)[0]? = some (.inr (8, [.ref 1, .ref 7, .ref 29, .ref 35, .ref 36, .ref 40, .ref 43, .ref 50])) := rfl
theorem at_1 (V : Mm) (o : Nat → Int64) (D : Nat → UInt64) : (SW V o D)[1]? = some (.inr (3, [.ref 2, .ref 3, .ref 4, .ref 5, .ref 6, .int (V 1 5), .int (V 1 6)])) := rfl
theorem at_2 (V : Mm) (o : Nat → Int64) (D : Nat → UInt64) : (SW V o D)[2]? = some (.inl (0, 20, .inl (V 2))) := rfl
theorem at_3 (V : Mm) (o : Nat → Int64) (D : Nat → UInt64) : (SW V o D)[3]? = some (.inl (0, 60, .inl (V 3))) := rfl
theorem at_4 (V : Mm) (o : Nat → Int64) (D : Nat → UInt64) : (SW V o D)[4]? = some (.inl (0, 60, .inl (V 4))) := rfl
theorem at_5 (V : Mm) (o : Nat → Int64) (D : Nat → UInt64) : (SW V o D)[5]? = some (.inl (0, 60, .inl (V 5))) := rfl
theorem at_6 (V : Mm) (o : Nat → Int64) (D : Nat → UInt64) : (SW V o D)[6]? = some (.inl (1, 60, .inl (V 6))) := rfl
theorem at_7 (V : Mm) (o : Nat → Int64) (D : Nat → UInt64) : (SW V o D)[7]? = some (.inr (0, [.ref 1, .ref 8, .int (V 7 2), .int (V 7 3)])) := rfl
theorem at_8 (V : Mm) (o : Nat → Int64) (D : Nat → UInt64) : (SW V o D)[8]? = some (.inl (4, 20, .inr (.inr (.inr (.inr (fun i => if i < 20 then some (9 + i) else none)))))) := rfl
theorem at_9 (V : Mm) (o : Nat → Int64) (D : Nat → UInt64) : (SW V o D)[9]? = some (.inl (0, 20, .inl (V 9))) := rfl
theorem at_10 (V : Mm) (o : Nat → Int64) (D : Nat → UInt64) : (SW V o D)[10]? = some (.inl (0, 20, .inl (V 10))) := rfl
theorem at_11 (V : Mm) (o : Nat → Int64) (D : Nat → UInt64) : (SW V o D)[11]? = some (.inl (0, 20, .inl (V 11))) := rfl
theorem at_12 (V : Mm) (o : Nat → Int64) (D : Nat → UInt64) : (SW V o D)[12]? = some (.inl (0, 20, .inl (V 12))) := rfl
theorem at_13 (V : Mm) (o : Nat → Int64) (D : Nat → UInt64) : (SW V o D)[13]? = some (.inl (0, 20, .inl (V 13))) := rfl
theorem at_14 (V : Mm) (o : Nat → Int64) (D : Nat → UInt64) : (SW V o D)[14]? = some (.inl (0, 20, .inl (V 14))) := rfl
theorem at_15 (V : Mm) (o : Nat → Int64) (D : Nat → UInt64) : (SW V o D)[15]? = some (.inl (0, 20, .inl (V 15))) := rfl
theorem at_16 (V : Mm) (o : Nat → Int64) (D : Nat → UInt64) : (SW V o D)[16]? = some (.inl (0, 20, .inl (V 16))) := rfl
theorem at_17 (V : Mm) (o : Nat → Int64) (D : Nat → UInt64) : (SW V o D)[17]? = some (.inl (0, 20, .inl (V 17))) := rfl
theorem at_18 (V : Mm) (o : Nat → Int64) (D : Nat → UInt64) : (SW V o D)[18]? = some (.inl (0, 20, .inl (V 18))) := rfl
theorem at_19 (V : Mm) (o : Nat → Int64) (D : Nat → UInt64) : (SW V o D)[19]? = some (.inl (0, 20, .inl (V 19))) := rfl
theorem at_20 (V : Mm) (o : Nat → Int64) (D : Nat → UInt64) : (SW V o D)[20]? = some (.inl (0, 20, .inl (V 20))) := rfl
theorem at_21 (V : Mm) (o : Nat → Int64) (D : Nat → UInt64) : (SW V o D)[21]? = some (.inl (0, 20, .inl (V 21))) := rfl
theorem at_22 (V : Mm) (o : Nat → Int64) (D : Nat → UInt64) : (SW V o D)[22]? = some (.inl (0, 20, .inl (V 22))) := rfl
theorem at_23 (V : Mm) (o : Nat → Int64) (D : Nat → UInt64) : (SW V o D)[23]? = some (.inl (0, 20, .inl (V 23))) := rfl
theorem at_24 (V : Mm) (o : Nat → Int64) (D : Nat → UInt64) : (SW V o D)[24]? = some (.inl (0, 20, .inl (V 24))) := rfl
theorem at_25 (V : Mm) (o : Nat → Int64) (D : Nat → UInt64) : (SW V o D)[25]? = some (.inl (0, 20, .inl (V 25))) := rfl
theorem at_26 (V : Mm) (o : Nat → Int64) (D : Nat → UInt64) : (SW V o D)[26]? = some (.inl (0, 20, .inl (V 26))) := rfl
theorem at_27 (V : Mm) (o : Nat → Int64) (D : Nat → UInt64) : (SW V o D)[27]? = some (.inl (0, 20, .inl (V 27))) := rfl
theorem at_28 (V : Mm) (o : Nat → Int64) (D : Nat → UInt64) : (SW V o D)[28]? = some (.inl (0, 20, .inl (V 28))) := rfl
theorem at_29 (V : Mm) (o : Nat → Int64) (D : Nat → UInt64) : (SW V o D)[29]? = some (.inr (7, [.ref 1, .ref 7, .ref 30, .ref 31, .ref 32, .ref 33, .ref 34, .int (V 29 7)])) := rfl
theorem at_30 (V : Mm) (o : Nat → Int64) (D : Nat → UInt64) : (SW V o D)[30]? = some (.inl (0, 20, .inl (V 30))) := rfl
theorem at_31 (V : Mm) (o : Nat → Int64) (D : Nat → UInt64) : (SW V o D)[31]? = some (.inl (0, 20, .inl (V 31))) := rfl
theorem at_32 (V : Mm) (o : Nat → Int64) (D : Nat → UInt64) : (SW V o D)[32]? = some (.inl (0, 20, .inl (V 32))) := rfl
theorem at_33 (V : Mm) (o : Nat → Int64) (D : Nat → UInt64) : (SW V o D)[33]? = some (.inl (0, 20, .inl (V 33))) := rfl
theorem at_34 (V : Mm) (o : Nat → Int64) (D : Nat → UInt64) : (SW V o D)[34]? = some (.inl (0, 20, .inl (V 34))) := rfl
theorem at_35 (V : Mm) (o : Nat → Int64) (D : Nat → UInt64) : (SW V o D)[35]? = some (.inr (2, [.ref 1, .ref 7, .ref 29])) := rfl
theorem at_36 (V : Mm) (o : Nat → Int64) (D : Nat → UInt64) : (SW V o D)[36]? = some (.inr (1, [.ref 1, .ref 37, .ref 38, .ref 39, .int (V 36 4), .int (V 36 5)])) := rfl
theorem at_37 (V : Mm) (o : Nat → Int64) (D : Nat → UInt64) : (SW V o D)[37]? = some (.inl (0, 60, .inl (V 37))) := rfl
theorem at_38 (V : Mm) (o : Nat → Int64) (D : Nat → UInt64) : (SW V o D)[38]? = some (.inl (0, 20, .inl (V 38))) := rfl
theorem at_39 (V : Mm) (o : Nat → Int64) (D : Nat → UInt64) : (SW V o D)[39]? = some (.inl (1, 60, .inl (V 39))) := rfl
theorem at_40 (V : Mm) (o : Nat → Int64) (D : Nat → UInt64) : (SW V o D)[40]? = some (.inr (4, [.ref 1, .ref 41, .ref 42, .int (V 40 3)])) := rfl
theorem at_41 (V : Mm) (o : Nat → Int64) (D : Nat → UInt64) : (SW V o D)[41]? = some (.inl (1, 20, .inl (V 41))) := rfl
theorem at_42 (V : Mm) (o : Nat → Int64) (D : Nat → UInt64) : (SW V o D)[42]? = some (.inl (0, 20, .inl (V 42))) := rfl
theorem at_43 (V : Mm) (o : Nat → Int64) (D : Nat → UInt64) : (SW V o D)[43]? = some (.inr (5, [.ref 1, .ref 29, .ref 44, .ref 45, .ref 46, .ref 47, .ref 48, .ref 49])) := rfl
theorem at_44 (V : Mm) (o : Nat → Int64) (D : Nat → UInt64) : (SW V o D)[44]? = some (.inl (0, 20, .inl (V 44))) := rfl
theorem at_45 (V : Mm) (o : Nat → Int64) (D : Nat → UInt64) : (SW V o D)[45]? = some (.inl (0, 20, .inl (V 45))) := rfl
theorem at_46 (V : Mm) (o : Nat → Int64) (D : Nat → UInt64) : (SW V o D)[46]? = some (.inl (0, 20, .inl (V 46))) := rfl
theorem at_47 (V : Mm) (o : Nat → Int64) (D : Nat → UInt64) : (SW V o D)[47]? = some (.inl (0, 20, .inl (V 47))) := rfl
theorem at_48 (V : Mm) (o : Nat → Int64) (D : Nat → UInt64) : (SW V o D)[48]? = some (.inl (0, 20, .inl (V 48))) := rfl
theorem at_49 (V : Mm) (o : Nat → Int64) (D : Nat → UInt64) : (SW V o D)[49]? = some (.inl (0, 20, .inl (V 49))) := rfl
theorem at_50 (V : Mm) (o : Nat → Int64) (D : Nat → UInt64) : (SW V o D)[50]? = some (.inr (6, [.ref 1, .ref 29, .ref 51])) := rfl
theorem at_51 (V : Mm) (o : Nat → Int64) (D : Nat → UInt64) : (SW V o D)[51]? = some (.inl (4, 5, .inr (.inr (.inr (.inr (fun i => if i < 5 then some (52 + i) else none)))))) := rfl
theorem at_52 (V : Mm) (o : Nat → Int64) (D : Nat → UInt64) : (SW V o D)[52]? = some (.inl (0, 20, .inl (V 52))) := rfl
theorem at_53 (V : Mm) (o : Nat → Int64) (D : Nat → UInt64) : (SW V o D)[53]? = some (.inl (0, 20, .inl (V 53))) := rfl
theorem at_54 (V : Mm) (o : Nat → Int64) (D : Nat → UInt64) : (SW V o D)[54]? = some (.inl (0, 20, .inl (V 54))) := rfl
theorem at_55 (V : Mm) (o : Nat → Int64) (D : Nat → UInt64) : (SW V o D)[55]? = some (.inl (0, 20, .inl (V 55))) := rfl
theorem at_56 (V : Mm) (o : Nat → Int64) (D : Nat → UInt64) : (SW V o D)[56]? = some (.inl (0, 20, .inl (V 56))) := rfl
theorem at_57 (V : Mm) (o : Nat → Int64) (D : Nat → UInt64) : (SW V o D)[57]? = some (.inr (9, [.int (V 57 0), .ref 58, .ref 59, .ref 60, .ref 61, .ref 62, .ref 63, .ref 64, .ref 65, .int (V 57 9), .int (V 57 10), .ref 66, .ref 67, .ref 68, .ref 69, .ref 70, .ref 71, .int (V 57 17)])) := rfl
theorem at_58 (V : Mm) (o : Nat → Int64) (D : Nat → UInt64) : (SW V o D)[58]? = some (.inl (0, 20, .inl (V 58))) := rfl
theorem at_59 (V : Mm) (o : Nat → Int64) (D : Nat → UInt64) : (SW V o D)[59]? = some (.inl (0, 60, .inl (V 59))) := rfl
theorem at_60 (V : Mm) (o : Nat → Int64) (D : Nat → UInt64) : (SW V o D)[60]? = some (.inl (0, 60, .inl (V 60))) := rfl
theorem at_61 (V : Mm) (o : Nat → Int64) (D : Nat → UInt64) : (SW V o D)[61]? = some (.inl (0, 60, .inl (V 61))) := rfl
theorem at_62 (V : Mm) (o : Nat → Int64) (D : Nat → UInt64) : (SW V o D)[62]? = some (.inl (0, 60, .inl (V 62))) := rfl
theorem at_63 (V : Mm) (o : Nat → Int64) (D : Nat → UInt64) : (SW V o D)[63]? = some (.inl (0, 20, .inl (V 63))) := rfl
theorem at_64 (V : Mm) (o : Nat → Int64) (D : Nat → UInt64) : (SW V o D)[64]? = some (.inl (1, 60, .inl (V 64))) := rfl
theorem at_65 (V : Mm) (o : Nat → Int64) (D : Nat → UInt64) : (SW V o D)[65]? = some (.inl (1, 60, .inl (V 65))) := rfl
theorem at_66 (V : Mm) (o : Nat → Int64) (D : Nat → UInt64) : (SW V o D)[66]? = some (.inl (1, 60, .inl (V 66))) := rfl
theorem at_67 (V : Mm) (o : Nat → Int64) (D : Nat → UInt64) : (SW V o D)[67]? = some (.inl (0, 20, .inl (V 67))) := rfl
theorem at_68 (V : Mm) (o : Nat → Int64) (D : Nat → UInt64) : (SW V o D)[68]? = some (.inl (0, 20, .inl (V 68))) := rfl
theorem at_69 (V : Mm) (o : Nat → Int64) (D : Nat → UInt64) : (SW V o D)[69]? = some (.inl (0, 20, .inl (V 69))) := rfl
theorem at_70 (V : Mm) (o : Nat → Int64) (D : Nat → UInt64) : (SW V o D)[70]? = some (.inl (0, 20, .inl (V 70))) := rfl
theorem at_71 (V : Mm) (o : Nat → Int64) (D : Nat → UInt64) : (SW V o D)[71]? = some (.inl (0, 20, .inl (V 71))) := rfl
theorem at_72 (V : Mm) (o : Nat → Int64) (D : Nat → UInt64) : (SW V o D)[72]? = some (.inl (2, 1, .inr (.inl o))) := rfl
theorem at_73 (V : Mm) (o : Nat → Int64) (D : Nat → UInt64) : (SW V o D)[73]? = some (.inl (3, 1, .inr (.inr (.inr (.inl D))))) := rfl
theorem sa_2 (V : Mm) (o : Nat → Int64) (D : Nat → UInt64) (j : Nat) (x : Int32) : (SW V o D).set 2 (.inl (0, 20, .inl (upd (V 2) j x))) = SW (wr V 2 j x) o D := rfl
theorem sa_3 (V : Mm) (o : Nat → Int64) (D : Nat → UInt64) (j : Nat) (x : Int32) : (SW V o D).set 3 (.inl (0, 60, .inl (upd (V 3) j x))) = SW (wr V 3 j x) o D := rfl
theorem sa_4 (V : Mm) (o : Nat → Int64) (D : Nat → UInt64) (j : Nat) (x : Int32) : (SW V o D).set 4 (.inl (0, 60, .inl (upd (V 4) j x))) = SW (wr V 4 j x) o D := rfl
theorem sa_5 (V : Mm) (o : Nat → Int64) (D : Nat → UInt64) (j : Nat) (x : Int32) : (SW V o D).set 5 (.inl (0, 60, .inl (upd (V 5) j x))) = SW (wr V 5 j x) o D := rfl
theorem sa_6 (V : Mm) (o : Nat → Int64) (D : Nat → UInt64) (j : Nat) (x : Int32) : (SW V o D).set 6 (.inl (1, 60, .inl (upd (V 6) j x))) = SW (wr V 6 j x) o D := rfl
theorem sa_9 (V : Mm) (o : Nat → Int64) (D : Nat → UInt64) (j : Nat) (x : Int32) : (SW V o D).set 9 (.inl (0, 20, .inl (upd (V 9) j x))) = SW (wr V 9 j x) o D := rfl
theorem sa_10 (V : Mm) (o : Nat → Int64) (D : Nat → UInt64) (j : Nat) (x : Int32) : (SW V o D).set 10 (.inl (0, 20, .inl (upd (V 10) j x))) = SW (wr V 10 j x) o D := rfl
theorem sa_11 (V : Mm) (o : Nat → Int64) (D : Nat → UInt64) (j : Nat) (x : Int32) : (SW V o D).set 11 (.inl (0, 20, .inl (upd (V 11) j x))) = SW (wr V 11 j x) o D := rfl
theorem sa_12 (V : Mm) (o : Nat → Int64) (D : Nat → UInt64) (j : Nat) (x : Int32) : (SW V o D).set 12 (.inl (0, 20, .inl (upd (V 12) j x))) = SW (wr V 12 j x) o D := rfl
theorem sa_13 (V : Mm) (o : Nat → Int64) (D : Nat → UInt64) (j : Nat) (x : Int32) : (SW V o D).set 13 (.inl (0, 20, .inl (upd (V 13) j x))) = SW (wr V 13 j x) o D := rfl
theorem sa_14 (V : Mm) (o : Nat → Int64) (D : Nat → UInt64) (j : Nat) (x : Int32) : (SW V o D).set 14 (.inl (0, 20, .inl (upd (V 14) j x))) = SW (wr V 14 j x) o D := rfl
theorem sa_15 (V : Mm) (o : Nat → Int64) (D : Nat → UInt64) (j : Nat) (x : Int32) : (SW V o D).set 15 (.inl (0, 20, .inl (upd (V 15) j x))) = SW (wr V 15 j x) o D := rfl
theorem sa_16 (V : Mm) (o : Nat → Int64) (D : Nat → UInt64) (j : Nat) (x : Int32) : (SW V o D).set 16 (.inl (0, 20, .inl (upd (V 16) j x))) = SW (wr V 16 j x) o D := rfl
theorem sa_17 (V : Mm) (o : Nat → Int64) (D : Nat → UInt64) (j : Nat) (x : Int32) : (SW V o D).set 17 (.inl (0, 20, .inl (upd (V 17) j x))) = SW (wr V 17 j x) o D := rfl
theorem sa_18 (V : Mm) (o : Nat → Int64) (D : Nat → UInt64) (j : Nat) (x : Int32) : (SW V o D).set 18 (.inl (0, 20, .inl (upd (V 18) j x))) = SW (wr V 18 j x) o D := rfl
theorem sa_19 (V : Mm) (o : Nat → Int64) (D : Nat → UInt64) (j : Nat) (x : Int32) : (SW V o D).set 19 (.inl (0, 20, .inl (upd (V 19) j x))) = SW (wr V 19 j x) o D := rfl
theorem sa_20 (V : Mm) (o : Nat → Int64) (D : Nat → UInt64) (j : Nat) (x : Int32) : (SW V o D).set 20 (.inl (0, 20, .inl (upd (V 20) j x))) = SW (wr V 20 j x) o D := rfl
theorem sa_21 (V : Mm) (o : Nat → Int64) (D : Nat → UInt64) (j : Nat) (x : Int32) : (SW V o D).set 21 (.inl (0, 20, .inl (upd (V 21) j x))) = SW (wr V 21 j x) o D := rfl
theorem sa_22 (V : Mm) (o : Nat → Int64) (D : Nat → UInt64) (j : Nat) (x : Int32) : (SW V o D).set 22 (.inl (0, 20, .inl (upd (V 22) j x))) = SW (wr V 22 j x) o D := rfl
theorem sa_23 (V : Mm) (o : Nat → Int64) (D : Nat → UInt64) (j : Nat) (x : Int32) : (SW V o D).set 23 (.inl (0, 20, .inl (upd (V 23) j x))) = SW (wr V 23 j x) o D := rfl
theorem sa_24 (V : Mm) (o : Nat → Int64) (D : Nat → UInt64) (j : Nat) (x : Int32) : (SW V o D).set 24 (.inl (0, 20, .inl (upd (V 24) j x))) = SW (wr V 24 j x) o D := rfl
theorem sa_25 (V : Mm) (o : Nat → Int64) (D : Nat → UInt64) (j : Nat) (x : Int32) : (SW V o D).set 25 (.inl (0, 20, .inl (upd (V 25) j x))) = SW (wr V 25 j x) o D := rfl
theorem sa_26 (V : Mm) (o : Nat → Int64) (D : Nat → UInt64) (j : Nat) (x : Int32) : (SW V o D).set 26 (.inl (0, 20, .inl (upd (V 26) j x))) = SW (wr V 26 j x) o D := rfl
theorem sa_27 (V : Mm) (o : Nat → Int64) (D : Nat → UInt64) (j : Nat) (x : Int32) : (SW V o D).set 27 (.inl (0, 20, .inl (upd (V 27) j x))) = SW (wr V 27 j x) o D := rfl
theorem sa_28 (V : Mm) (o : Nat → Int64) (D : Nat → UInt64) (j : Nat) (x : Int32) : (SW V o D).set 28 (.inl (0, 20, .inl (upd (V 28) j x))) = SW (wr V 28 j x) o D := rfl
theorem sa_30 (V : Mm) (o : Nat → Int64) (D : Nat → UInt64) (j : Nat) (x : Int32) : (SW V o D).set 30 (.inl (0, 20, .inl (upd (V 30) j x))) = SW (wr V 30 j x) o D := rfl
theorem sa_31 (V : Mm) (o : Nat → Int64) (D : Nat → UInt64) (j : Nat) (x : Int32) : (SW V o D).set 31 (.inl (0, 20, .inl (upd (V 31) j x))) = SW (wr V 31 j x) o D := rfl
theorem sa_32 (V : Mm) (o : Nat → Int64) (D : Nat → UInt64) (j : Nat) (x : Int32) : (SW V o D).set 32 (.inl (0, 20, .inl (upd (V 32) j x))) = SW (wr V 32 j x) o D := rfl
theorem sa_33 (V : Mm) (o : Nat → Int64) (D : Nat → UInt64) (j : Nat) (x : Int32) : (SW V o D).set 33 (.inl (0, 20, .inl (upd (V 33) j x))) = SW (wr V 33 j x) o D := rfl
theorem sa_34 (V : Mm) (o : Nat → Int64) (D : Nat → UInt64) (j : Nat) (x : Int32) : (SW V o D).set 34 (.inl (0, 20, .inl (upd (V 34) j x))) = SW (wr V 34 j x) o D := rfl
theorem sa_37 (V : Mm) (o : Nat → Int64) (D : Nat → UInt64) (j : Nat) (x : Int32) : (SW V o D).set 37 (.inl (0, 60, .inl (upd (V 37) j x))) = SW (wr V 37 j x) o D := rfl
theorem sa_38 (V : Mm) (o : Nat → Int64) (D : Nat → UInt64) (j : Nat) (x : Int32) : (SW V o D).set 38 (.inl (0, 20, .inl (upd (V 38) j x))) = SW (wr V 38 j x) o D := rfl
theorem sa_39 (V : Mm) (o : Nat → Int64) (D : Nat → UInt64) (j : Nat) (x : Int32) : (SW V o D).set 39 (.inl (1, 60, .inl (upd (V 39) j x))) = SW (wr V 39 j x) o D := rfl
theorem sa_41 (V : Mm) (o : Nat → Int64) (D : Nat → UInt64) (j : Nat) (x : Int32) : (SW V o D).set 41 (.inl (1, 20, .inl (upd (V 41) j x))) = SW (wr V 41 j x) o D := rfl
theorem sa_42 (V : Mm) (o : Nat → Int64) (D : Nat → UInt64) (j : Nat) (x : Int32) : (SW V o D).set 42 (.inl (0, 20, .inl (upd (V 42) j x))) = SW (wr V 42 j x) o D := rfl
theorem sa_44 (V : Mm) (o : Nat → Int64) (D : Nat → UInt64) (j : Nat) (x : Int32) : (SW V o D).set 44 (.inl (0, 20, .inl (upd (V 44) j x))) = SW (wr V 44 j x) o D := rfl
theorem sa_45 (V : Mm) (o : Nat → Int64) (D : Nat → UInt64) (j : Nat) (x : Int32) : (SW V o D).set 45 (.inl (0, 20, .inl (upd (V 45) j x))) = SW (wr V 45 j x) o D := rfl
theorem sa_46 (V : Mm) (o : Nat → Int64) (D : Nat → UInt64) (j : Nat) (x : Int32) : (SW V o D).set 46 (.inl (0, 20, .inl (upd (V 46) j x))) = SW (wr V 46 j x) o D := rfl
theorem sa_47 (V : Mm) (o : Nat → Int64) (D : Nat → UInt64) (j : Nat) (x : Int32) : (SW V o D).set 47 (.inl (0, 20, .inl (upd (V 47) j x))) = SW (wr V 47 j x) o D := rfl
theorem sa_48 (V : Mm) (o : Nat → Int64) (D : Nat → UInt64) (j : Nat) (x : Int32) : (SW V o D).set 48 (.inl (0, 20, .inl (upd (V 48) j x))) = SW (wr V 48 j x) o D := rfl
theorem sa_49 (V : Mm) (o : Nat → Int64) (D : Nat → UInt64) (j : Nat) (x : Int32) : (SW V o D).set 49 (.inl (0, 20, .inl (upd (V 49) j x))) = SW (wr V 49 j x) o D := rfl
theorem sa_52 (V : Mm) (o : Nat → Int64) (D : Nat → UInt64) (j : Nat) (x : Int32) : (SW V o D).set 52 (.inl (0, 20, .inl (upd (V 52) j x))) = SW (wr V 52 j x) o D := rfl
theorem sa_53 (V : Mm) (o : Nat → Int64) (D : Nat → UInt64) (j : Nat) (x : Int32) : (SW V o D).set 53 (.inl (0, 20, .inl (upd (V 53) j x))) = SW (wr V 53 j x) o D := rfl
theorem sa_54 (V : Mm) (o : Nat → Int64) (D : Nat → UInt64) (j : Nat) (x : Int32) : (SW V o D).set 54 (.inl (0, 20, .inl (upd (V 54) j x))) = SW (wr V 54 j x) o D := rfl
theorem sa_55 (V : Mm) (o : Nat → Int64) (D : Nat → UInt64) (j : Nat) (x : Int32) : (SW V o D).set 55 (.inl (0, 20, .inl (upd (V 55) j x))) = SW (wr V 55 j x) o D := rfl
theorem sa_56 (V : Mm) (o : Nat → Int64) (D : Nat → UInt64) (j : Nat) (x : Int32) : (SW V o D).set 56 (.inl (0, 20, .inl (upd (V 56) j x))) = SW (wr V 56 j x) o D := rfl
theorem sa_58 (V : Mm) (o : Nat → Int64) (D : Nat → UInt64) (j : Nat) (x : Int32) : (SW V o D).set 58 (.inl (0, 20, .inl (upd (V 58) j x))) = SW (wr V 58 j x) o D := rfl
theorem sa_59 (V : Mm) (o : Nat → Int64) (D : Nat → UInt64) (j : Nat) (x : Int32) : (SW V o D).set 59 (.inl (0, 60, .inl (upd (V 59) j x))) = SW (wr V 59 j x) o D := rfl
theorem sa_60 (V : Mm) (o : Nat → Int64) (D : Nat → UInt64) (j : Nat) (x : Int32) : (SW V o D).set 60 (.inl (0, 60, .inl (upd (V 60) j x))) = SW (wr V 60 j x) o D := rfl
theorem sa_61 (V : Mm) (o : Nat → Int64) (D : Nat → UInt64) (j : Nat) (x : Int32) : (SW V o D).set 61 (.inl (0, 60, .inl (upd (V 61) j x))) = SW (wr V 61 j x) o D := rfl
theorem sa_62 (V : Mm) (o : Nat → Int64) (D : Nat → UInt64) (j : Nat) (x : Int32) : (SW V o D).set 62 (.inl (0, 60, .inl (upd (V 62) j x))) = SW (wr V 62 j x) o D := rfl
theorem sa_63 (V : Mm) (o : Nat → Int64) (D : Nat → UInt64) (j : Nat) (x : Int32) : (SW V o D).set 63 (.inl (0, 20, .inl (upd (V 63) j x))) = SW (wr V 63 j x) o D := rfl
theorem sa_64 (V : Mm) (o : Nat → Int64) (D : Nat → UInt64) (j : Nat) (x : Int32) : (SW V o D).set 64 (.inl (1, 60, .inl (upd (V 64) j x))) = SW (wr V 64 j x) o D := rfl
theorem sa_65 (V : Mm) (o : Nat → Int64) (D : Nat → UInt64) (j : Nat) (x : Int32) : (SW V o D).set 65 (.inl (1, 60, .inl (upd (V 65) j x))) = SW (wr V 65 j x) o D := rfl
theorem sa_66 (V : Mm) (o : Nat → Int64) (D : Nat → UInt64) (j : Nat) (x : Int32) : (SW V o D).set 66 (.inl (1, 60, .inl (upd (V 66) j x))) = SW (wr V 66 j x) o D := rfl
theorem sa_67 (V : Mm) (o : Nat → Int64) (D : Nat → UInt64) (j : Nat) (x : Int32) : (SW V o D).set 67 (.inl (0, 20, .inl (upd (V 67) j x))) = SW (wr V 67 j x) o D := rfl
theorem sa_68 (V : Mm) (o : Nat → Int64) (D : Nat → UInt64) (j : Nat) (x : Int32) : (SW V o D).set 68 (.inl (0, 20, .inl (upd (V 68) j x))) = SW (wr V 68 j x) o D := rfl
theorem sa_69 (V : Mm) (o : Nat → Int64) (D : Nat → UInt64) (j : Nat) (x : Int32) : (SW V o D).set 69 (.inl (0, 20, .inl (upd (V 69) j x))) = SW (wr V 69 j x) o D := rfl
theorem sa_70 (V : Mm) (o : Nat → Int64) (D : Nat → UInt64) (j : Nat) (x : Int32) : (SW V o D).set 70 (.inl (0, 20, .inl (upd (V 70) j x))) = SW (wr V 70 j x) o D := rfl
theorem sa_71 (V : Mm) (o : Nat → Int64) (D : Nat → UInt64) (j : Nat) (x : Int32) : (SW V o D).set 71 (.inl (0, 20, .inl (upd (V 71) j x))) = SW (wr V 71 j x) o D := rfl
theorem sf_1_5 (V : Mm) (o : Nat → Int64) (D : Nat → UInt64) (x : Int32) : (SW V o D).set 1 (.inr (3, [.ref 2, .ref 3, .ref 4, .ref 5, .ref 6, .int x, .int (V 1 6)])) = SW (wr V 1 5 x) o D := rfl
theorem sf_1_6 (V : Mm) (o : Nat → Int64) (D : Nat → UInt64) (x : Int32) : (SW V o D).set 1 (.inr (3, [.ref 2, .ref 3, .ref 4, .ref 5, .ref 6, .int (V 1 5), .int x])) = SW (wr V 1 6 x) o D := rfl
theorem sf_7_2 (V : Mm) (o : Nat → Int64) (D : Nat → UInt64) (x : Int32) : (SW V o D).set 7 (.inr (0, [.ref 1, .ref 8, .int x, .int (V 7 3)])) = SW (wr V 7 2 x) o D := rfl
theorem sf_7_3 (V : Mm) (o : Nat → Int64) (D : Nat → UInt64) (x : Int32) : (SW V o D).set 7 (.inr (0, [.ref 1, .ref 8, .int (V 7 2), .int x])) = SW (wr V 7 3 x) o D := rfl
theorem sf_29_7 (V : Mm) (o : Nat → Int64) (D : Nat → UInt64) (x : Int32) : (SW V o D).set 29 (.inr (7, [.ref 1, .ref 7, .ref 30, .ref 31, .ref 32, .ref 33, .ref 34, .int x])) = SW (wr V 29 7 x) o D := rfl
theorem sf_36_4 (V : Mm) (o : Nat → Int64) (D : Nat → UInt64) (x : Int32) : (SW V o D).set 36 (.inr (1, [.ref 1, .ref 37, .ref 38, .ref 39, .int x, .int (V 36 5)])) = SW (wr V 36 4 x) o D := rfl
theorem sf_36_5 (V : Mm) (o : Nat → Int64) (D : Nat → UInt64) (x : Int32) : (SW V o D).set 36 (.inr (1, [.ref 1, .ref 37, .ref 38, .ref 39, .int (V 36 4), .int x])) = SW (wr V 36 5 x) o D := rfl
theorem sf_40_3 (V : Mm) (o : Nat → Int64) (D : Nat → UInt64) (x : Int32) : (SW V o D).set 40 (.inr (4, [.ref 1, .ref 41, .ref 42, .int x])) = SW (wr V 40 3 x) o D := rfl
theorem sf_57_0 (V : Mm) (o : Nat → Int64) (D : Nat → UInt64) (x : Int32) : (SW V o D).set 57 (.inr (9, [.int x, .ref 58, .ref 59, .ref 60, .ref 61, .ref 62, .ref 63, .ref 64, .ref 65, .int (V 57 9), .int (V 57 10), .ref 66, .ref 67, .ref 68, .ref 69, .ref 70, .ref 71, .int (V 57 17)])) = SW (wr V 57 0 x) o D := rfl
theorem sf_57_9 (V : Mm) (o : Nat → Int64) (D : Nat → UInt64) (x : Int32) : (SW V o D).set 57 (.inr (9, [.int (V 57 0), .ref 58, .ref 59, .ref 60, .ref 61, .ref 62, .ref 63, .ref 64, .ref 65, .int x, .int (V 57 10), .ref 66, .ref 67, .ref 68, .ref 69, .ref 70, .ref 71, .int (V 57 17)])) = SW (wr V 57 9 x) o D := rfl
theorem sf_57_10 (V : Mm) (o : Nat → Int64) (D : Nat → UInt64) (x : Int32) : (SW V o D).set 57 (.inr (9, [.int (V 57 0), .ref 58, .ref 59, .ref 60, .ref 61, .ref 62, .ref 63, .ref 64, .ref 65, .int (V 57 9), .int x, .ref 66, .ref 67, .ref 68, .ref 69, .ref 70, .ref 71, .int (V 57 17)])) = SW (wr V 57 10 x) o D := rfl
theorem sf_57_17 (V : Mm) (o : Nat → Int64) (D : Nat → UInt64) (x : Int32) : (SW V o D).set 57 (.inr (9, [.int (V 57 0), .ref 58, .ref 59, .ref 60, .ref 61, .ref 62, .ref 63, .ref 64, .ref 65, .int (V 57 9), .int (V 57 10), .ref 66, .ref 67, .ref 68, .ref 69, .ref 70, .ref 71, .int x])) = SW (wr V 57 17 x) o D := rfl
theorem so_72 (V : Mm) (o o2 : Nat → Int64) (D : Nat → UInt64) : (SW V o D).set 72 (.inl (2, 1, .inr (.inl o2))) = SW V o2 D := rfl
theorem so_73 (V : Mm) (o : Nat → Int64) (D D2 : Nat → UInt64) : (SW V o D).set 73 (.inl (3, 1, .inr (.inr (.inr (.inl D2))))) = SW V o D2 := rfl
theorem at_r9 (V : Mm) (o : Nat → Int64) (D : Nat → UInt64) : ∀ (r : Nat), r < 20 → (SW V o D)[9 + r]? = some (.inl (0, 20, .inl (V (9 + r))))
  | 0, _ => rfl
  | 1, _ => rfl
  | 2, _ => rfl
  | 3, _ => rfl
  | 4, _ => rfl
  | 5, _ => rfl
  | 6, _ => rfl
  | 7, _ => rfl
  | 8, _ => rfl
  | 9, _ => rfl
  | 10, _ => rfl
  | 11, _ => rfl
  | 12, _ => rfl
  | 13, _ => rfl
  | 14, _ => rfl
  | 15, _ => rfl
  | 16, _ => rfl
  | 17, _ => rfl
  | 18, _ => rfl
  | 19, _ => rfl
  | n + 20, h => absurd h (by omega)
theorem sa_r9 (V : Mm) (o : Nat → Int64) (D : Nat → UInt64) (j : Nat) (x : Int32) : ∀ (r : Nat), r < 20 → (SW V o D).set (9 + r) (.inl (0, 20, .inl (upd (V (9 + r)) j x))) = SW (wr V (9 + r) j x) o D
  | 0, _ => rfl
  | 1, _ => rfl
  | 2, _ => rfl
  | 3, _ => rfl
  | 4, _ => rfl
  | 5, _ => rfl
  | 6, _ => rfl
  | 7, _ => rfl
  | 8, _ => rfl
  | 9, _ => rfl
  | 10, _ => rfl
  | 11, _ => rfl
  | 12, _ => rfl
  | 13, _ => rfl
  | 14, _ => rfl
  | 15, _ => rfl
  | 16, _ => rfl
  | 17, _ => rfl
  | 18, _ => rfl
  | 19, _ => rfl
  | n + 20, h => absurd h (by omega)
theorem at_r52 (V : Mm) (o : Nat → Int64) (D : Nat → UInt64) : ∀ (r : Nat), r < 5 → (SW V o D)[52 + r]? = some (.inl (0, 20, .inl (V (52 + r))))
  | 0, _ => rfl
  | 1, _ => rfl
  | 2, _ => rfl
  | 3, _ => rfl
  | 4, _ => rfl
  | n + 5, h => absurd h (by omega)
theorem sa_r52 (V : Mm) (o : Nat → Int64) (D : Nat → UInt64) (j : Nat) (x : Int32) : ∀ (r : Nat), r < 5 → (SW V o D).set (52 + r) (.inl (0, 20, .inl (upd (V (52 + r)) j x))) = SW (wr V (52 + r) j x) o D
  | 0, _ => rfl
  | 1, _ => rfl
  | 2, _ => rfl
  | 3, _ => rfl
  | 4, _ => rfl
  | n + 5, h => absurd h (by omega)
theorem ic_X0 : ∀ w ∈ u_ws RX0 TX0 4, w ∈ tk_w := by decide +kernel
theorem cl_X0 : cl_ok TX0 4 tyX0 := ⟨tyX0_ok, nmX0⟩
theorem ic_X1 : ∀ w ∈ u_ws RX1 TX1 6, w ∈ tk_w := by decide +kernel
theorem cl_X1 : cl_ok TX1 6 tyX1 := ⟨tyX1_ok, nmX1⟩
theorem ic_X2 : ∀ w ∈ u_ws RX2 TX2 3, w ∈ tk_w := by decide +kernel
theorem cl_X2 : cl_ok TX2 3 tyX2 := ⟨tyX2_ok, nmX2⟩
theorem ic_X3 : ∀ w ∈ u_ws RX3 TX3 7, w ∈ tk_w := by decide +kernel
theorem cl_X3 : cl_ok TX3 7 tyX3 := ⟨tyX3_ok, nmX3⟩
theorem ic_X4 : ∀ w ∈ u_ws RX4 TX4 4, w ∈ tk_w := by decide +kernel
theorem cl_X4 : cl_ok TX4 4 tyX4 := ⟨tyX4_ok, nmX4⟩
theorem ic_X5 : ∀ w ∈ u_ws RX5 TX5 8, w ∈ tk_w := by decide +kernel
theorem cl_X5 : cl_ok TX5 8 tyX5 := ⟨tyX5_ok, nmX5⟩
theorem ic_X6 : ∀ w ∈ u_ws RX6 TX6 3, w ∈ tk_w := by decide +kernel
theorem cl_X6 : cl_ok TX6 3 tyX6 := ⟨tyX6_ok, nmX6⟩
theorem ic_X7 : ∀ w ∈ u_ws RX7 TX7 8, w ∈ tk_w := by decide +kernel
theorem cl_X7 : cl_ok TX7 8 tyX7 := ⟨tyX7_ok, nmX7⟩
theorem ic_X8 : ∀ w ∈ u_ws RX8 TX8 8, w ∈ tk_w := by decide +kernel
theorem cl_X8 : cl_ok TX8 8 tyX8 := ⟨tyX8_ok, nmX8⟩
theorem ic_X9 : ∀ w ∈ u_ws RX9 TX9 18, w ∈ tk_w := by decide +kernel
theorem cl_X9 : cl_ok TX9 18 tyX9 := ⟨tyX9_ok, nmX9⟩
theorem fl_X0_11 : fl_ok RX0 11 0 1 RX0 TX0 4 := ⟨rfl, by decide, by decide +kernel, ic_X0⟩
theorem fl_X0_16 : fl_ok RX0 16 0 2 RX0 TX0 4 := ⟨rfl, by decide, by decide +kernel, ic_X0⟩
theorem fl_X0_20 : fl_ok RX0 20 0 3 RX0 TX0 4 := ⟨rfl, by decide, by decide +kernel, ic_X0⟩
theorem fl_X0_23 : fl_ok RX0 23 0 0 RX0 TX0 4 := ⟨rfl, by decide, by decide +kernel, ic_X0⟩
theorem fl_X3_28 : fl_ok RX3 28 3 5 RX3 TX3 7 := ⟨rfl, by decide, by decide +kernel, ic_X3⟩
theorem fl_X3_32 : fl_ok RX3 32 3 6 RX3 TX3 7 := ⟨rfl, by decide, by decide +kernel, ic_X3⟩
theorem fl_X3_15 : fl_ok RX3 15 3 1 RX3 TX3 7 := ⟨rfl, by decide, by decide +kernel, ic_X3⟩
theorem fl_X3_18 : fl_ok RX3 18 3 2 RX3 TX3 7 := ⟨rfl, by decide, by decide +kernel, ic_X3⟩
theorem fl_X3_21 : fl_ok RX3 21 3 3 RX3 TX3 7 := ⟨rfl, by decide, by decide +kernel, ic_X3⟩
theorem fl_X1_9 : fl_ok RX1 9 1 1 RX1 TX1 6 := ⟨rfl, by decide, by decide +kernel, ic_X1⟩
theorem fl_X1_15 : fl_ok RX1 15 1 2 RX1 TX1 6 := ⟨rfl, by decide, by decide +kernel, ic_X1⟩
theorem fl_X1_18 : fl_ok RX1 18 1 3 RX1 TX1 6 := ⟨rfl, by decide, by decide +kernel, ic_X1⟩
theorem fl_X1_22 : fl_ok RX1 22 1 4 RX1 TX1 6 := ⟨rfl, by decide, by decide +kernel, ic_X1⟩
theorem fl_X1_26 : fl_ok RX1 26 1 5 RX1 TX1 6 := ⟨rfl, by decide, by decide +kernel, ic_X1⟩
theorem fl_X1_29 : fl_ok RX1 29 1 0 RX1 TX1 6 := ⟨rfl, by decide, by decide +kernel, ic_X1⟩
theorem fl_X3_24 : fl_ok RX3 24 3 4 RX3 TX3 7 := ⟨rfl, by decide, by decide +kernel, ic_X3⟩
theorem fl_X2_9 : fl_ok RX2 9 2 0 RX2 TX2 3 := ⟨rfl, by decide, by decide +kernel, ic_X2⟩
theorem fl_X2_15 : fl_ok RX2 15 2 1 RX2 TX2 3 := ⟨rfl, by decide, by decide +kernel, ic_X2⟩
theorem fl_X2_19 : fl_ok RX2 19 2 2 RX2 TX2 3 := ⟨rfl, by decide, by decide +kernel, ic_X2⟩
theorem fl_X3_9 : fl_ok RX3 9 3 0 RX3 TX3 7 := ⟨rfl, by decide, by decide +kernel, ic_X3⟩
theorem fl_X7_31 : fl_ok RX7 31 7 0 RX7 TX7 8 := ⟨rfl, by decide, by decide +kernel, ic_X7⟩
theorem fl_X7_15 : fl_ok RX7 15 7 3 RX7 TX7 8 := ⟨rfl, by decide, by decide +kernel, ic_X7⟩
theorem fl_X7_27 : fl_ok RX7 27 7 7 RX7 TX7 8 := ⟨rfl, by decide, by decide +kernel, ic_X7⟩
theorem fl_X7_9 : fl_ok RX7 9 7 2 RX7 TX7 8 := ⟨rfl, by decide, by decide +kernel, ic_X7⟩
theorem fl_X7_18 : fl_ok RX7 18 7 4 RX7 TX7 8 := ⟨rfl, by decide, by decide +kernel, ic_X7⟩
theorem fl_X7_21 : fl_ok RX7 21 7 5 RX7 TX7 8 := ⟨rfl, by decide, by decide +kernel, ic_X7⟩
theorem fl_X7_24 : fl_ok RX7 24 7 6 RX7 TX7 8 := ⟨rfl, by decide, by decide +kernel, ic_X7⟩
theorem fl_X7_35 : fl_ok RX7 35 7 1 RX7 TX7 8 := ⟨rfl, by decide, by decide +kernel, ic_X7⟩
theorem fl_X4_9 : fl_ok RX4 9 4 1 RX4 TX4 4 := ⟨rfl, by decide, by decide +kernel, ic_X4⟩
theorem fl_X4_15 : fl_ok RX4 15 4 2 RX4 TX4 4 := ⟨rfl, by decide, by decide +kernel, ic_X4⟩
theorem fl_X4_19 : fl_ok RX4 19 4 3 RX4 TX4 4 := ⟨rfl, by decide, by decide +kernel, ic_X4⟩
theorem fl_X4_23 : fl_ok RX4 23 4 0 RX4 TX4 4 := ⟨rfl, by decide, by decide +kernel, ic_X4⟩
theorem fl_X5_9 : fl_ok RX5 9 5 2 RX5 TX5 8 := ⟨rfl, by decide, by decide +kernel, ic_X5⟩
theorem fl_X5_15 : fl_ok RX5 15 5 3 RX5 TX5 8 := ⟨rfl, by decide, by decide +kernel, ic_X5⟩
theorem fl_X5_18 : fl_ok RX5 18 5 4 RX5 TX5 8 := ⟨rfl, by decide, by decide +kernel, ic_X5⟩
theorem fl_X5_21 : fl_ok RX5 21 5 5 RX5 TX5 8 := ⟨rfl, by decide, by decide +kernel, ic_X5⟩
theorem fl_X5_24 : fl_ok RX5 24 5 6 RX5 TX5 8 := ⟨rfl, by decide, by decide +kernel, ic_X5⟩
theorem fl_X5_27 : fl_ok RX5 27 5 7 RX5 TX5 8 := ⟨rfl, by decide, by decide +kernel, ic_X5⟩
theorem fl_X5_30 : fl_ok RX5 30 5 0 RX5 TX5 8 := ⟨rfl, by decide, by decide +kernel, ic_X5⟩
theorem fl_X5_34 : fl_ok RX5 34 5 1 RX5 TX5 8 := ⟨rfl, by decide, by decide +kernel, ic_X5⟩
theorem fl_X6_11 : fl_ok RX6 11 6 2 RX6 TX6 3 := ⟨rfl, by decide, by decide +kernel, ic_X6⟩
theorem fl_X6_16 : fl_ok RX6 16 6 0 RX6 TX6 3 := ⟨rfl, by decide, by decide +kernel, ic_X6⟩
theorem fl_X6_20 : fl_ok RX6 20 6 1 RX6 TX6 3 := ⟨rfl, by decide, by decide +kernel, ic_X6⟩
theorem fl_X8_10 : fl_ok RX8 10 8 0 RX8 TX8 8 := ⟨rfl, by decide, by decide +kernel, ic_X8⟩
theorem fl_X8_21 : fl_ok RX8 21 8 1 RX8 TX8 8 := ⟨rfl, by decide, by decide +kernel, ic_X8⟩
theorem fl_X8_30 : fl_ok RX8 30 8 2 RX8 TX8 8 := ⟨rfl, by decide, by decide +kernel, ic_X8⟩
theorem fl_X8_39 : fl_ok RX8 39 8 3 RX8 TX8 8 := ⟨rfl, by decide, by decide +kernel, ic_X8⟩
theorem fl_X8_46 : fl_ok RX8 46 8 4 RX8 TX8 8 := ⟨rfl, by decide, by decide +kernel, ic_X8⟩
theorem fl_X8_53 : fl_ok RX8 53 8 5 RX8 TX8 8 := ⟨rfl, by decide, by decide +kernel, ic_X8⟩
theorem fl_X8_62 : fl_ok RX8 62 8 6 RX8 TX8 8 := ⟨rfl, by decide, by decide +kernel, ic_X8⟩
theorem fl_X8_69 : fl_ok RX8 69 8 7 RX8 TX8 8 := ⟨rfl, by decide, by decide +kernel, ic_X8⟩
theorem fl_X9_9 : fl_ok RX9 9 9 1 RX9 TX9 18 := ⟨rfl, by decide, by decide +kernel, ic_X9⟩
theorem fl_X9_13 : fl_ok RX9 13 9 2 RX9 TX9 18 := ⟨rfl, by decide, by decide +kernel, ic_X9⟩
theorem fl_X9_16 : fl_ok RX9 16 9 3 RX9 TX9 18 := ⟨rfl, by decide, by decide +kernel, ic_X9⟩
theorem fl_X9_19 : fl_ok RX9 19 9 4 RX9 TX9 18 := ⟨rfl, by decide, by decide +kernel, ic_X9⟩
theorem fl_X9_22 : fl_ok RX9 22 9 5 RX9 TX9 18 := ⟨rfl, by decide, by decide +kernel, ic_X9⟩
theorem fl_X9_25 : fl_ok RX9 25 9 6 RX9 TX9 18 := ⟨rfl, by decide, by decide +kernel, ic_X9⟩
theorem fl_X9_28 : fl_ok RX9 28 9 7 RX9 TX9 18 := ⟨rfl, by decide, by decide +kernel, ic_X9⟩
theorem fl_X9_32 : fl_ok RX9 32 9 8 RX9 TX9 18 := ⟨rfl, by decide, by decide +kernel, ic_X9⟩
theorem fl_X9_35 : fl_ok RX9 35 9 11 RX9 TX9 18 := ⟨rfl, by decide, by decide +kernel, ic_X9⟩
theorem fl_X9_38 : fl_ok RX9 38 9 12 RX9 TX9 18 := ⟨rfl, by decide, by decide +kernel, ic_X9⟩
theorem fl_X9_41 : fl_ok RX9 41 9 13 RX9 TX9 18 := ⟨rfl, by decide, by decide +kernel, ic_X9⟩
theorem fl_X9_44 : fl_ok RX9 44 9 14 RX9 TX9 18 := ⟨rfl, by decide, by decide +kernel, ic_X9⟩
theorem fl_X9_47 : fl_ok RX9 47 9 15 RX9 TX9 18 := ⟨rfl, by decide, by decide +kernel, ic_X9⟩
theorem fl_X9_50 : fl_ok RX9 50 9 16 RX9 TX9 18 := ⟨rfl, by decide, by decide +kernel, ic_X9⟩
theorem fl_X9_53 : fl_ok RX9 53 9 0 RX9 TX9 18 := ⟨rfl, by decide, by decide +kernel, ic_X9⟩
theorem fl_X9_57 : fl_ok RX9 57 9 9 RX9 TX9 18 := ⟨rfl, by decide, by decide +kernel, ic_X9⟩
theorem fl_X9_64 : fl_ok RX9 64 9 10 RX9 TX9 18 := ⟨rfl, by decide, by decide +kernel, ic_X9⟩
theorem fl_X9_94 : fl_ok RX9 94 9 17 RX9 TX9 18 := ⟨rfl, by decide, by decide +kernel, ic_X9⟩
end
