/-! THE WORLD: 0 Thicket, 1 Graph (2 values, 3 ones, 4 others, 5 weights, 6 present), 7 Forest (8 edgeBetween, 9..28 its rows), 29 RootedTree (30 order, 31 depths, 32 parents, 33 sums, 34 lastEdges), 35 ForestKeeper, 36 ForestAnew (37 sorted, 38 groups, 39 chosen), 40 GraphWalk (41 seen, 42 queue), 43 HeavyPaths (44 sizes, 45 sums, 46 heavyChildren, 47 heads, 48 sumsToHead, 49 lights), 50 Jumps (51 targets, 52..56 its rows), 57 ThicketModel (58 values, 59 ones, 60 others, 61 weights, 62 order, 63 labels, 64 isPresent, 65 isForest, 66 isThen, 67 parents, 68 depths, 69 sizes, 70 heavies, 71 row), 72 out, 73 outD. V a j: the place j of the cell a. -/
abbrev Mm : Type := Nat → Nat → Int32
def SW (V : Mm) (o : Nat → Int64) (D : Nat → UInt64) : List va_E := [.inr (8, [.ref 1, .ref 7, .ref 29, .ref 35, .ref 36, .ref 40, .ref 43, .ref 50]), .inr (3, [.ref 2, .ref 3, .ref 4, .ref 5, .ref 6, .int (V 1 5), .int (V 1 6)]), .inl (0, 20, .inl (V 2)), .inl (0, 60, .inl (V 3)), .inl (0, 60, .inl (V 4)), .inl (0, 60, .inl (V 5)), .inl (1, 60, .inl (V 6)), .inr (0, [.ref 1, .ref 8, .int (V 7 2), .int (V 7 3)]), .inl (4, 20, .inr (.inr (.inr (.inr (fun i => if i < 20 then some (9 + i) else none))))), .inl (0, 20, .inl (V 9)), .inl (0, 20, .inl (V 10)), .inl (0, 20, .inl (V 11)), .inl (0, 20, .inl (V 12)), .inl (0, 20, .inl (V 13)), .inl (0, 20, .inl (V 14)), .inl (0, 20, .inl (V 15)), .inl (0, 20, .inl (V 16)), .inl (0, 20, .inl (V 17)), .inl (0, 20, .inl (V 18)), .inl (0, 20, .inl (V 19)), .inl (0, 20, .inl (V 20)), .inl (0, 20, .inl (V 21)), .inl (0, 20, .inl (V 22)), .inl (0, 20, .inl (V 23)), .inl (0, 20, .inl (V 24)), .inl (0, 20, .inl (V 25)), .inl (0, 20, .inl (V 26)), .inl (0, 20, .inl (V 27)), .inl (0, 20, .inl (V 28)), .inr (7, [.ref 1, .ref 7, .ref 30, .ref 31, .ref 32, .ref 33, .ref 34, .int (V 29 7)]), .inl (0, 20, .inl (V 30)), .inl (0, 20, .inl (V 31)), .inl (0, 20, .inl (V 32)), .inl (0, 20, .inl (V 33)), .inl (0, 20, .inl (V 34)), .inr (2, [.ref 1, .ref 7, .ref 29]), .inr (1, [.ref 1, .ref 37, .ref 38, .ref 39, .int (V 36 4), .int (V 36 5)]), .inl (0, 60, .inl (V 37)), .inl (0, 20, .inl (V 38)), .inl (1, 60, .inl (V 39)), .inr (4, [.ref 1, .ref 41, .ref 42, .int (V 40 3)]), .inl (1, 20, .inl (V 41)), .inl (0, 20, .inl (V 42)), .inr (5, [.ref 1, .ref 29, .ref 44, .ref 45, .ref 46, .ref 47, .ref 48, .ref 49]), .inl (0, 20, .inl (V 44)), .inl (0, 20, .inl (V 45)), .inl (0, 20, .inl (V 46)), .inl (0, 20, .inl (V 47)), .inl (0, 20, .inl (V 48)), .inl (0, 20, .inl (V 49)), .inr (6, [.ref 1, .ref 29, .ref 51]), .inl (4, 5, .inr (.inr (.inr (.inr (fun i => if i < 5 then some (52 + i) else none))))), .inl (0, 20, .inl (V 52)), .inl (0, 20, .inl (V 53)), .inl (0, 20, .inl (V 54)), .inl (0, 20, .inl (V 55)), .inl (0, 20, .inl (V 56)), .inr (9, [.int (V 57 0), .ref 58, .ref 59, .ref 60, .ref 61, .ref 62, .ref 63, .ref 64, .ref 65, .int (V 57 9), .int (V 57 10), .ref 66, .ref 67, .ref 68, .ref 69, .ref 70, .ref 71, .int (V 57 17)]), .inl (0, 20, .inl (V 58)), .inl (0, 60, .inl (V 59)), .inl (0, 60, .inl (V 60)), .inl (0, 60, .inl (V 61)), .inl (0, 60, .inl (V 62)), .inl (0, 20, .inl (V 63)), .inl (1, 60, .inl (V 64)), .inl (1, 60, .inl (V 65)), .inl (1, 60, .inl (V 66)), .inl (0, 20, .inl (V 67)), .inl (0, 20, .inl (V 68)), .inl (0, 20, .inl (V 69)), .inl (0, 20, .inl (V 70)), .inl (0, 20, .inl (V 71)), .inl (2, 1, .inr (.inl o)), .inl (3, 1, .inr (.inr (.inr (.inl D))))]
def wr (V : Mm) (a j : Nat) (x : Int32) : Mm := va_up V a (upd (V a) j x)
def wfill (V : Mm) (a n : Nat) (x : Int32) : Mm := va_up V a (fun j => if j < n then x else V a j)
theorem at_0 (V : Mm) (o : Nat → Int64) (D : Nat → UInt64) : (SW V o D)[0]? = some (.inr (8, [.ref 1, .ref 7, .ref 29, .ref 35, .ref 36, .ref 40, .ref 43, .ref 50])) := rfl
theorem at_1 (V : Mm) (o : Nat → Int64) (D : Nat → UInt64) : (SW V o D)[1]? = some (.inr (3, [.ref 2, .ref 3, .ref 4, .ref 5, .ref 6, .int (V 1 5), .int (V 1 6)])) := rfl
theorem at_2 (V : Mm) (o : Nat → Int64) (D : Nat → UInt64) : (SW V o D)[2]? = some (.inl (0, 20, .inl (V 2))) := rfl
theorem at_3 (V : Mm) (o : Nat → Int64) (D : Nat → UInt64) : (SW V o D)[3]? = some (.inl (0, 60, .inl (V 3))) := rfl
theorem at_4 (V : Mm) (o : Nat → Int64) (D : Nat → UInt64) : (SW V o D)[4]? = some (.inl (0, 60, .inl (V 4))) := rfl
theorem at_5 (V : Mm) (o : Nat → Int64) (D : Nat → UInt64) : (SW V o D)[5]? = some (.inl (0, 60, .inl (V 5))) := rfl
theorem at_6 (V : Mm) (o : Nat → Int64) (D : Nat → UInt64) : (SW V o D)[6]? = some (.inl (1, 60, .inl (V 6))) := rfl
theorem at_7 (V : Mm) (o : Nat → Int64) (D : Nat → UInt64) : (SW V o D)[7]? = some (.inr (0, [.ref 1, .ref 8, .int (V 7 2), .int (V 7 3)])) := rfl
theorem at_8 (V : Mm) (o : Nat → Int64) (D : Nat → UInt64) : (SW V o D)[8]? = some (.inl (4, 20, .inr (.inr (.inr (.inr (fun i => if i < 20 then some (9 + i) else none)))))) := rfl
theorem at_9 (V : Mm) (o : Nat → Int64) (D : Nat → UInt64) : (SW V o D)[9]? = some (.inl (0, 20, .inl (V 9))) := rfl
theorem at_10 (V : Mm) (o : Nat → Int64) (D : Nat → UInt64) : (SW V o D)[10]? = some (.inl (0, 20, .inl (V 10))) := rfl
theorem at_11 (V : Mm) (o : Nat → Int64) (D : Nat → UInt64) : (SW V o D)[11]? = some (.inl (0, 20, .inl (V 11))) := rfl
theorem at_12 (V : Mm) (o : Nat → Int64) (D : Nat → UInt64) : (SW V o D)[12]? = some (.inl (0, 20, .inl (V 12))) := rfl
theorem at_13 (V : Mm) (o : Nat → Int64) (D : Nat → UInt64) : (SW V o D)[13]? = some (.inl (0, 20, .inl (V 13))) := rfl
theorem at_14 (V : Mm) (o : Nat → Int64) (D : Nat → UInt64) : (SW V o D)[14]? = some (.inl (0, 20, .inl (V 14))) := rfl
theorem at_15 (V : Mm) (o : Nat → Int64) (D : Nat → UInt64) : (SW V o D)[15]? = some (.inl (0, 20, .inl (V 15))) := rfl
theorem at_16 (V : Mm) (o : Nat → Int64) (D : Nat → UInt64) : (SW V o D)[16]? = some (.inl (0, 20, .inl (V 16))) := rfl
theorem at_17 (V : Mm) (o : Nat → Int64) (D : Nat → UInt64) : (SW V o D)[17]? = some (.inl (0, 20, .inl (V 17))) := rfl
theorem at_18 (V : Mm) (o : Nat → Int64) (D : Nat → UInt64) : (SW V o D)[18]? = some (.inl (0, 20, .inl (V 18))) := rfl
theorem at_19 (V : Mm) (o : Nat → Int64) (D : Nat → UInt64) : (SW V o D)[19]? = some (.inl (0, 20, .inl (V 19))) := rfl
theorem at_20 (V : Mm) (o : Nat → Int64) (D : Nat → UInt64) : (SW V o D)[20]? = some (.inl (0, 20, .inl (V 20))) := rfl
theorem at_21 (V : Mm) (o : Nat → Int64) (D : Nat → UInt64) : (SW V o D)[21]? = some (.inl (0, 20, .inl (V 21))) := rfl
theorem at_22 (V : Mm) (o : Nat → Int64) (D : Nat → UInt64) : (SW V o D)[22]? = some (.inl (0, 20, .inl (V 22))) := rfl
theorem at_23 (V : Mm) (o : Nat → Int64) (D : Nat → UInt64) : (SW V o D)[23]? = some (.inl (0, 20, .inl (V 23))) := rfl
theorem at_24 (V : Mm) (o : Nat → Int64) (D : Nat → UInt64) : (SW V o D)[24]? = some (.inl (0, 20, .inl (V 24))) := rfl
theorem at_25 (V : Mm) (o : Nat → Int64) (D : Nat → UInt64) : (SW V o D)[25]? = some (.inl (0, 20, .inl (V 25))) := rfl
theorem at_26 (V : Mm) (o : Nat → Int64) (D : Nat → UInt64) : (SW V o D)[26]? = some (.inl (0, 20, .inl (V 26))) := rfl
theorem at_27 (V : Mm) (o : Nat → Int64) (D : Nat → UInt64) : (SW V o D)[27]? = some (.inl (0, 20, .inl (V 27))) := rfl
theorem at_28 (V : Mm) (o : Nat → Int64) (D : Nat → UInt64) : (SW V o D)[28]? = some (.inl (0, 20, .inl (V 28))) := rfl
theorem at_29 (V : Mm) (o : Nat → Int64) (D : Nat → UInt64) : (SW V o D)[29]? = some (.inr (7, [.ref 1, .ref 7, .ref 30, .ref 31, .ref 32, .ref 33, .ref 34, .int (V 29 7)])) := rfl
theorem at_30 (V : Mm) (o : Nat → Int64) (D : Nat → UInt64) : (SW V o D)[30]? = some (.inl (0, 20, .inl (V 30))) := rfl
theorem at_31 (V : Mm) (o : Nat → Int64) (D : Nat → UInt64) : (SW V o D)[31]? = some (.inl (0, 20, .inl (V 31))) := rfl
theorem at_32 (V : Mm) (o : Nat → Int64) (D : Nat → UInt64) : (SW V o D)[32]? = some (.inl (0, 20, .inl (V 32))) := rfl
theorem at_33 (V : Mm) (o : Nat → Int64) (D : Nat → UInt64) : (SW V o D)[33]? = some (.inl (0, 20, .inl (V 33))) := rfl
theorem at_34 (V : Mm) (o : Nat → Int64) (D : Nat → UInt64) : (SW V o D)[34]? = some (.inl (0, 20, .inl (V 34))) := rfl
theorem at_35 (V : Mm) (o : Nat → Int64) (D : Nat → UInt64) : (SW V o D)[35]? = some (.inr (2, [.ref 1, .ref 7, .ref 29])) := rfl
theorem at_36 (V : Mm) (o : Nat → Int64) (D : Nat → UInt64) : (SW V o D)[36]? = some (.inr (1, [.ref 1, .ref 37, .ref 38, .ref 39, .int (V 36 4), .int (V 36 5)])) := rfl
theorem at_37 (V : Mm) (o : Nat → Int64) (D : Nat → UInt64) : (SW V o D)[37]? = some (.inl (0, 60, .inl (V 37))) := rfl
theorem at_38 (V : Mm) (o : Nat → Int64) (D : Nat → UInt64) : (SW V o D)[38]? = some (.inl (0, 20, .inl (V 38))) := rfl
theorem at_39 (V : Mm) (o : Nat → Int64) (D : Nat → UInt64) : (SW V o D)[39]? = some (.inl (1, 60, .inl (V 39))) := rfl
theorem at_40 (V : Mm) (o : Nat → Int64) (D : Nat → UInt64) : (SW V o D)[40]? = some (.inr (4, [.ref 1, .ref 41, .ref 42, .int (V 40 3)])) := rfl
theorem at_41 (V : Mm) (o : Nat → Int64) (D : Nat → UInt64) : (SW V o D)[41]? = some (.inl (1, 20, .inl (V 41))) := rfl
theorem at_42 (V : Mm) (o : Nat → Int64) (D : Nat → UInt64) : (SW V o D)[42]? = some (.inl (0, 20, .inl (V 42))) := rfl
theorem at_43 (V : Mm) (o : Nat → Int64) (D : Nat → UInt64) : (SW V o D)[43]? = some (.inr (5, [.ref 1, .ref 29, .ref 44, .ref 45, .ref 46, .ref 47, .ref 48, .ref 49])) := rfl
theorem at_44 (V : Mm) (o : Nat → Int64) (D : Nat → UInt64) : (SW V o D)[44]? = some (.inl (0, 20, .inl (V 44))) := rfl
theorem at_45 (V : Mm) (o : Nat → Int64) (D : Nat → UInt64) : (SW V o D)[45]? = some (.inl (0, 20, .inl (V 45))) := rfl
theorem at_46 (V : Mm) (o : Nat → Int64) (D : Nat → UInt64) : (SW V o D)[46]? = some (.inl (0, 20, .inl (V 46))) := rfl
theorem at_47 (V : Mm) (o : Nat → Int64) (D : Nat → UInt64) : (SW V o D)[47]? = some (.inl (0, 20, .inl (V 47))) := rfl
theorem at_48 (V : Mm) (o : Nat → Int64) (D : Nat → UInt64) : (SW V o D)[48]? = some (.inl (0, 20, .inl (V 48))) := rfl
theorem at_49 (V : Mm) (o : Nat → Int64) (D : Nat → UInt64) : (SW V o D)[49]? = some (.inl (0, 20, .inl (V 49))) := rfl
theorem at_50 (V : Mm) (o : Nat → Int64) (D : Nat → UInt64) : (SW V o D)[50]? = some (.inr (6, [.ref 1, .ref 29, .ref 51])) := rfl
theorem at_51 (V : Mm) (o : Nat → Int64) (D : Nat → UInt64) : (SW V o D)[51]? = some (.inl (4, 5, .inr (.inr (.inr (.inr (fun i => if i < 5 then some (52 + i) else none)))))) := rfl
theorem at_52 (V : Mm) (o : Nat → Int64) (D : Nat → UInt64) : (SW V o D)[52]? = some (.inl (0, 20, .inl (V 52))) := rfl
theorem at_53 (V : Mm) (o : Nat → Int64) (D : Nat → UInt64) : (SW V o D)[53]? = some (.inl (0, 20, .inl (V 53))) := rfl
theorem at_54 (V : Mm) (o : Nat → Int64) (D : Nat → UInt64) : (SW V o D)[54]? = some (.inl (0, 20, .inl (V 54))) := rfl
theorem at_55 (V : Mm) (o : Nat → Int64) (D : Nat → UInt64) : (SW V o D)[55]? = some (.inl (0, 20, .inl (V 55))) := rfl
theorem at_56 (V : Mm) (o : Nat → Int64) (D : Nat → UInt64) : (SW V o D)[56]? = some (.inl (0, 20, .inl (V 56))) := rfl
theorem at_57 (V : Mm) (o : Nat → Int64) (D : Nat → UInt64) : (SW V o D)[57]? = some (.inr (9, [.int (V 57 0), .ref 58, .ref 59, .ref 60, .ref 61, .ref 62, .ref 63, .ref 64, .ref 65, .int (V 57 9), .int (V 57 10), .ref 66, .ref 67, .ref 68, .ref 69, .ref 70, .ref 71, .int (V 57 17)])) := rfl
theorem at_58 (V : Mm) (o : Nat → Int64) (D : Nat → UInt64) : (SW V o D)[58]? = some (.inl (0, 20, .inl (V 58))) := rfl
theorem at_59 (V : Mm) (o : Nat → Int64) (D : Nat → UInt64) : (SW V o D)[59]? = some (.inl (0, 60, .inl (V 59))) := rfl
theorem at_60 (V : Mm) (o : Nat → Int64) (D : Nat → UInt64) : (SW V o D)[60]? = some (.inl (0, 60, .inl (V 60))) := rfl
theorem at_61 (V : Mm) (o : Nat → Int64) (D : Nat → UInt64) : (SW V o D)[61]? = some (.inl (0, 60, .inl (V 61))) := rfl
theorem at_62 (V : Mm) (o : Nat → Int64) (D : Nat → UInt64) : (SW V o D)[62]? = some (.inl (0, 60, .inl (V 62))) := rfl
theorem at_63 (V : Mm) (o : Nat → Int64) (D : Nat → UInt64) : (SW V o D)[63]? = some (.inl (0, 20, .inl (V 63))) := rfl
theorem at_64 (V : Mm) (o : Nat → Int64) (D : Nat → UInt64) : (SW V o D)[64]? = some (.inl (1, 60, .inl (V 64))) := rfl
theorem at_65 (V : Mm) (o : Nat → Int64) (D : Nat → UInt64) : (SW V o D)[65]? = some (.inl (1, 60, .inl (V 65))) := rfl
theorem at_66 (V : Mm) (o : Nat → Int64) (D : Nat → UInt64) : (SW V o D)[66]? = some (.inl (1, 60, .inl (V 66))) := rfl
theorem at_67 (V : Mm) (o : Nat → Int64) (D : Nat → UInt64) : (SW V o D)[67]? = some (.inl (0, 20, .inl (V 67))) := rfl
theorem at_68 (V : Mm) (o : Nat → Int64) (D : Nat → UInt64) : (SW V o D)[68]? = some (.inl (0, 20, .inl (V 68))) := rfl
theorem at_69 (V : Mm) (o : Nat → Int64) (D : Nat → UInt64) : (SW V o D)[69]? = some (.inl (0, 20, .inl (V 69))) := rfl
theorem at_70 (V : Mm) (o : Nat → Int64) (D : Nat → UInt64) : (SW V o D)[70]? = some (.inl (0, 20, .inl (V 70))) := rfl
theorem at_71 (V : Mm) (o : Nat → Int64) (D : Nat → UInt64) : (SW V o D)[71]? = some (.inl (0, 20, .inl (V 71))) := rfl
theorem at_72 (V : Mm) (o : Nat → Int64) (D : Nat → UInt64) : (SW V o D)[72]? = some (.inl (2, 1, .inr (.inl o))) := rfl
theorem at_73 (V : Mm) (o : Nat → Int64) (D : Nat → UInt64) : (SW V o D)[73]? = some (.inl (3, 1, .inr (.inr (.inr (.inl D))))) := rfl
theorem sa_2 (V : Mm) (o : Nat → Int64) (D : Nat → UInt64) (j : Nat) (x : Int32) : (SW V o D).set 2 (.inl (0, 20, .inl (upd (V 2) j x))) = SW (wr V 2 j x) o D := rfl
theorem sa_3 (V : Mm) (o : Nat → Int64) (D : Nat → UInt64) (j : Nat) (x : Int32) : (SW V o D).set 3 (.inl (0, 60, .inl (upd (V 3) j x))) = SW (wr V 3 j x) o D := rfl
theorem sa_4 (V : Mm) (o : Nat → Int64) (D : Nat → UInt64) (j : Nat) (x : Int32) : (SW V o D).set 4 (.inl (0, 60, .inl (upd (V 4) j x))) = SW (wr V 4 j x) o D := rfl
theorem sa_5 (V : Mm) (o : Nat → Int64) (D : Nat → UInt64) (j : Nat) (x : Int32) : (SW V o D).set 5 (.inl (0, 60, .inl (upd (V 5) j x))) = SW (wr V 5 j x) o D := rfl
theorem sa_6 (V : Mm) (o : Nat → Int64) (D : Nat → UInt64) (j : Nat) (x : Int32) : (SW V o D).set 6 (.inl (1, 60, .inl (upd (V 6) j x))) = SW (wr V 6 j x) o D := rfl
theorem sa_9 (V : Mm) (o : Nat → Int64) (D : Nat → UInt64) (j : Nat) (x : Int32) : (SW V o D).set 9 (.inl (0, 20, .inl (upd (V 9) j x))) = SW (wr V 9 j x) o D := rfl
theorem sa_10 (V : Mm) (o : Nat → Int64) (D : Nat → UInt64) (j : Nat) (x : Int32) : (SW V o D).set 10 (.inl (0, 20, .inl (upd (V 10) j x))) = SW (wr V 10 j x) o D := rfl
theorem sa_11 (V : Mm) (o : Nat → Int64) (D : Nat → UInt64) (j : Nat) (x : Int32) : (SW V o D).set 11 (.inl (0, 20, .inl (upd (V 11) j x))) = SW (wr V 11 j x) o D := rfl
theorem sa_12 (V : Mm) (o : Nat → Int64) (D : Nat → UInt64) (j : Nat) (x : Int32) : (SW V o D).set 12 (.inl (0, 20, .inl (upd (V 12) j x))) = SW (wr V 12 j x) o D := rfl
theorem sa_13 (V : Mm) (o : Nat → Int64) (D : Nat → UInt64) (j : Nat) (x : Int32) : (SW V o D).set 13 (.inl (0, 20, .inl (upd (V 13) j x))) = SW (wr V 13 j x) o D := rfl
theorem sa_14 (V : Mm) (o : Nat → Int64) (D : Nat → UInt64) (j : Nat) (x : Int32) : (SW V o D).set 14 (.inl (0, 20, .inl (upd (V 14) j x))) = SW (wr V 14 j x) o D := rfl
theorem sa_15 (V : Mm) (o : Nat → Int64) (D : Nat → UInt64) (j : Nat) (x : Int32) : (SW V o D).set 15 (.inl (0, 20, .inl (upd (V 15) j x))) = SW (wr V 15 j x) o D := rfl
theorem sa_16 (V : Mm) (o : Nat → Int64) (D : Nat → UInt64) (j : Nat) (x : Int32) : (SW V o D).set 16 (.inl (0, 20, .inl (upd (V 16) j x))) = SW (wr V 16 j x) o D := rfl
theorem sa_17 (V : Mm) (o : Nat → Int64) (D : Nat → UInt64) (j : Nat) (x : Int32) : (SW V o D).set 17 (.inl (0, 20, .inl (upd (V 17) j x))) = SW (wr V 17 j x) o D := rfl
theorem sa_18 (V : Mm) (o : Nat → Int64) (D : Nat → UInt64) (j : Nat) (x : Int32) : (SW V o D).set 18 (.inl (0, 20, .inl (upd (V 18) j x))) = SW (wr V 18 j x) o D := rfl
theorem sa_19 (V : Mm) (o : Nat → Int64) (D : Nat → UInt64) (j : Nat) (x : Int32) : (SW V o D).set 19 (.inl (0, 20, .inl (upd (V 19) j x))) = SW (wr V 19 j x) o D := rfl
theorem sa_20 (V : Mm) (o : Nat → Int64) (D : Nat → UInt64) (j : Nat) (x : Int32) : (SW V o D).set 20 (.inl (0, 20, .inl (upd (V 20) j x))) = SW (wr V 20 j x) o D := rfl
theorem sa_21 (V : Mm) (o : Nat → Int64) (D : Nat → UInt64) (j : Nat) (x : Int32) : (SW V o D).set 21 (.inl (0, 20, .inl (upd (V 21) j x))) = SW (wr V 21 j x) o D := rfl
theorem sa_22 (V : Mm) (o : Nat → Int64) (D : Nat → UInt64) (j : Nat) (x : Int32) : (SW V o D).set 22 (.inl (0, 20, .inl (upd (V 22) j x))) = SW (wr V 22 j x) o D := rfl
theorem sa_23 (V : Mm) (o : Nat → Int64) (D : Nat → UInt64) (j : Nat) (x : Int32) : (SW V o D).set 23 (.inl (0, 20, .inl (upd (V 23) j x))) = SW (wr V 23 j x) o D := rfl
theorem sa_24 (V : Mm) (o : Nat → Int64) (D : Nat → UInt64) (j : Nat) (x : Int32) : (SW V o D).set 24 (.inl (0, 20, .inl (upd (V 24) j x))) = SW (wr V 24 j x) o D := rfl
theorem sa_25 (V : Mm) (o : Nat → Int64) (D : Nat → UInt64) (j : Nat) (x : Int32) : (SW V o D).set 25 (.inl (0, 20, .inl (upd (V 25) j x))) = SW (wr V 25 j x) o D := rfl
theorem sa_26 (V : Mm) (o : Nat → Int64) (D : Nat → UInt64) (j : Nat) (x : Int32) : (SW V o D).set 26 (.inl (0, 20, .inl (upd (V 26) j x))) = SW (wr V 26 j x) o D := rfl
theorem sa_27 (V : Mm) (o : Nat → Int64) (D : Nat → UInt64) (j : Nat) (x : Int32) : (SW V o D).set 27 (.inl (0, 20, .inl (upd (V 27) j x))) = SW (wr V 27 j x) o D := rfl
theorem sa_28 (V : Mm) (o : Nat → Int64) (D : Nat → UInt64) (j : Nat) (x : Int32) : (SW V o D).set 28 (.inl (0, 20, .inl (upd (V 28) j x))) = SW (wr V 28 j x) o D := rfl
theorem sa_30 (V : Mm) (o : Nat → Int64) (D : Nat → UInt64) (j : Nat) (x : Int32) : (SW V o D).set 30 (.inl (0, 20, .inl (upd (V 30) j x))) = SW (wr V 30 j x) o D := rfl
theorem sa_31 (V : Mm) (o : Nat → Int64) (D : Nat → UInt64) (j : Nat) (x : Int32) : (SW V o D).set 31 (.inl (0, 20, .inl (upd (V 31) j x))) = SW (wr V 31 j x) o D := rfl
theorem sa_32 (V : Mm) (o : Nat → Int64) (D : Nat → UInt64) (j : Nat) (x : Int32) : (SW V o D).set 32 (.inl (0, 20, .inl (upd (V 32) j x))) = SW (wr V 32 j x) o D := rfl
theorem sa_33 (V : Mm) (o : Nat → Int64) (D : Nat → UInt64) (j : Nat) (x : Int32) : (SW V o D).set 33 (.inl (0, 20, .inl (upd (V 33) j x))) = SW (wr V 33 j x) o D := rfl
theorem sa_34 (V : Mm) (o : Nat → Int64) (D : Nat → UInt64) (j : Nat) (x : Int32) : (SW V o D).set 34 (.inl (0, 20, .inl (upd (V 34) j x))) = SW (wr V 34 j x) o D := rfl
theorem sa_37 (V : Mm) (o : Nat → Int64) (D : Nat → UInt64) (j : Nat) (x : Int32) : (SW V o D).set 37 (.inl (0, 60, .inl (upd (V 37) j x))) = SW (wr V 37 j x) o D := rfl
theorem sa_38 (V : Mm) (o : Nat → Int64) (D : Nat → UInt64) (j : Nat) (x : Int32) : (SW V o D).set 38 (.inl (0, 20, .inl (upd (V 38) j x))) = SW (wr V 38 j x) o D := rfl
theorem sa_39 (V : Mm) (o : Nat → Int64) (D : Nat → UInt64) (j : Nat) (x : Int32) : (SW V o D).set 39 (.inl (1, 60, .inl (upd (V 39) j x))) = SW (wr V 39 j x) o D := rfl
theorem sa_41 (V : Mm) (o : Nat → Int64) (D : Nat → UInt64) (j : Nat) (x : Int32) : (SW V o D).set 41 (.inl (1, 20, .inl (upd (V 41) j x))) = SW (wr V 41 j x) o D := rfl
theorem sa_42 (V : Mm) (o : Nat → Int64) (D : Nat → UInt64) (j : Nat) (x : Int32) : (SW V o D).set 42 (.inl (0, 20, .inl (upd (V 42) j x))) = SW (wr V 42 j x) o D := rfl
theorem sa_44 (V : Mm) (o : Nat → Int64) (D : Nat → UInt64) (j : Nat) (x : Int32) : (SW V o D).set 44 (.inl (0, 20, .inl (upd (V 44) j x))) = SW (wr V 44 j x) o D := rfl
theorem sa_45 (V : Mm) (o : Nat → Int64) (D : Nat → UInt64) (j : Nat) (x : Int32) : (SW V o D).set 45 (.inl (0, 20, .inl (upd (V 45) j x))) = SW (wr V 45 j x) o D := rfl
theorem sa_46 (V : Mm) (o : Nat → Int64) (D : Nat → UInt64) (j : Nat) (x : Int32) : (SW V o D).set 46 (.inl (0, 20, .inl (upd (V 46) j x))) = SW (wr V 46 j x) o D := rfl
theorem sa_47 (V : Mm) (o : Nat → Int64) (D : Nat → UInt64) (j : Nat) (x : Int32) : (SW V o D).set 47 (.inl (0, 20, .inl (upd (V 47) j x))) = SW (wr V 47 j x) o D := rfl
theorem sa_48 (V : Mm) (o : Nat → Int64) (D : Nat → UInt64) (j : Nat) (x : Int32) : (SW V o D).set 48 (.inl (0, 20, .inl (upd (V 48) j x))) = SW (wr V 48 j x) o D := rfl
theorem sa_49 (V : Mm) (o : Nat → Int64) (D : Nat → UInt64) (j : Nat) (x : Int32) : (SW V o D).set 49 (.inl (0, 20, .inl (upd (V 49) j x))) = SW (wr V 49 j x) o D := rfl
theorem sa_52 (V : Mm) (o : Nat → Int64) (D : Nat → UInt64) (j : Nat) (x : Int32) : (SW V o D).set 52 (.inl (0, 20, .inl (upd (V 52) j x))) = SW (wr V 52 j x) o D := rfl
theorem sa_53 (V : Mm) (o : Nat → Int64) (D : Nat → UInt64) (j : Nat) (x : Int32) : (SW V o D).set 53 (.inl (0, 20, .inl (upd (V 53) j x))) = SW (wr V 53 j x) o D := rfl
theorem sa_54 (V : Mm) (o : Nat → Int64) (D : Nat → UInt64) (j : Nat) (x : Int32) : (SW V o D).set 54 (.inl (0, 20, .inl (upd (V 54) j x))) = SW (wr V 54 j x) o D := rfl
theorem sa_55 (V : Mm) (o : Nat → Int64) (D : Nat → UInt64) (j : Nat) (x : Int32) : (SW V o D).set 55 (.inl (0, 20, .inl (upd (V 55) j x))) = SW (wr V 55 j x) o D := rfl
theorem sa_56 (V : Mm) (o : Nat → Int64) (D : Nat → UInt64) (j : Nat) (x : Int32) : (SW V o D).set 56 (.inl (0, 20, .inl (upd (V 56) j x))) = SW (wr V 56 j x) o D := rfl
theorem sa_58 (V : Mm) (o : Nat → Int64) (D : Nat → UInt64) (j : Nat) (x : Int32) : (SW V o D).set 58 (.inl (0, 20, .inl (upd (V 58) j x))) = SW (wr V 58 j x) o D := rfl
theorem sa_59 (V : Mm) (o : Nat → Int64) (D : Nat → UInt64) (j : Nat) (x : Int32) : (SW V o D).set 59 (.inl (0, 60, .inl (upd (V 59) j x))) = SW (wr V 59 j x) o D := rfl
theorem sa_60 (V : Mm) (o : Nat → Int64) (D : Nat → UInt64) (j : Nat) (x : Int32) : (SW V o D).set 60 (.inl (0, 60, .inl (upd (V 60) j x))) = SW (wr V 60 j x) o D := rfl
theorem sa_61 (V : Mm) (o : Nat → Int64) (D : Nat → UInt64) (j : Nat) (x : Int32) : (SW V o D).set 61 (.inl (0, 60, .inl (upd (V 61) j x))) = SW (wr V 61 j x) o D := rfl
theorem sa_62 (V : Mm) (o : Nat → Int64) (D : Nat → UInt64) (j : Nat) (x : Int32) : (SW V o D).set 62 (.inl (0, 60, .inl (upd (V 62) j x))) = SW (wr V 62 j x) o D := rfl
theorem sa_63 (V : Mm) (o : Nat → Int64) (D : Nat → UInt64) (j : Nat) (x : Int32) : (SW V o D).set 63 (.inl (0, 20, .inl (upd (V 63) j x))) = SW (wr V 63 j x) o D := rfl
theorem sa_64 (V : Mm) (o : Nat → Int64) (D : Nat → UInt64) (j : Nat) (x : Int32) : (SW V o D).set 64 (.inl (1, 60, .inl (upd (V 64) j x))) = SW (wr V 64 j x) o D := rfl
theorem sa_65 (V : Mm) (o : Nat → Int64) (D : Nat → UInt64) (j : Nat) (x : Int32) : (SW V o D).set 65 (.inl (1, 60, .inl (upd (V 65) j x))) = SW (wr V 65 j x) o D := rfl
theorem sa_66 (V : Mm) (o : Nat → Int64) (D : Nat → UInt64) (j : Nat) (x : Int32) : (SW V o D).set 66 (.inl (1, 60, .inl (upd (V 66) j x))) = SW (wr V 66 j x) o D := rfl
theorem sa_67 (V : Mm) (o : Nat → Int64) (D : Nat → UInt64) (j : Nat) (x : Int32) : (SW V o D).set 67 (.inl (0, 20, .inl (upd (V 67) j x))) = SW (wr V 67 j x) o D := rfl
theorem sa_68 (V : Mm) (o : Nat → Int64) (D : Nat → UInt64) (j : Nat) (x : Int32) : (SW V o D).set 68 (.inl (0, 20, .inl (upd (V 68) j x))) = SW (wr V 68 j x) o D := rfl
theorem sa_69 (V : Mm) (o : Nat → Int64) (D : Nat → UInt64) (j : Nat) (x : Int32) : (SW V o D).set 69 (.inl (0, 20, .inl (upd (V 69) j x))) = SW (wr V 69 j x) o D := rfl
theorem sa_70 (V : Mm) (o : Nat → Int64) (D : Nat → UInt64) (j : Nat) (x : Int32) : (SW V o D).set 70 (.inl (0, 20, .inl (upd (V 70) j x))) = SW (wr V 70 j x) o D := rfl
theorem sa_71 (V : Mm) (o : Nat → Int64) (D : Nat → UInt64) (j : Nat) (x : Int32) : (SW V o D).set 71 (.inl (0, 20, .inl (upd (V 71) j x))) = SW (wr V 71 j x) o D := rfl
theorem sf_1_5 (V : Mm) (o : Nat → Int64) (D : Nat → UInt64) (x : Int32) : (SW V o D).set 1 (.inr (3, [.ref 2, .ref 3, .ref 4, .ref 5, .ref 6, .int x, .int (V 1 6)])) = SW (wr V 1 5 x) o D := rfl
theorem sf_1_6 (V : Mm) (o : Nat → Int64) (D : Nat → UInt64) (x : Int32) : (SW V o D).set 1 (.inr (3, [.ref 2, .ref 3, .ref 4, .ref 5, .ref 6, .int (V 1 5), .int x])) = SW (wr V 1 6 x) o D := rfl
theorem sf_7_2 (V : Mm) (o : Nat → Int64) (D : Nat → UInt64) (x : Int32) : (SW V o D).set 7 (.inr (0, [.ref 1, .ref 8, .int x, .int (V 7 3)])) = SW (wr V 7 2 x) o D := rfl
theorem sf_7_3 (V : Mm) (o : Nat → Int64) (D : Nat → UInt64) (x : Int32) : (SW V o D).set 7 (.inr (0, [.ref 1, .ref 8, .int (V 7 2), .int x])) = SW (wr V 7 3 x) o D := rfl
theorem sf_29_7 (V : Mm) (o : Nat → Int64) (D : Nat → UInt64) (x : Int32) : (SW V o D).set 29 (.inr (7, [.ref 1, .ref 7, .ref 30, .ref 31, .ref 32, .ref 33, .ref 34, .int x])) = SW (wr V 29 7 x) o D := rfl
theorem sf_36_4 (V : Mm) (o : Nat → Int64) (D : Nat → UInt64) (x : Int32) : (SW V o D).set 36 (.inr (1, [.ref 1, .ref 37, .ref 38, .ref 39, .int x, .int (V 36 5)])) = SW (wr V 36 4 x) o D := rfl
theorem sf_36_5 (V : Mm) (o : Nat → Int64) (D : Nat → UInt64) (x : Int32) : (SW V o D).set 36 (.inr (1, [.ref 1, .ref 37, .ref 38, .ref 39, .int (V 36 4), .int x])) = SW (wr V 36 5 x) o D := rfl
theorem sf_40_3 (V : Mm) (o : Nat → Int64) (D : Nat → UInt64) (x : Int32) : (SW V o D).set 40 (.inr (4, [.ref 1, .ref 41, .ref 42, .int x])) = SW (wr V 40 3 x) o D := rfl
theorem sf_57_0 (V : Mm) (o : Nat → Int64) (D : Nat → UInt64) (x : Int32) : (SW V o D).set 57 (.inr (9, [.int x, .ref 58, .ref 59, .ref 60, .ref 61, .ref 62, .ref 63, .ref 64, .ref 65, .int (V 57 9), .int (V 57 10), .ref 66, .ref 67, .ref 68, .ref 69, .ref 70, .ref 71, .int (V 57 17)])) = SW (wr V 57 0 x) o D := rfl
theorem sf_57_9 (V : Mm) (o : Nat → Int64) (D : Nat → UInt64) (x : Int32) : (SW V o D).set 57 (.inr (9, [.int (V 57 0), .ref 58, .ref 59, .ref 60, .ref 61, .ref 62, .ref 63, .ref 64, .ref 65, .int x, .int (V 57 10), .ref 66, .ref 67, .ref 68, .ref 69, .ref 70, .ref 71, .int (V 57 17)])) = SW (wr V 57 9 x) o D := rfl
theorem sf_57_10 (V : Mm) (o : Nat → Int64) (D : Nat → UInt64) (x : Int32) : (SW V o D).set 57 (.inr (9, [.int (V 57 0), .ref 58, .ref 59, .ref 60, .ref 61, .ref 62, .ref 63, .ref 64, .ref 65, .int (V 57 9), .int x, .ref 66, .ref 67, .ref 68, .ref 69, .ref 70, .ref 71, .int (V 57 17)])) = SW (wr V 57 10 x) o D := rfl
theorem sf_57_17 (V : Mm) (o : Nat → Int64) (D : Nat → UInt64) (x : Int32) : (SW V o D).set 57 (.inr (9, [.int (V 57 0), .ref 58, .ref 59, .ref 60, .ref 61, .ref 62, .ref 63, .ref 64, .ref 65, .int (V 57 9), .int (V 57 10), .ref 66, .ref 67, .ref 68, .ref 69, .ref 70, .ref 71, .int x])) = SW (wr V 57 17 x) o D := rfl
theorem so_72 (V : Mm) (o o2 : Nat → Int64) (D : Nat → UInt64) : (SW V o D).set 72 (.inl (2, 1, .inr (.inl o2))) = SW V o2 D := rfl
theorem so_73 (V : Mm) (o : Nat → Int64) (D D2 : Nat → UInt64) : (SW V o D).set 73 (.inl (3, 1, .inr (.inr (.inr (.inl D2))))) = SW V o D2 := rfl
theorem at_r9 (V : Mm) (o : Nat → Int64) (D : Nat → UInt64) : ∀ (r : Nat), r < 20 → (SW V o D)[9 + r]? = some (.inl (0, 20, .inl (V (9 + r))))
  | 0, _ => rfl
  | 1, _ => rfl
  | 2, _ => rfl
  | 3, _ => rfl
  | 4, _ => rfl
  | 5, _ => rfl
  | 6, _ => rfl
  | 7, _ => rfl
  | 8, _ => rfl
  | 9, _ => rfl
  | 10, _ => rfl
  | 11, _ => rfl
  | 12, _ => rfl
  | 13, _ => rfl
  | 14, _ => rfl
  | 15, _ => rfl
  | 16, _ => rfl
  | 17, _ => rfl
  | 18, _ => rfl
  | 19, _ => rfl
  | n + 20, h => absurd h (by omega)
theorem sa_r9 (V : Mm) (o : Nat → Int64) (D : Nat → UInt64) (j : Nat) (x : Int32) : ∀ (r : Nat), r < 20 → (SW V o D).set (9 + r) (.inl (0, 20, .inl (upd (V (9 + r)) j x))) = SW (wr V (9 + r) j x) o D
  | 0, _ => rfl
  | 1, _ => rfl
  | 2, _ => rfl
  | 3, _ => rfl
  | 4, _ => rfl
  | 5, _ => rfl
  | 6, _ => rfl
  | 7, _ => rfl
  | 8, _ => rfl
  | 9, _ => rfl
  | 10, _ => rfl
  | 11, _ => rfl
  | 12, _ => rfl
  | 13, _ => rfl
  | 14, _ => rfl
  | 15, _ => rfl
  | 16, _ => rfl
  | 17, _ => rfl
  | 18, _ => rfl
  | 19, _ => rfl
  | n + 20, h => absurd h (by omega)
theorem at_r52 (V : Mm) (o : Nat → Int64) (D : Nat → UInt64) : ∀ (r : Nat), r < 5 → (SW V o D)[52 + r]? = some (.inl (0, 20, .inl (V (52 + r))))
  | 0, _ => rfl
  | 1, _ => rfl
  | 2, _ => rfl
  | 3, _ => rfl
  | 4, _ => rfl
  | n + 5, h => absurd h (by omega)
theorem sa_r52 (V : Mm) (o : Nat → Int64) (D : Nat → UInt64) (j : Nat) (x : Int32) : ∀ (r : Nat), r < 5 → (SW V o D).set (52 + r) (.inl (0, 20, .inl (upd (V (52 + r)) j x))) = SW (wr V (52 + r) j x) o D
  | 0, _ => rfl
  | 1, _ => rfl
  | 2, _ => rfl
  | 3, _ => rfl
  | 4, _ => rfl
  | n + 5, h => absurd h (by omega)
theorem ic_X0 : ∀ w ∈ u_ws RX0 TX0 4, w ∈ tk_w := by decide +kernel
theorem cl_X0 : cl_ok TX0 4 tyX0 := ⟨tyX0_ok, nmX0⟩
theorem ic_X1 : ∀ w ∈ u_ws RX1 TX1 6, w ∈ tk_w := by decide +kernel
theorem cl_X1 : cl_ok TX1 6 tyX1 := ⟨tyX1_ok, nmX1⟩
theorem ic_X2 : ∀ w ∈ u_ws RX2 TX2 3, w ∈ tk_w := by decide +kernel
theorem cl_X2 : cl_ok TX2 3 tyX2 := ⟨tyX2_ok, nmX2⟩
theorem ic_X3 : ∀ w ∈ u_ws RX3 TX3 7, w ∈ tk_w := by decide +kernel
theorem cl_X3 : cl_ok TX3 7 tyX3 := ⟨tyX3_ok, nmX3⟩
theorem ic_X4 : ∀ w ∈ u_ws RX4 TX4 4, w ∈ tk_w := by decide +kernel
theorem cl_X4 : cl_ok TX4 4 tyX4 := ⟨tyX4_ok, nmX4⟩
theorem ic_X5 : ∀ w ∈ u_ws RX5 TX5 8, w ∈ tk_w := by decide +kernel
theorem cl_X5 : cl_ok TX5 8 tyX5 := ⟨tyX5_ok, nmX5⟩
theorem ic_X6 : ∀ w ∈ u_ws RX6 TX6 3, w ∈ tk_w := by decide +kernel
theorem cl_X6 : cl_ok TX6 3 tyX6 := ⟨tyX6_ok, nmX6⟩
theorem ic_X7 : ∀ w ∈ u_ws RX7 TX7 8, w ∈ tk_w := by decide +kernel
theorem cl_X7 : cl_ok TX7 8 tyX7 := ⟨tyX7_ok, nmX7⟩
theorem ic_X8 : ∀ w ∈ u_ws RX8 TX8 8, w ∈ tk_w := by decide +kernel
theorem cl_X8 : cl_ok TX8 8 tyX8 := ⟨tyX8_ok, nmX8⟩
theorem ic_X9 : ∀ w ∈ u_ws RX9 TX9 18, w ∈ tk_w := by decide +kernel
theorem cl_X9 : cl_ok TX9 18 tyX9 := ⟨tyX9_ok, nmX9⟩
theorem fl_X0_11 : fl_ok RX0 11 0 1 RX0 TX0 4 := ⟨rfl, by decide, by decide +kernel, ic_X0⟩
theorem fl_X0_16 : fl_ok RX0 16 0 2 RX0 TX0 4 := ⟨rfl, by decide, by decide +kernel, ic_X0⟩
theorem fl_X0_20 : fl_ok RX0 20 0 3 RX0 TX0 4 := ⟨rfl, by decide, by decide +kernel, ic_X0⟩
theorem fl_X0_23 : fl_ok RX0 23 0 0 RX0 TX0 4 := ⟨rfl, by decide, by decide +kernel, ic_X0⟩
theorem fl_X3_28 : fl_ok RX3 28 3 5 RX3 TX3 7 := ⟨rfl, by decide, by decide +kernel, ic_X3⟩
theorem fl_X3_32 : fl_ok RX3 32 3 6 RX3 TX3 7 := ⟨rfl, by decide, by decide +kernel, ic_X3⟩
theorem fl_X3_15 : fl_ok RX3 15 3 1 RX3 TX3 7 := ⟨rfl, by decide, by decide +kernel, ic_X3⟩
theorem fl_X3_18 : fl_ok RX3 18 3 2 RX3 TX3 7 := ⟨rfl, by decide, by decide +kernel, ic_X3⟩
theorem fl_X3_21 : fl_ok RX3 21 3 3 RX3 TX3 7 := ⟨rfl, by decide, by decide +kernel, ic_X3⟩
theorem fl_X1_9 : fl_ok RX1 9 1 1 RX1 TX1 6 := ⟨rfl, by decide, by decide +kernel, ic_X1⟩
theorem fl_X1_15 : fl_ok RX1 15 1 2 RX1 TX1 6 := ⟨rfl, by decide, by decide +kernel, ic_X1⟩
theorem fl_X1_18 : fl_ok RX1 18 1 3 RX1 TX1 6 := ⟨rfl, by decide, by decide +kernel, ic_X1⟩
theorem fl_X1_22 : fl_ok RX1 22 1 4 RX1 TX1 6 := ⟨rfl, by decide, by decide +kernel, ic_X1⟩
theorem fl_X1_26 : fl_ok RX1 26 1 5 RX1 TX1 6 := ⟨rfl, by decide, by decide +kernel, ic_X1⟩
theorem fl_X1_29 : fl_ok RX1 29 1 0 RX1 TX1 6 := ⟨rfl, by decide, by decide +kernel, ic_X1⟩
theorem fl_X3_24 : fl_ok RX3 24 3 4 RX3 TX3 7 := ⟨rfl, by decide, by decide +kernel, ic_X3⟩
theorem fl_X2_9 : fl_ok RX2 9 2 0 RX2 TX2 3 := ⟨rfl, by decide, by decide +kernel, ic_X2⟩
theorem fl_X2_15 : fl_ok RX2 15 2 1 RX2 TX2 3 := ⟨rfl, by decide, by decide +kernel, ic_X2⟩
theorem fl_X2_19 : fl_ok RX2 19 2 2 RX2 TX2 3 := ⟨rfl, by decide, by decide +kernel, ic_X2⟩
theorem fl_X3_9 : fl_ok RX3 9 3 0 RX3 TX3 7 := ⟨rfl, by decide, by decide +kernel, ic_X3⟩
theorem fl_X7_31 : fl_ok RX7 31 7 0 RX7 TX7 8 := ⟨rfl, by decide, by decide +kernel, ic_X7⟩
theorem fl_X7_15 : fl_ok RX7 15 7 3 RX7 TX7 8 := ⟨rfl, by decide, by decide +kernel, ic_X7⟩
theorem fl_X7_27 : fl_ok RX7 27 7 7 RX7 TX7 8 := ⟨rfl, by decide, by decide +kernel, ic_X7⟩
theorem fl_X7_9 : fl_ok RX7 9 7 2 RX7 TX7 8 := ⟨rfl, by decide, by decide +kernel, ic_X7⟩
theorem fl_X7_18 : fl_ok RX7 18 7 4 RX7 TX7 8 := ⟨rfl, by decide, by decide +kernel, ic_X7⟩
theorem fl_X7_21 : fl_ok RX7 21 7 5 RX7 TX7 8 := ⟨rfl, by decide, by decide +kernel, ic_X7⟩
theorem fl_X7_24 : fl_ok RX7 24 7 6 RX7 TX7 8 := ⟨rfl, by decide, by decide +kernel, ic_X7⟩
theorem fl_X7_35 : fl_ok RX7 35 7 1 RX7 TX7 8 := ⟨rfl, by decide, by decide +kernel, ic_X7⟩
theorem fl_X4_9 : fl_ok RX4 9 4 1 RX4 TX4 4 := ⟨rfl, by decide, by decide +kernel, ic_X4⟩
theorem fl_X4_15 : fl_ok RX4 15 4 2 RX4 TX4 4 := ⟨rfl, by decide, by decide +kernel, ic_X4⟩
theorem fl_X4_19 : fl_ok RX4 19 4 3 RX4 TX4 4 := ⟨rfl, by decide, by decide +kernel, ic_X4⟩
theorem fl_X4_23 : fl_ok RX4 23 4 0 RX4 TX4 4 := ⟨rfl, by decide, by decide +kernel, ic_X4⟩
theorem fl_X5_9 : fl_ok RX5 9 5 2 RX5 TX5 8 := ⟨rfl, by decide, by decide +kernel, ic_X5⟩
theorem fl_X5_15 : fl_ok RX5 15 5 3 RX5 TX5 8 := ⟨rfl, by decide, by decide +kernel, ic_X5⟩
theorem fl_X5_18 : fl_ok RX5 18 5 4 RX5 TX5 8 := ⟨rfl, by decide, by decide +kernel, ic_X5⟩
theorem fl_X5_21 : fl_ok RX5 21 5 5 RX5 TX5 8 := ⟨rfl, by decide, by decide +kernel, ic_X5⟩
theorem fl_X5_24 : fl_ok RX5 24 5 6 RX5 TX5 8 := ⟨rfl, by decide, by decide +kernel, ic_X5⟩
theorem fl_X5_27 : fl_ok RX5 27 5 7 RX5 TX5 8 := ⟨rfl, by decide, by decide +kernel, ic_X5⟩
theorem fl_X5_30 : fl_ok RX5 30 5 0 RX5 TX5 8 := ⟨rfl, by decide, by decide +kernel, ic_X5⟩
theorem fl_X5_34 : fl_ok RX5 34 5 1 RX5 TX5 8 := ⟨rfl, by decide, by decide +kernel, ic_X5⟩
theorem fl_X6_11 : fl_ok RX6 11 6 2 RX6 TX6 3 := ⟨rfl, by decide, by decide +kernel, ic_X6⟩
theorem fl_X6_16 : fl_ok RX6 16 6 0 RX6 TX6 3 := ⟨rfl, by decide, by decide +kernel, ic_X6⟩
theorem fl_X6_20 : fl_ok RX6 20 6 1 RX6 TX6 3 := ⟨rfl, by decide, by decide +kernel, ic_X6⟩
theorem fl_X8_10 : fl_ok RX8 10 8 0 RX8 TX8 8 := ⟨rfl, by decide, by decide +kernel, ic_X8⟩
theorem fl_X8_21 : fl_ok RX8 21 8 1 RX8 TX8 8 := ⟨rfl, by decide, by decide +kernel, ic_X8⟩
theorem fl_X8_30 : fl_ok RX8 30 8 2 RX8 TX8 8 := ⟨rfl, by decide, by decide +kernel, ic_X8⟩
theorem fl_X8_39 : fl_ok RX8 39 8 3 RX8 TX8 8 := ⟨rfl, by decide, by decide +kernel, ic_X8⟩
theorem fl_X8_46 : fl_ok RX8 46 8 4 RX8 TX8 8 := ⟨rfl, by decide, by decide +kernel, ic_X8⟩
theorem fl_X8_53 : fl_ok RX8 53 8 5 RX8 TX8 8 := ⟨rfl, by decide, by decide +kernel, ic_X8⟩
theorem fl_X8_62 : fl_ok RX8 62 8 6 RX8 TX8 8 := ⟨rfl, by decide, by decide +kernel, ic_X8⟩
theorem fl_X8_69 : fl_ok RX8 69 8 7 RX8 TX8 8 := ⟨rfl, by decide, by decide +kernel, ic_X8⟩
theorem fl_X9_9 : fl_ok RX9 9 9 1 RX9 TX9 18 := ⟨rfl, by decide, by decide +kernel, ic_X9⟩
theorem fl_X9_13 : fl_ok RX9 13 9 2 RX9 TX9 18 := ⟨rfl, by decide, by decide +kernel, ic_X9⟩
theorem fl_X9_16 : fl_ok RX9 16 9 3 RX9 TX9 18 := ⟨rfl, by decide, by decide +kernel, ic_X9⟩
theorem fl_X9_19 : fl_ok RX9 19 9 4 RX9 TX9 18 := ⟨rfl, by decide, by decide +kernel, ic_X9⟩
theorem fl_X9_22 : fl_ok RX9 22 9 5 RX9 TX9 18 := ⟨rfl, by decide, by decide +kernel, ic_X9⟩
theorem fl_X9_25 : fl_ok RX9 25 9 6 RX9 TX9 18 := ⟨rfl, by decide, by decide +kernel, ic_X9⟩
theorem fl_X9_28 : fl_ok RX9 28 9 7 RX9 TX9 18 := ⟨rfl, by decide, by decide +kernel, ic_X9⟩
theorem fl_X9_32 : fl_ok RX9 32 9 8 RX9 TX9 18 := ⟨rfl, by decide, by decide +kernel, ic_X9⟩
theorem fl_X9_35 : fl_ok RX9 35 9 11 RX9 TX9 18 := ⟨rfl, by decide, by decide +kernel, ic_X9⟩
theorem fl_X9_38 : fl_ok RX9 38 9 12 RX9 TX9 18 := ⟨rfl, by decide, by decide +kernel, ic_X9⟩
theorem fl_X9_41 : fl_ok RX9 41 9 13 RX9 TX9 18 := ⟨rfl, by decide, by decide +kernel, ic_X9⟩
theorem fl_X9_44 : fl_ok RX9 44 9 14 RX9 TX9 18 := ⟨rfl, by decide, by decide +kernel, ic_X9⟩
theorem fl_X9_47 : fl_ok RX9 47 9 15 RX9 TX9 18 := ⟨rfl, by decide, by decide +kernel, ic_X9⟩
theorem fl_X9_50 : fl_ok RX9 50 9 16 RX9 TX9 18 := ⟨rfl, by decide, by decide +kernel, ic_X9⟩
theorem fl_X9_53 : fl_ok RX9 53 9 0 RX9 TX9 18 := ⟨rfl, by decide, by decide +kernel, ic_X9⟩
theorem fl_X9_57 : fl_ok RX9 57 9 9 RX9 TX9 18 := ⟨rfl, by decide, by decide +kernel, ic_X9⟩
theorem fl_X9_64 : fl_ok RX9 64 9 10 RX9 TX9 18 := ⟨rfl, by decide, by decide +kernel, ic_X9⟩
theorem fl_X9_94 : fl_ok RX9 94 9 17 RX9 TX9 18 := ⟨rfl, by decide, by decide +kernel, ic_X9⟩
