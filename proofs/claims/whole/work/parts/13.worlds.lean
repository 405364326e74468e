/-! ===== printed by program: worlds of the class and of the reference, the judgements at this claim ===== -/
def wM (I : Nat → Int32) (J : Nat → Int64) (A : Nat → Nat → Int32) (B : Nat → Nat → Int64) : XW := [.inr (11, [.int (I 0), .ref 1, .int (I 2), .int (I 3), .int (I 4), .int (I 5), .int (I 6), .int (I 7), .int (I 8), .long (J 9), .int (I 10), .int (I 11), .ref 2, .ref 3, .ref 4, .ref 5, .ref 6, .ref 7, .ref 8, .ref 9, .ref 10, .ref 11, .int (I 22), .int (I 23), .int (I 24), .int (I 25), .int (I 26), .int (I 27), .int (I 28), .ref 12, .ref 13, .ref 14, .int (I 32), .ref 15, .ref 16, .ref 17, .ref 18, .ref 19, .ref 20, .int (I 39), .ref 21, .ref 22, .ref 23, .ref 24, .ref 25, .ref 26, .long (J 46), .int (I 47), .int (I 48), .ref 27, .ref 28, .ref 29, .ref 30, .int (I 53)]), .inl (0, 1540, .inl (A 1)), .inl (1, 80, .inr (.inl (B 2))), .inl (1, 32, .inr (.inl (B 3))), .inl (0, 80, .inl (A 4)), .inl (0, 80, .inl (A 5)), .inl (0, 60, .inl (A 6)), .inl (0, 60, .inl (A 7)), .inl (0, 60, .inl (A 8)), .inl (0, 60, .inl (A 9)), .inl (0, 60, .inl (A 10)), .inl (0, 480, .inl (A 11)), .inl (3, 256, .inl (A 12)), .inl (0, 16, .inl (A 13)), .inl (0, 3, .inl (A 14)), .inl (1, 14, .inr (.inl (B 15))), .inl (1, 14, .inr (.inl (B 16))), .inl (0, 225, .inl (A 17)), .inl (0, 14400, .inl (A 18)), .inl (0, 14400, .inl (A 19)), .inl (1, 14400, .inr (.inl (B 20))), .inl (0, 500, .inl (A 21)), .inl (0, 500, .inl (A 22)), .inl (0, 500, .inl (A 23)), .inl (0, 500, .inl (A 24)), .inl (0, 500, .inl (A 25)), .inl (1, 16000, .inr (.inl (B 26))), .inl (0, 40, .inl (A 27)), .inl (0, 40, .inl (A 28)), .inl (0, 40, .inl (A 29)), .inl (0, 10, .inl (A 30))]
def wX (cur spr tgt cg fg : Value) (I : Nat → Int32) (J : Nat → Int64) (A : Nat → Nat → Int32) (B : Nat → Nat → Int64) : XW := [.inr (10, [.ref 1, .ref 3, .ref 14, .ref 17, .ref 19, .ref 25, .ref 31, .ref 36, cur, spr, .int (I 10), .int (I 11)]), .inr (7, [.ref 2, .int (I 101)]), .inl (2, 1540, .inl (A 2)), .inr (4, [.ref 4, .ref 8, .int (I 302), tgt, .int (I 304), .int (I 305)]), .inr (8, [.ref 1, .ref 5, .ref 6, .ref 7, .int (I 404)]), .inl (0, 1501, .inl (A 5)), .inl (0, 1501, .inl (A 6)), .inl (1, 1501, .inr (.inl (B 7))), .inr (5, [.ref 9, .ref 10, .ref 11, .ref 12, .ref 13, .int (I 805)]), .inl (3, 8, .inl (A 9)), .inl (0, 8, .inl (A 10)), .inl (0, 8, .inl (A 11)), .inl (0, 8, .inl (A 12)), .inl (0, 3, .inl (A 13)), .inr (6, [.ref 15, .ref 16, .int (I 1402), .int (I 1403)]), .inl (1, 14, .inr (.inl (B 15))), .inl (1, 14, .inr (.inl (B 16))), .inr (1, [.ref 18, .int (I 1701), .int (I 1702)]), .inl (0, 105, .inl (A 18)), .inr (0, [.ref 14, .ref 17, .ref 20, .ref 21, .ref 22, .ref 23, .ref 24, cg, .int (I 1908)]), .inl (0, 105, .inl (A 20)), .inl (0, 6300, .inl (A 21)), .inl (1, 6300, .inr (.inl (B 22))), .inl (0, 6300, .inl (A 23)), .inl (0, 1785, .inl (A 24)), .inr (9, [.ref 26, .ref 27, .ref 28, .ref 29, .ref 30, .int (I 2505)]), .inl (0, 432, .inl (A 26)), .inl (0, 432, .inl (A 27)), .inl (0, 432, .inl (A 28)), .inl (0, 432, .inl (A 29)), .inl (0, 432, .inl (A 30)), .inr (2, [.ref 19, .ref 14, .ref 25, .ref 32, .ref 33, .ref 34, .ref 35, .int (I 3107), fg, .int (I 3109), .long (J 3110), .int (I 3111), .long (J 3112)]), .inl (0, 224, .inl (A 32)), .inl (0, 224, .inl (A 33)), .inl (0, 224, .inl (A 34)), .inl (1, 13440, .inr (.inl (B 35))), .inl (2, 10, .inl (A 36)), .inr (3, [.ref 38, .ref 39, .ref 40, .ref 41, .ref 42, .ref 43, .ref 44, .ref 45, .ref 46, .ref 47, .int (I 3710), .int (I 3711), .int (I 3712), .int (I 3713)]), .inl (1, 40, .inr (.inl (B 38))), .inl (0, 40, .inl (A 39)), .inl (0, 30, .inl (A 40)), .inl (0, 30, .inl (A 41)), .inl (0, 30, .inl (A 42)), .inl (0, 30, .inl (A 43)), .inl (0, 3000, .inl (A 44)), .inl (1, 16, .inr (.inl (B 45))), .inl (0, 16, .inl (A 46)), .inl (0, 30, .inl (A 47)), .inr (3, [.ref 49, .ref 50, .ref 51, .ref 52, .ref 53, .ref 54, .ref 55, .ref 56, .ref 57, .ref 58, .int (I 4810), .int (I 4811), .int (I 4812), .int (I 4813)]), .inl (1, 40, .inr (.inl (B 49))), .inl (0, 40, .inl (A 50)), .inl (0, 30, .inl (A 51)), .inl (0, 30, .inl (A 52)), .inl (0, 30, .inl (A 53)), .inl (0, 30, .inl (A 54)), .inl (0, 3000, .inl (A 55)), .inl (1, 16, .inr (.inl (B 56))), .inl (0, 16, .inl (A 57)), .inl (0, 30, .inl (A 58))]
abbrev xG (l : Launch) (d k : Nat) (Ret : Option Value → XW → Prop) (pc : Nat) (L : XLs) (st : List Value) (w : XW) (nc ns : Nat) : Prop := xWG l xTB xNW vwCl mR d k Ret pc L st w nc ns
abbrev xK (l : Launch) (d k : Nat) (args : List Value) (w : XW) (Q : Option Value → XW → Prop) : Prop := xcl l xTB xNW vwCl mR d k args w Q
theorem xgoR {l : Launch} {d k : Nat} {y : MethodName} {c : ByteArray} {ml : Nat} {ret : Option FieldType} {ini : Bool} {po : Nat → Option XP} {fe : Nat → Option XRow} {mc ms : Nat} (hr : mR k = (y, c, ml, ret, ini, po, fe, mc, ms)) {Ret : Option Value → XW → Prop} (stops : List Nat) (n : Nat) {pc : Nat} {L : XLs} {st : List Value} {w : XW} {nc ns : Nat}
    (h : xF ml po ret ini mc ms xdf xal (xcl l xTB xNW vwCl mR d) Ret fe (xrun ml po ret ini mc ms xdf xal (xcl l xTB xNW vwCl mR d) Ret fe stops (xWG l xTB xNW vwCl mR d k Ret) n) pc L st w nc ns) : xG l d k Ret pc L st w nc ns := by
  have h9 := xgo (l := l) (d := d) (k := k) (Ret := Ret) xok stops n (pc := pc) (L := L) (st := st) (w := w) (nc := nc) (ns := ns)
  rw [hr] at h9
  exact h9 h
theorem mr_0 : mR 0 = (yX0_init, cX0_init, 3, none, true, qX0, iX0_init, 5, 20790) := rfl
theorem mr_1 : mR 1 = (yX0_fill, cX0_fill, 4, (some .boolean), false, qX0, iX0_fill, 0, 0) := rfl
theorem mr_2 : mR 2 = (yX0_fillSpan, cX0_fillSpan, 4, (some .boolean), false, qX0, iX0_fillSpan, 0, 0) := rfl
theorem mr_3 : mR 3 = (yX0_addEntries, cX0_addEntries, 5, (some .boolean), false, qX0, iX0_addEntries, 0, 0) := rfl
theorem mr_4 : mR 4 = (yX0_addPairs, cX0_addPairs, 4, (some .boolean), false, qX0, iX0_addPairs, 0, 0) := rfl
theorem mr_5 : mR 5 = (yX0_addByRule, cX0_addByRule, 11, (some .boolean), false, qX0, iX0_addByRule, 0, 0) := rfl
theorem mr_6 : mR 6 = (yX0_addSingles, cX0_addSingles, 2, (some .boolean), false, qX0, iX0_addSingles, 0, 0) := rfl
theorem mr_7 : mR 7 = (yX0_addBySingle, cX0_addBySingle, 8, (some .boolean), false, qX0, iX0_addBySingle, 0, 0) := rfl
theorem mr_8 : mR 8 = (yX0_addTrees, cX0_addTrees, 8, (some .boolean), false, qX0, iX0_addTrees, 0, 0) := rfl
theorem mr_9 : mR 9 = (yX0_placeOf, cX0_placeOf, 6, (some .int), false, qX0, iX0_placeOf, 0, 0) := rfl
theorem mr_10 : mR 10 = (yX0_setRanges, cX0_setRanges, 4, none, false, qX0, iX0_setRanges, 0, 0) := rfl
theorem mr_11 : mR 11 = (yX0_firstOf, cX0_firstOf, 3, (some .int), false, qX0, iX0_firstOf, 0, 0) := rfl
theorem mr_12 : mR 12 = (yX0_behindLast, cX0_behindLast, 3, (some .int), false, qX0, iX0_behindLast, 0, 0) := rfl
theorem mr_13 : mR 13 = (yX0_totalWays, cX0_totalWays, 7, (some .long), false, qX0, iX0_totalWays, 0, 0) := rfl
theorem mr_14 : mR 14 = (yX0_leastCost, cX0_leastCost, 6, (some .int), false, qX0, iX0_leastCost, 0, 0) := rfl
theorem mr_15 : mR 15 = (yX1_init, cX1_init, 1, none, true, qX1, iX1_init, 1, 105) := rfl
theorem mr_16 : mR 16 = (yX1_clear, cX1_clear, 1, none, false, qX1, iX1_clear, 0, 0) := rfl
theorem mr_17 : mR 17 = (yX1_has, cX1_has, 3, (some .boolean), false, qX1, iX1_has, 0, 0) := rfl
theorem mr_18 : mR 18 = (yX1_addBracket, cX1_addBracket, 3, (some .boolean), false, qX1, iX1_addBracket, 0, 0) := rfl
theorem mr_19 : mR 19 = (yX1_costOfNode, cX1_costOfNode, 3, (some .int), false, qX1, iX1_costOfNode, 0, 0) := rfl
theorem mr_20 : mR 20 = (yX2_init, cX2_init, 4, none, true, qX2, iX2_init, 4, 14112) := rfl
theorem mr_21 : mR 21 = (yX2_find, cX2_find, 7, none, false, qX2, iX2_find, 0, 0) := rfl
theorem mr_22 : mR 22 = (yX2_pushNode, cX2_pushNode, 4, (some .boolean), false, qX2, iX2_pushNode, 0, 0) := rfl
theorem mr_23 : mR 23 = (yX2_choose, cX2_choose, 7, none, false, qX2, iX2_choose, 0, 0) := rfl
theorem mr_24 : mR 24 = (yX2_tryEntries, cX2_tryEntries, 6, none, false, qX2, iX2_tryEntries, 0, 0) := rfl
theorem mr_25 : mR 25 = (yX2_offer, cX2_offer, 5, none, false, qX2, iX2_offer, 0, 0) := rfl
theorem mr_26 : mR 26 = (yX2_take, cX2_take, 3, none, false, qX2, iX2_take, 0, 0) := rfl
theorem mr_27 : mR 27 = (yX2_valueOf, cX2_valueOf, 10, (some .long), false, qX2, iX2_valueOf, 0, 0) := rfl
theorem mr_28 : mR 28 = (yX2_weightOfFirst, cX2_weightOfFirst, 12, (some .long), false, qX2, iX2_weightOfFirst, 0, 0) := rfl
theorem mr_29 : mR 29 = (yX2_weightOf, cX2_weightOf, 5, (some .long), false, qX2, iX2_weightOf, 0, 0) := rfl
theorem mr_30 : mR 30 = (yX2_openFirstPart, cX2_openFirstPart, 11, none, false, qX2, iX2_openFirstPart, 0, 0) := rfl
theorem mr_31 : mR 31 = (yX2_openSecondPart, cX2_openSecondPart, 11, none, false, qX2, iX2_openSecondPart, 0, 0) := rfl
theorem mr_32 : mR 32 = (yX2_closeNodes, cX2_closeNodes, 5, none, false, qX2, iX2_closeNodes, 0, 0) := rfl
theorem mr_33 : mR 33 = (yX2_worthOf, cX2_worthOf, 2, (some .long), false, qX2, iX2_worthOf, 0, 0) := rfl
theorem mr_34 : mR 34 = (yX2_nothing, cX2_nothing, 1, (some .long), false, qX2, iX2_nothing, 0, 0) := rfl
theorem mr_35 : mR 35 = (yX2_bothOf, cX2_bothOf, 5, (some .long), false, qX2, iX2_bothOf, 0, 0) := rfl
theorem mr_36 : mR 36 = (yX2_eitherOf, cX2_eitherOf, 5, (some .long), false, qX2, iX2_eitherOf, 0, 0) := rfl
theorem mr_37 : mR 37 = (yX3_init, cX3_init, 1, none, true, qX3, iX3_init, 10, 3262) := rfl
theorem mr_38 : mR 38 = (yX3_clear, cX3_clear, 1, none, false, qX3, iX3_clear, 0, 0) := rfl
theorem mr_39 : mR 39 = (yX3_root, cX3_root, 1, (some .int), false, qX3, iX3_root, 0, 0) := rfl
theorem mr_40 : mR 40 = (yX3_isSingle, cX3_isSingle, 2, (some .boolean), false, qX3, iX3_isSingle, 0, 0) := rfl
theorem mr_41 : mR 41 = (yX3_categoryOf, cX3_categoryOf, 4, (some .int), false, qX3, iX3_categoryOf, 0, 0) := rfl
theorem mr_42 : mR 42 = (yX3_addCategory, cX3_addCategory, 3, (some .int), false, qX3, iX3_addCategory, 0, 0) := rfl
theorem mr_43 : mR 43 = (yX3_addEntry, cX3_addEntry, 4, none, false, qX3, iX3_addEntry, 0, 0) := rfl
theorem mr_44 : mR 44 = (yX3_addRule, cX3_addRule, 6, none, false, qX3, iX3_addRule, 0, 0) := rfl
theorem mr_45 : mR 45 = (yX3_tabulate, cX3_tabulate, 6, none, false, qX3, iX3_tabulate, 0, 0) := rfl
theorem mr_46 : mR 46 = (yX3_tabulateFeature, cX3_tabulateFeature, 8, none, false, qX3, iX3_tabulateFeature, 0, 0) := rfl
theorem mr_47 : mR 47 = (yX3_join, cX3_join, 6, (some .int), false, qX3, iX3_join, 0, 0) := rfl
theorem mr_48 : mR 48 = (yX3_firstLoop, cX3_firstLoop, 3, (some .int), false, qX3, iX3_firstLoop, 0, 0) := rfl
theorem mr_49 : mR 49 = (yX3_reaches, cX3_reaches, 3, (some .boolean), false, qX3, iX3_reaches, 0, 0) := rfl
theorem mr_50 : mR 50 = (yX3_closeReach, cX3_closeReach, 3, none, false, qX3, iX3_closeReach, 0, 0) := rfl
theorem mr_51 : mR 51 = (yX3_orderSingles, cX3_orderSingles, 3, none, false, qX3, iX3_orderSingles, 0, 0) := rfl
theorem mr_52 : mR 52 = (yX4_init, cX4_init, 2, none, true, qX4, iX4_init, 10, 4549) := rfl
theorem mr_53 : mR 53 = (yX4_readInto, cX4_readInto, 5, (some .boolean), false, qX4, iX4_readInto, 0, 0) := rfl
theorem mr_54 : mR 54 = (yX4_isLoopless, cX4_isLoopless, 2, (some .boolean), false, qX4, iX4_isLoopless, 0, 0) := rfl
theorem mr_55 : mR 55 = (yX4_takeEntry, cX4_takeEntry, 5, (some .boolean), false, qX4, iX4_takeEntry, 0, 0) := rfl
theorem mr_56 : mR 56 = (yX4_takeFeatures, cX4_takeFeatures, 5, (some .int), false, qX4, iX4_takeFeatures, 0, 0) := rfl
theorem mr_57 : mR 57 = (yX4_takeRule, cX4_takeRule, 5, (some .boolean), false, qX4, iX4_takeRule, 0, 0) := rfl
theorem mr_58 : mR 58 = (yX4_takeLaws, cX4_takeLaws, 4, (some .boolean), false, qX4, iX4_takeLaws, 0, 0) := rfl
theorem mr_59 : mR 59 = (yX4_takeLaw, cX4_takeLaw, 6, (some .boolean), false, qX4, iX4_takeLaw, 0, 0) := rfl
theorem mr_60 : mR 60 = (yX4_takeCategoryName, cX4_takeCategoryName, 2, (some .int), false, qX4, iX4_takeCategoryName, 0, 0) := rfl
theorem mr_61 : mR 61 = (yX4_takeDigit, cX4_takeDigit, 3, (some .int), false, qX4, iX4_takeDigit, 0, 0) := rfl
theorem mr_62 : mR 62 = (yX4_takeKind, cX4_takeKind, 2, (some .boolean), false, qX4, iX4_takeKind, 0, 0) := rfl
theorem mr_63 : mR 63 = (yX4_advance, cX4_advance, 1, none, false, qX4, iX4_advance, 0, 0) := rfl
theorem mr_64 : mR 64 = (yX4_fail, cX4_fail, 2, (some .boolean), false, qX4, iX4_fail, 0, 0) := rfl
theorem mr_65 : mR 65 = (yX5_init, cX5_init, 1, none, true, qX5, iX5_init, 5, 35) := rfl
theorem mr_66 : mR 66 = (yX5_addLaw, cX5_addLaw, 5, none, false, qX5, iX5_addLaw, 0, 0) := rfl
theorem mr_67 : mR 67 = (yX5_areAbout, cX5_areAbout, 3, (some .boolean), false, qX5, iX5_areAbout, 0, 0) := rfl
theorem mr_68 : mR 68 = (yX5_wholeDigit, cX5_wholeDigit, 5, (some .int), false, qX5, iX5_wholeDigit, 0, 0) := rfl
theorem mr_69 : mR 69 = (yX5_obeyed, cX5_obeyed, 5, (some .boolean), false, qX5, iX5_obeyed, 0, 0) := rfl
theorem mr_70 : mR 70 = (yX6_init, cX6_init, 1, none, true, qX6, iX6_init, 2, 28) := rfl
theorem mr_71 : mR 71 = (yX6_scan, cX6_scan, 6, (some .boolean), false, qX6, iX6_scan, 0, 0) := rfl
theorem mr_72 : mR 72 = (yX6_keepScanned, cX6_keepScanned, 1, none, false, qX6, iX6_keepScanned, 0, 0) := rfl
theorem mr_73 : mR 73 = (yX7_init, cX7_init, 1, none, true, qX7, iX7_init, 1, 1540) := rfl
theorem mr_74 : mR 74 = (yX7_addNumber, cX7_addNumber, 3, none, false, qX7, iX7_addNumber, 0, 0) := rfl
theorem mr_75 : mR 75 = (yX7_isBlankAt, cX7_isBlankAt, 2, (some .boolean), false, qX7, iX7_isBlankAt, 0, 0) := rfl
theorem mr_76 : mR 76 = (yX7_isLetterAt, cX7_isLetterAt, 2, (some .boolean), false, qX7, iX7_isLetterAt, 0, 0) := rfl
theorem mr_77 : mR 77 = (yX7_isDigitAt, cX7_isDigitAt, 2, (some .boolean), false, qX7, iX7_isDigitAt, 0, 0) := rfl
theorem mr_78 : mR 78 = (yX7_behindBlanks, cX7_behindBlanks, 3, (some .int), false, qX7, iX7_behindBlanks, 0, 0) := rfl
theorem mr_79 : mR 79 = (yX7_behindLetters, cX7_behindLetters, 3, (some .int), false, qX7, iX7_behindLetters, 0, 0) := rfl
theorem mr_80 : mR 80 = (yX7_behindLettersAndDigits, cX7_behindLettersAndDigits, 3, (some .int), false, qX7, iX7_behindLettersAndDigits, 0, 0) := rfl
theorem mr_81 : mR 81 = (yX7_nameBetween, cX7_nameBetween, 6, (some .long), false, qX7, iX7_nameBetween, 0, 0) := rfl
theorem mr_82 : mR 82 = (yX7_onlyName, cX7_onlyName, 3, (some .long), false, qX7, iX7_onlyName, 0, 0) := rfl
theorem mr_83 : mR 83 = (yX8_init, cX8_init, 2, none, true, qX8, iX8_init, 3, 4503) := rfl
theorem mr_84 : mR 84 = (yX8_scan, cX8_scan, 4, none, false, qX8, iX8_scan, 0, 0) := rfl
theorem mr_85 : mR 85 = (yX8_takeToken, cX8_takeToken, 6, none, false, qX8, iX8_takeToken, 0, 0) := rfl
theorem mr_86 : mR 86 = (yX8_addToken, cX8_addToken, 5, none, false, qX8, iX8_addToken, 0, 0) := rfl
theorem mr_87 : mR 87 = (yX8_kindOfName, cX8_kindOfName, 2, (some .int), false, qX8, iX8_kindOfName, 0, 0) := rfl
theorem mr_88 : mR 88 = (yX9_init, cX9_init, 1, none, true, qX9, iX9_init, 5, 2160) := rfl
theorem mr_89 : mR 89 = (yX9_addNode, cX9_addNode, 5, (some .boolean), false, qX9, iX9_addNode, 0, 0) := rfl
theorem mr_90 : mR 90 = (yX9_costUnder, cX9_costUnder, 4, (some .int), false, qX9, iX9_costUnder, 0, 0) := rfl
theorem mr_91 : mR 91 = (yX10_init, cX10_init, 1, none, true, qX10, iX10_init, 58, 49889) := rfl
theorem mr_92 : mR 92 = (yX10_feed, cX10_feed, 6, (some .int), false, qX10, iX10_feed, 0, 0) := rfl
theorem mr_93 : mR 93 = (yX10_end, cX10_end, 2, (some .boolean), false, qX10, iX10_end, 0, 0) := rfl
theorem mr_94 : mR 94 = (yX10_grammar, cX10_grammar, 3, (some .int), false, qX10, iX10_grammar, 0, 0) := rfl
theorem mr_95 : mR 95 = (yX10_fault, cX10_fault, 1, (some .int), false, qX10, iX10_fault, 0, 0) := rfl
theorem mr_96 : mR 96 = (yX10_read, cX10_read, 2, (some .int), false, qX10, iX10_read, 0, 0) := rfl
theorem mr_97 : mR 97 = (yX10_trees, cX10_trees, 1, (some .long), false, qX10, iX10_trees, 0, 0) := rfl
theorem mr_98 : mR 98 = (yX10_signs, cX10_signs, 3, (some .int), false, qX10, iX10_signs, 0, 0) := rfl
theorem mr_99 : mR 99 = (yX10_sign, cX10_sign, 6, (some .int), false, qX10, iX10_sign, 0, 0) := rfl
theorem mr_100 : mR 100 = (yX10_times, cX10_times, 4, (some .long), false, qX10, iX10_times, 0, 0) := rfl
theorem mr_101 : mR 101 = (yX10_tree, cX10_tree, 2, (some .int), false, qX10, iX10_tree, 0, 0) := rfl
theorem mr_102 : mR 102 = (yX10_node, cX10_node, 3, (some .int), false, qX10, iX10_node, 0, 0) := rfl
theorem mr_103 : mR 103 = (yX10_bracket, cX10_bracket, 4, (some .boolean), false, qX10, iX10_bracket, 0, 0) := rfl
theorem mr_104 : mR 104 = (yX10_wipe, cX10_wipe, 2, (some .int), false, qX10, iX10_wipe, 0, 0) := rfl
theorem mr_105 : mR 105 = (yX10_slips, cX10_slips, 1, (some .int), false, qX10, iX10_slips, 0, 0) := rfl
theorem mr_106 : mR 106 = (yX10_mark, cX10_mark, 1, (some .int), false, qX10, iX10_mark, 0, 0) := rfl
theorem mr_107 : mR 107 = (yX10_held, cX10_held, 1, (some .int), false, qX10, iX10_held, 0, 0) := rfl
theorem mr_108 : mR 108 = (yX10_name, cX10_name, 5, (some .int), false, qX10, iX10_name, 0, 0) := rfl
theorem mr_109 : mR 109 = (yX10_category, cX10_category, 1, (some .int), false, qX10, iX10_category, 0, 0) := rfl
theorem mr_110 : mR 110 = (yX10_octet, cX10_octet, 2, (some .int), false, qX10, iX10_octet, 0, 0) := rfl
theorem mr_111 : mR 111 = (yX10_count, cX10_count, 2, (some .int), false, qX10, iX10_count, 0, 0) := rfl
theorem mr_112 : mR 112 = (yX10_takeCategory, cX10_takeCategory, 3, (some .int), false, qX10, iX10_takeCategory, 0, 0) := rfl
theorem mr_113 : mR 113 = (yX10_isSpan, cX10_isSpan, 3, (some .boolean), false, qX10, iX10_isSpan, 0, 0) := rfl
theorem mr_114 : mR 114 = (yX10_isSign, cX10_isSign, 4, (some .boolean), false, qX10, iX10_isSign, 0, 0) := rfl
theorem mr_115 : mR 115 = (yX10_treeTotal, cX10_treeTotal, 1, (some .long), false, qX10, iX10_treeTotal, 0, 0) := rfl
theorem mr_116 : mR 116 = (yX10_priceChart, cX10_priceChart, 1, none, false, qX10, iX10_priceChart, 0, 0) := rfl
theorem mr_117 : mR 117 = (yX10_cellOf, cX10_cellOf, 2, (some .int), false, qX10, iX10_cellOf, 0, 0) := rfl
theorem mr_118 : mR 118 = (yX10_shiftOf, cX10_shiftOf, 1, (some .int), false, qX10, iX10_shiftOf, 0, 0) := rfl
theorem mr_119 : mR 119 = (yX10_valueIn, cX10_valueIn, 2, (some .int), false, qX10, iX10_valueIn, 0, 0) := rfl
theorem mr_120 : mR 120 = (yX10_lengthOfName, cX10_lengthOfName, 5, (some .int), false, qX10, iX10_lengthOfName, 0, 0) := rfl
theorem mr_121 : mR 121 = (yX10_sumOf, cX10_sumOf, 4, (some .long), false, qX10, iX10_sumOf, 0, 0) := rfl
theorem mr_122 : mR 122 = (yX10_productOf, cX10_productOf, 4, (some .long), false, qX10, iX10_productOf, 0, 0) := rfl
theorem mr_123 : mR 123 = (yX11_init, cX11_init, 1, none, true, qX11, iX11_init, 30, 64950) := rfl
theorem mr_124 : mR 124 = (yX11_thrown, cX11_thrown, 1, (some .int), false, qX11, iX11_thrown, 0, 0) := rfl
theorem mr_125 : mR 125 = (yX11_refuse, cX11_refuse, 1, (some .int), false, qX11, iX11_refuse, 0, 0) := rfl
theorem mr_126 : mR 126 = (yX11_come, cX11_come, 3, none, false, qX11, iX11_come, 0, 0) := rfl
theorem mr_127 : mR 127 = (yX11_feed, cX11_feed, 6, (some .int), false, qX11, iX11_feed, 0, 0) := rfl
theorem mr_128 : mR 128 = (yX11_end, cX11_end, 2, (some .boolean), false, qX11, iX11_end, 0, 0) := rfl
theorem mr_129 : mR 129 = (yX11_at, cX11_at, 2, (some .int), false, qX11, iX11_at, 0, 0) := rfl
theorem mr_130 : mR 130 = (yX11_isDigit, cX11_isDigit, 1, (some .boolean), false, qX11, iX11_isDigit, 0, 0) := rfl
theorem mr_131 : mR 131 = (yX11_isLetter, cX11_isLetter, 1, (some .boolean), false, qX11, iX11_isLetter, 0, 0) := rfl
theorem mr_132 : mR 132 = (yX11_blanks, cX11_blanks, 1, none, false, qX11, iX11_blanks, 0, 0) := rfl
theorem mr_133 : mR 133 = (yX11_go, cX11_go, 2, none, false, qX11, iX11_go, 0, 0) := rfl
theorem mr_134 : mR 134 = (yX11_readName, cX11_readName, 4, none, false, qX11, iX11_readName, 0, 0) := rfl
theorem mr_135 : mR 135 = (yX11_bad, cX11_bad, 2, (some .boolean), false, qX11, iX11_bad, 0, 0) := rfl
theorem mr_136 : mR 136 = (yX11_isKey, cX11_isKey, 3, (some .boolean), false, qX11, iX11_isKey, 0, 0) := rfl
theorem mr_137 : mR 137 = (yX11_isFree, cX11_isFree, 1, (some .boolean), false, qX11, iX11_isFree, 0, 0) := rfl
theorem mr_138 : mR 138 = (yX11_readCategory, cX11_readCategory, 2, (some .int), false, qX11, iX11_readCategory, 0, 0) := rfl
theorem mr_139 : mR 139 = (yX11_readNumber, cX11_readNumber, 4, (some .int), false, qX11, iX11_readNumber, 0, 0) := rfl
theorem mr_140 : mR 140 = (yX11_valueIn, cX11_valueIn, 2, (some .int), false, qX11, iX11_valueIn, 0, 0) := rfl
theorem mr_141 : mR 141 = (yX11_with, cX11_with, 3, (some .int), false, qX11, iX11_with, 0, 0) := rfl
theorem mr_142 : mR 142 = (yX11_readEntry, cX11_readEntry, 4, (some .boolean), false, qX11, iX11_readEntry, 0, 0) := rfl
theorem mr_143 : mR 143 = (yX11_readRule, cX11_readRule, 7, (some .boolean), false, qX11, iX11_readRule, 0, 0) := rfl
theorem mr_144 : mR 144 = (yX11_readText, cX11_readText, 2, (some .boolean), false, qX11, iX11_readText, 0, 0) := rfl
theorem mr_145 : mR 145 = (yX11_close, cX11_close, 4, none, false, qX11, iX11_close, 0, 0) := rfl
theorem mr_146 : mR 146 = (yX11_arrange, cX11_arrange, 6, none, false, qX11, iX11_arrange, 0, 0) := rfl
theorem mr_147 : mR 147 = (yX11_grammar, cX11_grammar, 3, (some .int), false, qX11, iX11_grammar, 0, 0) := rfl
theorem mr_148 : mR 148 = (yX11_hold, cX11_hold, 4, none, false, qX11, iX11_hold, 0, 0) := rfl
theorem mr_149 : mR 149 = (yX11_fault, cX11_fault, 1, (some .int), false, qX11, iX11_fault, 0, 0) := rfl
theorem mr_150 : mR 150 = (yX11_made, cX11_made, 11, (some .int), false, qX11, iX11_made, 0, 0) := rfl
theorem mr_151 : mR 151 = (yX11_cell, cX11_cell, 2, (some .int), false, qX11, iX11_cell, 0, 0) := rfl
theorem mr_152 : mR 152 = (yX11_full, cX11_full, 2, (some .long), false, qX11, iX11_full, 0, 0) := rfl
theorem mr_153 : mR 153 = (yX11_product, cX11_product, 4, (some .long), false, qX11, iX11_product, 0, 0) := rfl
theorem mr_154 : mR 154 = (yX11_find, cX11_find, 4, (some .int), false, qX11, iX11_find, 0, 0) := rfl
theorem mr_155 : mR 155 = (yX11_adds, cX11_adds, 6, (some .boolean), false, qX11, iX11_adds, 0, 0) := rfl
theorem mr_156 : mR 156 = (yX11_categoryOf, cX11_categoryOf, 1, (some .int), false, qX11, iX11_categoryOf, 0, 0) := rfl
theorem mr_157 : mR 157 = (yX11_fills, cX11_fills, 9, (some .boolean), false, qX11, iX11_fills, 0, 0) := rfl
theorem mr_158 : mR 158 = (yX11_joins, cX11_joins, 10, (some .boolean), false, qX11, iX11_joins, 0, 0) := rfl
theorem mr_159 : mR 159 = (yX11_readWords, cX11_readWords, 2, (some .int), false, qX11, iX11_readWords, 0, 0) := rfl
theorem mr_160 : mR 160 = (yX11_read, cX11_read, 5, (some .int), false, qX11, iX11_read, 0, 0) := rfl
theorem mr_161 : mR 161 = (yX11_trees, cX11_trees, 5, (some .long), false, qX11, iX11_trees, 0, 0) := rfl
theorem mr_162 : mR 162 = (yX11_isCell, cX11_isCell, 3, (some .boolean), false, qX11, iX11_isCell, 0, 0) := rfl
theorem mr_163 : mR 163 = (yX11_signs, cX11_signs, 3, (some .int), false, qX11, iX11_signs, 0, 0) := rfl
theorem mr_164 : mR 164 = (yX11_sign, cX11_sign, 6, (some .int), false, qX11, iX11_sign, 0, 0) := rfl
theorem mr_165 : mR 165 = (yX11_times, cX11_times, 4, (some .long), false, qX11, iX11_times, 0, 0) := rfl
theorem mr_166 : mR 166 = (yX11_node, cX11_node, 5, (some .int), false, qX11, iX11_node, 0, 0) := rfl
theorem mr_167 : mR 167 = (yX11_weighs, cX11_weighs, 5, (some .long), false, qX11, iX11_weighs, 0, 0) := rfl
theorem mr_168 : mR 168 = (yX11_pick, cX11_pick, 10, none, false, qX11, iX11_pick, 0, 0) := rfl
theorem mr_169 : mR 169 = (yX11_picks, cX11_picks, 19, (some .boolean), false, qX11, iX11_picks, 0, 0) := rfl
theorem mr_170 : mR 170 = (yX11_tree, cX11_tree, 4, (some .int), false, qX11, iX11_tree, 0, 0) := rfl
theorem mr_171 : mR 171 = (yX11_node_, cX11_node_, 3, (some .int), false, qX11, iX11_node_, 0, 0) := rfl
theorem mr_172 : mR 172 = (yX11_takeCategory, cX11_takeCategory, 2, (some .int), false, qX11, iX11_takeCategory, 0, 0) := rfl
theorem mr_173 : mR 173 = (yX11_hasBracket, cX11_hasBracket, 5, (some .boolean), false, qX11, iX11_hasBracket, 0, 0) := rfl
theorem mr_174 : mR 174 = (yX11_bracket, cX11_bracket, 4, (some .boolean), false, qX11, iX11_bracket, 0, 0) := rfl
theorem mr_175 : mR 175 = (yX11_wipe, cX11_wipe, 2, (some .int), false, qX11, iX11_wipe, 0, 0) := rfl
theorem mr_176 : mR 176 = (yX11_ownCost, cX11_ownCost, 4, (some .int), false, qX11, iX11_ownCost, 0, 0) := rfl
theorem mr_177 : mR 177 = (yX11_lowers, cX11_lowers, 5, none, false, qX11, iX11_lowers, 0, 0) := rfl
theorem mr_178 : mR 178 = (yX11_costs, cX11_costs, 15, none, false, qX11, iX11_costs, 0, 0) := rfl
theorem mr_179 : mR 179 = (yX11_leastCost, cX11_leastCost, 5, (some .int), false, qX11, iX11_leastCost, 0, 0) := rfl
theorem mr_180 : mR 180 = (yX11_slips, cX11_slips, 2, (some .int), false, qX11, iX11_slips, 0, 0) := rfl
theorem mr_181 : mR 181 = (yX11_isWanted, cX11_isWanted, 6, (some .boolean), false, qX11, iX11_isWanted, 0, 0) := rfl
theorem mr_182 : mR 182 = (yX11_first, cX11_first, 9, none, false, qX11, iX11_first, 0, 0) := rfl
theorem mr_183 : mR 183 = (yX11_firstOf, cX11_firstOf, 17, (some .boolean), false, qX11, iX11_firstOf, 0, 0) := rfl
theorem mr_184 : mR 184 = (yX11_goes, cX11_goes, 10, (some .boolean), false, qX11, iX11_goes, 0, 0) := rfl
theorem mr_185 : mR 185 = (yX11_mark, cX11_mark, 4, (some .int), false, qX11, iX11_mark, 0, 0) := rfl
theorem mr_186 : mR 186 = (yX11_held, cX11_held, 3, (some .int), false, qX11, iX11_held, 0, 0) := rfl
theorem mr_187 : mR 187 = (yX11_name, cX11_name, 6, (some .int), false, qX11, iX11_name, 0, 0) := rfl
theorem mr_188 : mR 188 = (yX11_category, cX11_category, 1, (some .int), false, qX11, iX11_category, 0, 0) := rfl
theorem mr_189 : mR 189 = (yX11_octet, cX11_octet, 2, (some .int), false, qX11, iX11_octet, 0, 0) := rfl
theorem mr_190 : mR 190 = (yX11_count, cX11_count, 2, (some .int), false, qX11, iX11_count, 0, 0) := rfl
theorem mr_191 : mR 191 = (yJ6_bitCount_0f7a4, cJ6_bitCount_0f7a4, 1, (some .int), false, qJ6, iJ6_bitCount_0f7a4, 0, 0) := rfl
theorem mr_192 : mR 192 = (yJ7_rangeCheck_23922, cJ7_rangeCheck_23922, 3, none, false, qJ7, iJ7_rangeCheck_23922, 0, 0) := rfl
theorem mr_193 : mR 193 = (yJ7_fill_bad5a, cJ7_fill_bad5a, 6, none, false, qJ7, iJ7_fill_bad5a, 0, 0) := rfl
theorem mr_194 : mR 194 = (yJ7_fill_53178, cJ7_fill_53178, 4, none, false, qJ7, iJ7_fill_53178, 0, 0) := rfl
theorem mr_195 : mR 195 = (yJ7_fill_fda19, cJ7_fill_fda19, 5, none, false, qJ7, iJ7_fill_fda19, 0, 0) := rfl
