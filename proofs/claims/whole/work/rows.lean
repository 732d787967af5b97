section
-- ===== PART A: goes FIRST, ahead of the names: the tables' words, and 'selects' of the private methods out of them =====
/-- a private method of a class that the tables say can be made, by its rows of tables_1 -/
def lw_okq (q : MethodName × Nat) : Prop := (q.1.cls ≠ "java/lang/invoke/MethodHandle" ∧ q.1.cls ≠ "java/lang/invoke/VarHandle") ∧ Cond.instantiable q.1.cls q.2 ∈ tables_1 ∧ Cond.privateMethod q.1 ∈ tables_1 ∧ Cond.instanceMethod q.1 ∈ tables_1
theorem lw_p0 : lw_okq (⟨"OneTriangle$Piece", "understand", "()V"⟩, 10) := ⟨⟨by decide +kernel, by decide +kernel⟩, List.mem_of_getElem? (i := 26) (by decide +kernel), List.mem_of_getElem? (i := 288) (by decide +kernel), List.mem_of_getElem? (i := 289) (by decide +kernel)⟩
theorem lw_p1 : lw_okq (⟨"OneTriangle$Piece", "byteAt", "(I)I"⟩, 10) := ⟨⟨by decide +kernel, by decide +kernel⟩, List.mem_of_getElem? (i := 26) (by decide +kernel), List.mem_of_getElem? (i := 292) (by decide +kernel), List.mem_of_getElem? (i := 293) (by decide +kernel)⟩
theorem lw_p2 : lw_okq (⟨"OneTriangle$Piece", "passed", "(I)I"⟩, 10) := ⟨⟨by decide +kernel, by decide +kernel⟩, List.mem_of_getElem? (i := 26) (by decide +kernel), List.mem_of_getElem? (i := 299) (by decide +kernel), List.mem_of_getElem? (i := 300) (by decide +kernel)⟩
theorem lw_p3 : lw_okq (⟨"OneTriangle$Piece", "passedPlain", "(I)I"⟩, 10) := ⟨⟨by decide +kernel, by decide +kernel⟩, List.mem_of_getElem? (i := 26) (by decide +kernel), List.mem_of_getElem? (i := 303) (by decide +kernel), List.mem_of_getElem? (i := 304) (by decide +kernel)⟩
theorem lw_p4 : lw_okq (⟨"OneTriangle$Piece", "faultAt", "(I)I"⟩, 10) := ⟨⟨by decide +kernel, by decide +kernel⟩, List.mem_of_getElem? (i := 26) (by decide +kernel), List.mem_of_getElem? (i := 308) (by decide +kernel), List.mem_of_getElem? (i := 309) (by decide +kernel)⟩
theorem lw_p5 : lw_okq (⟨"OneTriangle$Piece", "addBars", "(II)Z"⟩, 10) := ⟨⟨by decide +kernel, by decide +kernel⟩, List.mem_of_getElem? (i := 26) (by decide +kernel), List.mem_of_getElem? (i := 312) (by decide +kernel), List.mem_of_getElem? (i := 313) (by decide +kernel)⟩
theorem lw_p6 : lw_okq (⟨"OneTriangle$Piece", "passedLoose", "(II)I"⟩, 10) := ⟨⟨by decide +kernel, by decide +kernel⟩, List.mem_of_getElem? (i := 26) (by decide +kernel), List.mem_of_getElem? (i := 319) (by decide +kernel), List.mem_of_getElem? (i := 320) (by decide +kernel)⟩
theorem lw_p7 : lw_okq (⟨"OneTriangle$Piece", "passedCue", "(I)I"⟩, 10) := ⟨⟨by decide +kernel, by decide +kernel⟩, List.mem_of_getElem? (i := 26) (by decide +kernel), List.mem_of_getElem? (i := 323) (by decide +kernel), List.mem_of_getElem? (i := 324) (by decide +kernel)⟩
theorem lw_p8 : lw_okq (⟨"OneTriangle", "sheetAt", "(I)LOneTriangle$Sheet;"⟩, 13) := ⟨⟨by decide +kernel, by decide +kernel⟩, List.mem_of_getElem? (i := 18) (by decide +kernel), List.mem_of_getElem? (i := 403) (by decide +kernel), List.mem_of_getElem? (i := 404) (by decide +kernel)⟩
theorem lw_p9 : lw_okq (⟨"OneTriangle", "found", "(I)I"⟩, 13) := ⟨⟨by decide +kernel, by decide +kernel⟩, List.mem_of_getElem? (i := 18) (by decide +kernel), List.mem_of_getElem? (i := 407) (by decide +kernel), List.mem_of_getElem? (i := 408) (by decide +kernel)⟩
theorem lw_p10 : lw_okq (⟨"OneTriangle", "addNote", "(III)I"⟩, 13) := ⟨⟨by decide +kernel, by decide +kernel⟩, List.mem_of_getElem? (i := 18) (by decide +kernel), List.mem_of_getElem? (i := 431) (by decide +kernel), List.mem_of_getElem? (i := 432) (by decide +kernel)⟩
theorem lw_p11 : lw_okq (⟨"OneTriangle", "refreshWays", "()V"⟩, 13) := ⟨⟨by decide +kernel, by decide +kernel⟩, List.mem_of_getElem? (i := 18) (by decide +kernel), List.mem_of_getElem? (i := 458) (by decide +kernel), List.mem_of_getElem? (i := 459) (by decide +kernel)⟩
theorem lw_p12 : lw_okq (⟨"OneTriangle$Ways", "pass", "(II)V"⟩, 8) := ⟨⟨by decide +kernel, by decide +kernel⟩, List.mem_of_getElem? (i := 113) (by decide +kernel), List.mem_of_getElem? (i := 476) (by decide +kernel), List.mem_of_getElem? (i := 477) (by decide +kernel)⟩
theorem lw_p13 : lw_okq (⟨"OneTriangle$Ways", "addSaid", "(IIJ)V"⟩, 8) := ⟨⟨by decide +kernel, by decide +kernel⟩, List.mem_of_getElem? (i := 113) (by decide +kernel), List.mem_of_getElem? (i := 490) (by decide +kernel), List.mem_of_getElem? (i := 491) (by decide +kernel)⟩
theorem lw_p14 : lw_okq (⟨"OneTriangle", "costAbove", "(I)J"⟩, 13) := ⟨⟨by decide +kernel, by decide +kernel⟩, List.mem_of_getElem? (i := 18) (by decide +kernel), List.mem_of_getElem? (i := 528) (by decide +kernel), List.mem_of_getElem? (i := 529) (by decide +kernel)⟩
theorem lw_p15 : lw_okq (⟨"OneTriangle$Spread", "drift", "(III)V"⟩, 3) := ⟨⟨by decide +kernel, by decide +kernel⟩, List.mem_of_getElem? (i := 145) (by decide +kernel), List.mem_of_getElem? (i := 555) (by decide +kernel), List.mem_of_getElem? (i := 556) (by decide +kernel)⟩
def lw_privs_1 : List (MethodName × Nat) := [(⟨"OneTriangle$Piece", "understand", "()V"⟩, 10), (⟨"OneTriangle$Piece", "byteAt", "(I)I"⟩, 10), (⟨"OneTriangle$Piece", "passed", "(I)I"⟩, 10), (⟨"OneTriangle$Piece", "passedPlain", "(I)I"⟩, 10), (⟨"OneTriangle$Piece", "faultAt", "(I)I"⟩, 10), (⟨"OneTriangle$Piece", "addBars", "(II)Z"⟩, 10), (⟨"OneTriangle$Piece", "passedLoose", "(II)I"⟩, 10), (⟨"OneTriangle$Piece", "passedCue", "(I)I"⟩, 10), (⟨"OneTriangle", "sheetAt", "(I)LOneTriangle$Sheet;"⟩, 13), (⟨"OneTriangle", "found", "(I)I"⟩, 13), (⟨"OneTriangle", "addNote", "(III)I"⟩, 13), (⟨"OneTriangle", "refreshWays", "()V"⟩, 13), (⟨"OneTriangle$Ways", "pass", "(II)V"⟩, 8), (⟨"OneTriangle$Ways", "addSaid", "(IIJ)V"⟩, 8), (⟨"OneTriangle", "costAbove", "(I)J"⟩, 13), (⟨"OneTriangle$Spread", "drift", "(III)V"⟩, 3)]
theorem lw_r1 : ∀ q ∈ lw_privs_1, lw_okq q := List.forall_mem_cons.mpr ⟨lw_p0, List.forall_mem_cons.mpr ⟨lw_p1, List.forall_mem_cons.mpr ⟨lw_p2, List.forall_mem_cons.mpr ⟨lw_p3, List.forall_mem_cons.mpr ⟨lw_p4, List.forall_mem_cons.mpr ⟨lw_p5, List.forall_mem_cons.mpr ⟨lw_p6, List.forall_mem_cons.mpr ⟨lw_p7, List.forall_mem_cons.mpr ⟨lw_p8, List.forall_mem_cons.mpr ⟨lw_p9, List.forall_mem_cons.mpr ⟨lw_p10, List.forall_mem_cons.mpr ⟨lw_p11, List.forall_mem_cons.mpr ⟨lw_p12, List.forall_mem_cons.mpr ⟨lw_p13, List.forall_mem_cons.mpr ⟨lw_p14, List.forall_mem_cons.mpr ⟨lw_p15, fun _ h => absurd h List.not_mem_nil⟩⟩⟩⟩⟩⟩⟩⟩⟩⟩⟩⟩⟩⟩⟩⟩
theorem lw_p16 : lw_okq (⟨"OneTriangle$Spread", "gather", "(I)V"⟩, 3) := ⟨⟨by decide +kernel, by decide +kernel⟩, List.mem_of_getElem? (i := 145) (by decide +kernel), List.mem_of_getElem? (i := 564) (by decide +kernel), List.mem_of_getElem? (i := 565) (by decide +kernel)⟩
theorem lw_p17 : lw_okq (⟨"OneTriangle", "safety", "(I)J"⟩, 13) := ⟨⟨by decide +kernel, by decide +kernel⟩, List.mem_of_getElem? (i := 18) (by decide +kernel), List.mem_of_getElem? (i := 584) (by decide +kernel), List.mem_of_getElem? (i := 585) (by decide +kernel)⟩
theorem lw_p18 : lw_okq (⟨"OneTriangle", "comeTo", "(I)Z"⟩, 13) := ⟨⟨by decide +kernel, by decide +kernel⟩, List.mem_of_getElem? (i := 18) (by decide +kernel), List.mem_of_getElem? (i := 615) (by decide +kernel), List.mem_of_getElem? (i := 616) (by decide +kernel)⟩
theorem lw_p19 : lw_okq (⟨"OneTriangle", "trueLater", "()J"⟩, 13) := ⟨⟨by decide +kernel, by decide +kernel⟩, List.mem_of_getElem? (i := 18) (by decide +kernel), List.mem_of_getElem? (i := 620) (by decide +kernel), List.mem_of_getElem? (i := 621) (by decide +kernel)⟩
theorem lw_p20 : lw_okq (⟨"OneTriangle$Diary", "isWrong", "(I)Z"⟩, 3) := ⟨⟨by decide +kernel, by decide +kernel⟩, List.mem_of_getElem? (i := 184) (by decide +kernel), List.mem_of_getElem? (i := 683) (by decide +kernel), List.mem_of_getElem? (i := 684) (by decide +kernel)⟩
theorem lw_p21 : lw_okq (⟨"OneTriangle", "slipOfNight", "()I"⟩, 13) := ⟨⟨by decide +kernel, by decide +kernel⟩, List.mem_of_getElem? (i := 18) (by decide +kernel), List.mem_of_getElem? (i := 701) (by decide +kernel), List.mem_of_getElem? (i := 702) (by decide +kernel)⟩
theorem lw_p22 : lw_okq (⟨"OneTriangleModel", "faultNow", "()I"⟩, 36) := ⟨⟨by decide +kernel, by decide +kernel⟩, List.mem_of_getElem? (i := 788) (by decide +kernel), List.mem_of_getElem? (i := 923) (by decide +kernel), List.mem_of_getElem? (i := 924) (by decide +kernel)⟩
theorem lw_p23 : lw_okq (⟨"OneTriangleModel", "readsPiece", "()I"⟩, 36) := ⟨⟨by decide +kernel, by decide +kernel⟩, List.mem_of_getElem? (i := 788) (by decide +kernel), List.mem_of_getElem? (i := 927) (by decide +kernel), List.mem_of_getElem? (i := 928) (by decide +kernel)⟩
theorem lw_p24 : lw_okq (⟨"OneTriangleModel", "figureAt", "(I)I"⟩, 36) := ⟨⟨by decide +kernel, by decide +kernel⟩, List.mem_of_getElem? (i := 788) (by decide +kernel), List.mem_of_getElem? (i := 931) (by decide +kernel), List.mem_of_getElem? (i := 932) (by decide +kernel)⟩
theorem lw_p25 : lw_okq (⟨"OneTriangleModel", "adds", "(II)V"⟩, 36) := ⟨⟨by decide +kernel, by decide +kernel⟩, List.mem_of_getElem? (i := 788) (by decide +kernel), List.mem_of_getElem? (i := 935) (by decide +kernel), List.mem_of_getElem? (i := 936) (by decide +kernel)⟩
theorem lw_p26 : lw_okq (⟨"OneTriangleModel", "isBar", "(I)Z"⟩, 36) := ⟨⟨by decide +kernel, by decide +kernel⟩, List.mem_of_getElem? (i := 788) (by decide +kernel), List.mem_of_getElem? (i := 943) (by decide +kernel), List.mem_of_getElem? (i := 944) (by decide +kernel)⟩
theorem lw_p27 : lw_okq (⟨"OneTriangleModel", "reads", "()V"⟩, 36) := ⟨⟨by decide +kernel, by decide +kernel⟩, List.mem_of_getElem? (i := 788) (by decide +kernel), List.mem_of_getElem? (i := 947) (by decide +kernel), List.mem_of_getElem? (i := 948) (by decide +kernel)⟩
theorem lw_p28 : lw_okq (⟨"OneTriangleModel", "barOf", "(II)I"⟩, 36) := ⟨⟨by decide +kernel, by decide +kernel⟩, List.mem_of_getElem? (i := 788) (by decide +kernel), List.mem_of_getElem? (i := 951) (by decide +kernel), List.mem_of_getElem? (i := 952) (by decide +kernel)⟩
theorem lw_p29 : lw_okq (⟨"OneTriangleModel", "meets", "(I)I"⟩, 36) := ⟨⟨by decide +kernel, by decide +kernel⟩, List.mem_of_getElem? (i := 788) (by decide +kernel), List.mem_of_getElem? (i := 970) (by decide +kernel), List.mem_of_getElem? (i := 971) (by decide +kernel)⟩
theorem lw_p30 : lw_okq (⟨"OneTriangleModel", "notesMore", "(III)I"⟩, 36) := ⟨⟨by decide +kernel, by decide +kernel⟩, List.mem_of_getElem? (i := 788) (by decide +kernel), List.mem_of_getElem? (i := 981) (by decide +kernel), List.mem_of_getElem? (i := 982) (by decide +kernel)⟩
theorem lw_p31 : lw_okq (⟨"OneTriangleModel", "whereOf", "(III)J"⟩, 36) := ⟨⟨by decide +kernel, by decide +kernel⟩, List.mem_of_getElem? (i := 788) (by decide +kernel), List.mem_of_getElem? (i := 997) (by decide +kernel), List.mem_of_getElem? (i := 998) (by decide +kernel)⟩
def lw_privs_2 : List (MethodName × Nat) := [(⟨"OneTriangle$Spread", "gather", "(I)V"⟩, 3), (⟨"OneTriangle", "safety", "(I)J"⟩, 13), (⟨"OneTriangle", "comeTo", "(I)Z"⟩, 13), (⟨"OneTriangle", "trueLater", "()J"⟩, 13), (⟨"OneTriangle$Diary", "isWrong", "(I)Z"⟩, 3), (⟨"OneTriangle", "slipOfNight", "()I"⟩, 13), (⟨"OneTriangleModel", "faultNow", "()I"⟩, 36), (⟨"OneTriangleModel", "readsPiece", "()I"⟩, 36), (⟨"OneTriangleModel", "figureAt", "(I)I"⟩, 36), (⟨"OneTriangleModel", "adds", "(II)V"⟩, 36), (⟨"OneTriangleModel", "isBar", "(I)Z"⟩, 36), (⟨"OneTriangleModel", "reads", "()V"⟩, 36), (⟨"OneTriangleModel", "barOf", "(II)I"⟩, 36), (⟨"OneTriangleModel", "meets", "(I)I"⟩, 36), (⟨"OneTriangleModel", "notesMore", "(III)I"⟩, 36), (⟨"OneTriangleModel", "whereOf", "(III)J"⟩, 36)]
theorem lw_r2 : ∀ q ∈ lw_privs_2, lw_okq q := List.forall_mem_cons.mpr ⟨lw_p16, List.forall_mem_cons.mpr ⟨lw_p17, List.forall_mem_cons.mpr ⟨lw_p18, List.forall_mem_cons.mpr ⟨lw_p19, List.forall_mem_cons.mpr ⟨lw_p20, List.forall_mem_cons.mpr ⟨lw_p21, List.forall_mem_cons.mpr ⟨lw_p22, List.forall_mem_cons.mpr ⟨lw_p23, List.forall_mem_cons.mpr ⟨lw_p24, List.forall_mem_cons.mpr ⟨lw_p25, List.forall_mem_cons.mpr ⟨lw_p26, List.forall_mem_cons.mpr ⟨lw_p27, List.forall_mem_cons.mpr ⟨lw_p28, List.forall_mem_cons.mpr ⟨lw_p29, List.forall_mem_cons.mpr ⟨lw_p30, List.forall_mem_cons.mpr ⟨lw_p31, fun _ h => absurd h List.not_mem_nil⟩⟩⟩⟩⟩⟩⟩⟩⟩⟩⟩⟩⟩⟩⟩⟩
theorem lw_p32 : lw_okq (⟨"OneTriangleModel", "findsWhere", "(I)V"⟩, 36) := ⟨⟨by decide +kernel, by decide +kernel⟩, List.mem_of_getElem? (i := 788) (by decide +kernel), List.mem_of_getElem? (i := 1001) (by decide +kernel), List.mem_of_getElem? (i := 1002) (by decide +kernel)⟩
theorem lw_p33 : lw_okq (⟨"OneTriangleModel", "saysOdds", "(II)I"⟩, 36) := ⟨⟨by decide +kernel, by decide +kernel⟩, List.mem_of_getElem? (i := 788) (by decide +kernel), List.mem_of_getElem? (i := 1006) (by decide +kernel), List.mem_of_getElem? (i := 1007) (by decide +kernel)⟩
theorem lw_p34 : lw_okq (⟨"OneTriangleModel", "notesWeigh", "(II)J"⟩, 36) := ⟨⟨by decide +kernel, by decide +kernel⟩, List.mem_of_getElem? (i := 788) (by decide +kernel), List.mem_of_getElem? (i := 1010) (by decide +kernel), List.mem_of_getElem? (i := 1011) (by decide +kernel)⟩
theorem lw_p35 : lw_okq (⟨"OneTriangleModel", "likeliestOf", "(I)I"⟩, 36) := ⟨⟨by decide +kernel, by decide +kernel⟩, List.mem_of_getElem? (i := 788) (by decide +kernel), List.mem_of_getElem? (i := 1025) (by decide +kernel), List.mem_of_getElem? (i := 1026) (by decide +kernel)⟩
theorem lw_p36 : lw_okq (⟨"OneTriangleModel", "strikeOf", "(II)J"⟩, 36) := ⟨⟨by decide +kernel, by decide +kernel⟩, List.mem_of_getElem? (i := 788) (by decide +kernel), List.mem_of_getElem? (i := 1033) (by decide +kernel), List.mem_of_getElem? (i := 1034) (by decide +kernel)⟩
theorem lw_p37 : lw_okq (⟨"OneTriangleModel", "lineNow", "()I"⟩, 36) := ⟨⟨by decide +kernel, by decide +kernel⟩, List.mem_of_getElem? (i := 788) (by decide +kernel), List.mem_of_getElem? (i := 1041) (by decide +kernel), List.mem_of_getElem? (i := 1042) (by decide +kernel)⟩
theorem lw_p38 : lw_okq (⟨"OneTriangleModel", "slipsOf", "(III)J"⟩, 36) := ⟨⟨by decide +kernel, by decide +kernel⟩, List.mem_of_getElem? (i := 788) (by decide +kernel), List.mem_of_getElem? (i := 1052) (by decide +kernel), List.mem_of_getElem? (i := 1053) (by decide +kernel)⟩
theorem lw_p39 : lw_okq (⟨"OneTriangleModel", "findsSlips", "(III)V"⟩, 36) := ⟨⟨by decide +kernel, by decide +kernel⟩, List.mem_of_getElem? (i := 788) (by decide +kernel), List.mem_of_getElem? (i := 1056) (by decide +kernel), List.mem_of_getElem? (i := 1057) (by decide +kernel)⟩
theorem lw_p40 : lw_okq (⟨"OneTriangleModel", "slipLoose", "(II)V"⟩, 36) := ⟨⟨by decide +kernel, by decide +kernel⟩, List.mem_of_getElem? (i := 788) (by decide +kernel), List.mem_of_getElem? (i := 1060) (by decide +kernel), List.mem_of_getElem? (i := 1061) (by decide +kernel)⟩
theorem lw_p41 : lw_okq (⟨"OneTriangleModel", "missedIn", "(II)I"⟩, 36) := ⟨⟨by decide +kernel, by decide +kernel⟩, List.mem_of_getElem? (i := 788) (by decide +kernel), List.mem_of_getElem? (i := 1064) (by decide +kernel), List.mem_of_getElem? (i := 1065) (by decide +kernel)⟩
theorem lw_p42 : lw_okq (⟨"OneTriangleModel", "isSome", "(I)Z"⟩, 36) := ⟨⟨by decide +kernel, by decide +kernel⟩, List.mem_of_getElem? (i := 788) (by decide +kernel), List.mem_of_getElem? (i := 1075) (by decide +kernel), List.mem_of_getElem? (i := 1076) (by decide +kernel)⟩
theorem lw_p43 : lw_okq (⟨"OneTriangleModel", "safeOf", "(II)J"⟩, 36) := ⟨⟨by decide +kernel, by decide +kernel⟩, List.mem_of_getElem? (i := 788) (by decide +kernel), List.mem_of_getElem? (i := 1082) (by decide +kernel), List.mem_of_getElem? (i := 1083) (by decide +kernel)⟩
theorem lw_p44 : lw_okq (⟨"OneTriangleModel", "safeBy", "(I)J"⟩, 36) := ⟨⟨by decide +kernel, by decide +kernel⟩, List.mem_of_getElem? (i := 788) (by decide +kernel), List.mem_of_getElem? (i := 1086) (by decide +kernel), List.mem_of_getElem? (i := 1087) (by decide +kernel)⟩
theorem lw_p45 : lw_okq (⟨"OneTriangleModel", "cuesNow", "()I"⟩, 36) := ⟨⟨by decide +kernel, by decide +kernel⟩, List.mem_of_getElem? (i := 788) (by decide +kernel), List.mem_of_getElem? (i := 1094) (by decide +kernel), List.mem_of_getElem? (i := 1095) (by decide +kernel)⟩
theorem lw_p46 : lw_okq (⟨"OneTriangleModel", "writeOf", "(I)I"⟩, 36) := ⟨⟨by decide +kernel, by decide +kernel⟩, List.mem_of_getElem? (i := 788) (by decide +kernel), List.mem_of_getElem? (i := 1098) (by decide +kernel), List.mem_of_getElem? (i := 1099) (by decide +kernel)⟩
theorem lw_p47 : lw_okq (⟨"OneTriangleModel", "fewOf", "(I)I"⟩, 36) := ⟨⟨by decide +kernel, by decide +kernel⟩, List.mem_of_getElem? (i := 788) (by decide +kernel), List.mem_of_getElem? (i := 1107) (by decide +kernel), List.mem_of_getElem? (i := 1108) (by decide +kernel)⟩
def lw_privs_3 : List (MethodName × Nat) := [(⟨"OneTriangleModel", "findsWhere", "(I)V"⟩, 36), (⟨"OneTriangleModel", "saysOdds", "(II)I"⟩, 36), (⟨"OneTriangleModel", "notesWeigh", "(II)J"⟩, 36), (⟨"OneTriangleModel", "likeliestOf", "(I)I"⟩, 36), (⟨"OneTriangleModel", "strikeOf", "(II)J"⟩, 36), (⟨"OneTriangleModel", "lineNow", "()I"⟩, 36), (⟨"OneTriangleModel", "slipsOf", "(III)J"⟩, 36), (⟨"OneTriangleModel", "findsSlips", "(III)V"⟩, 36), (⟨"OneTriangleModel", "slipLoose", "(II)V"⟩, 36), (⟨"OneTriangleModel", "missedIn", "(II)I"⟩, 36), (⟨"OneTriangleModel", "isSome", "(I)Z"⟩, 36), (⟨"OneTriangleModel", "safeOf", "(II)J"⟩, 36), (⟨"OneTriangleModel", "safeBy", "(I)J"⟩, 36), (⟨"OneTriangleModel", "cuesNow", "()I"⟩, 36), (⟨"OneTriangleModel", "writeOf", "(I)I"⟩, 36), (⟨"OneTriangleModel", "fewOf", "(I)I"⟩, 36)]
theorem lw_r3 : ∀ q ∈ lw_privs_3, lw_okq q := List.forall_mem_cons.mpr ⟨lw_p32, List.forall_mem_cons.mpr ⟨lw_p33, List.forall_mem_cons.mpr ⟨lw_p34, List.forall_mem_cons.mpr ⟨lw_p35, List.forall_mem_cons.mpr ⟨lw_p36, List.forall_mem_cons.mpr ⟨lw_p37, List.forall_mem_cons.mpr ⟨lw_p38, List.forall_mem_cons.mpr ⟨lw_p39, List.forall_mem_cons.mpr ⟨lw_p40, List.forall_mem_cons.mpr ⟨lw_p41, List.forall_mem_cons.mpr ⟨lw_p42, List.forall_mem_cons.mpr ⟨lw_p43, List.forall_mem_cons.mpr ⟨lw_p44, List.forall_mem_cons.mpr ⟨lw_p45, List.forall_mem_cons.mpr ⟨lw_p46, List.forall_mem_cons.mpr ⟨lw_p47, fun _ h => absurd h List.not_mem_nil⟩⟩⟩⟩⟩⟩⟩⟩⟩⟩⟩⟩⟩⟩⟩⟩
theorem lw_p48 : lw_okq (⟨"OneTriangleModel", "anewOf", "(I)I"⟩, 36) := ⟨⟨by decide +kernel, by decide +kernel⟩, List.mem_of_getElem? (i := 788) (by decide +kernel), List.mem_of_getElem? (i := 1115) (by decide +kernel), List.mem_of_getElem? (i := 1116) (by decide +kernel)⟩
theorem lw_p49 : lw_okq (⟨"OneTriangleModel", "eveningOf", "(II)J"⟩, 36) := ⟨⟨by decide +kernel, by decide +kernel⟩, List.mem_of_getElem? (i := 788) (by decide +kernel), List.mem_of_getElem? (i := 1127) (by decide +kernel), List.mem_of_getElem? (i := 1128) (by decide +kernel)⟩
theorem lw_p50 : lw_okq (⟨"OneTriangleModel", "eveningBy", "(I)J"⟩, 36) := ⟨⟨by decide +kernel, by decide +kernel⟩, List.mem_of_getElem? (i := 788) (by decide +kernel), List.mem_of_getElem? (i := 1131) (by decide +kernel), List.mem_of_getElem? (i := 1132) (by decide +kernel)⟩
theorem lw_p51 : lw_okq (⟨"OneTriangleModel", "primeOf", "(I)I"⟩, 36) := ⟨⟨by decide +kernel, by decide +kernel⟩, List.mem_of_getElem? (i := 788) (by decide +kernel), List.mem_of_getElem? (i := 1139) (by decide +kernel), List.mem_of_getElem? (i := 1140) (by decide +kernel)⟩
theorem lw_p52 : lw_okq (⟨"OneTriangleModel", "worthOf", "(I)I"⟩, 36) := ⟨⟨by decide +kernel, by decide +kernel⟩, List.mem_of_getElem? (i := 788) (by decide +kernel), List.mem_of_getElem? (i := 1155) (by decide +kernel), List.mem_of_getElem? (i := 1156) (by decide +kernel)⟩
theorem lw_p53 : lw_okq (⟨"OneTriangleModel", "looksBy", "(I)I"⟩, 36) := ⟨⟨by decide +kernel, by decide +kernel⟩, List.mem_of_getElem? (i := 788) (by decide +kernel), List.mem_of_getElem? (i := 1159) (by decide +kernel), List.mem_of_getElem? (i := 1160) (by decide +kernel)⟩
theorem lw_p54 : lw_okq (⟨"OneTriangleModel", "lookOf", "(I)I"⟩, 36) := ⟨⟨by decide +kernel, by decide +kernel⟩, List.mem_of_getElem? (i := 788) (by decide +kernel), List.mem_of_getElem? (i := 1167) (by decide +kernel), List.mem_of_getElem? (i := 1168) (by decide +kernel)⟩
theorem lw_p55 : lw_okq (⟨"OneTriangleModel", "wrongOf", "(I)I"⟩, 36) := ⟨⟨by decide +kernel, by decide +kernel⟩, List.mem_of_getElem? (i := 788) (by decide +kernel), List.mem_of_getElem? (i := 1183) (by decide +kernel), List.mem_of_getElem? (i := 1184) (by decide +kernel)⟩
theorem lw_p56 : lw_okq (⟨"OneTriangleModel", "blameNow", "()I"⟩, 36) := ⟨⟨by decide +kernel, by decide +kernel⟩, List.mem_of_getElem? (i := 788) (by decide +kernel), List.mem_of_getElem? (i := 1191) (by decide +kernel), List.mem_of_getElem? (i := 1192) (by decide +kernel)⟩
theorem lw_p57 : lw_okq (⟨"OneTriangleModel", "nightOf", "(II)I"⟩, 36) := ⟨⟨by decide +kernel, by decide +kernel⟩, List.mem_of_getElem? (i := 788) (by decide +kernel), List.mem_of_getElem? (i := 1199) (by decide +kernel), List.mem_of_getElem? (i := 1200) (by decide +kernel)⟩
theorem lw_p58 : lw_okq (⟨"OneTriangleModel", "lacks", "(III)I"⟩, 36) := ⟨⟨by decide +kernel, by decide +kernel⟩, List.mem_of_getElem? (i := 788) (by decide +kernel), List.mem_of_getElem? (i := 1216) (by decide +kernel), List.mem_of_getElem? (i := 1217) (by decide +kernel)⟩
theorem lw_p59 : lw_okq (⟨"OneTriangleModel", "keep", "(III)V"⟩, 36) := ⟨⟨by decide +kernel, by decide +kernel⟩, List.mem_of_getElem? (i := 788) (by decide +kernel), List.mem_of_getElem? (i := 1220) (by decide +kernel), List.mem_of_getElem? (i := 1221) (by decide +kernel)⟩
theorem lw_p60 : lw_okq (⟨"OneTriangleModel", "readsMany", "(I)I"⟩, 36) := ⟨⟨by decide +kernel, by decide +kernel⟩, List.mem_of_getElem? (i := 788) (by decide +kernel), List.mem_of_getElem? (i := 1241) (by decide +kernel), List.mem_of_getElem? (i := 1242) (by decide +kernel)⟩
theorem lw_p61 : lw_okq (⟨"OneTriangleModel", "numberDigest", "(JI)J"⟩, 36) := ⟨⟨by decide +kernel, by decide +kernel⟩, List.mem_of_getElem? (i := 788) (by decide +kernel), List.mem_of_getElem? (i := 1252) (by decide +kernel), List.mem_of_getElem? (i := 1253) (by decide +kernel)⟩
def lw_privs_4 : List (MethodName × Nat) := [(⟨"OneTriangleModel", "anewOf", "(I)I"⟩, 36), (⟨"OneTriangleModel", "eveningOf", "(II)J"⟩, 36), (⟨"OneTriangleModel", "eveningBy", "(I)J"⟩, 36), (⟨"OneTriangleModel", "primeOf", "(I)I"⟩, 36), (⟨"OneTriangleModel", "worthOf", "(I)I"⟩, 36), (⟨"OneTriangleModel", "looksBy", "(I)I"⟩, 36), (⟨"OneTriangleModel", "lookOf", "(I)I"⟩, 36), (⟨"OneTriangleModel", "wrongOf", "(I)I"⟩, 36), (⟨"OneTriangleModel", "blameNow", "()I"⟩, 36), (⟨"OneTriangleModel", "nightOf", "(II)I"⟩, 36), (⟨"OneTriangleModel", "lacks", "(III)I"⟩, 36), (⟨"OneTriangleModel", "keep", "(III)V"⟩, 36), (⟨"OneTriangleModel", "readsMany", "(I)I"⟩, 36), (⟨"OneTriangleModel", "numberDigest", "(JI)J"⟩, 36)]
theorem lw_r4 : ∀ q ∈ lw_privs_4, lw_okq q := List.forall_mem_cons.mpr ⟨lw_p48, List.forall_mem_cons.mpr ⟨lw_p49, List.forall_mem_cons.mpr ⟨lw_p50, List.forall_mem_cons.mpr ⟨lw_p51, List.forall_mem_cons.mpr ⟨lw_p52, List.forall_mem_cons.mpr ⟨lw_p53, List.forall_mem_cons.mpr ⟨lw_p54, List.forall_mem_cons.mpr ⟨lw_p55, List.forall_mem_cons.mpr ⟨lw_p56, List.forall_mem_cons.mpr ⟨lw_p57, List.forall_mem_cons.mpr ⟨lw_p58, List.forall_mem_cons.mpr ⟨lw_p59, List.forall_mem_cons.mpr ⟨lw_p60, List.forall_mem_cons.mpr ⟨lw_p61, fun _ h => absurd h List.not_mem_nil⟩⟩⟩⟩⟩⟩⟩⟩⟩⟩⟩⟩⟩⟩
def lw_privs : List (MethodName × Nat) := lw_privs_1 ++ (lw_privs_2 ++ (lw_privs_3 ++ (lw_privs_4)))
def lw_tbl : List Cond := k2_sels lw_privs ++ tables_1
theorem lw_privs_ok : ∀ q ∈ lw_privs, lw_okq q := by
  show ∀ q ∈ lw_privs_1 ++ (lw_privs_2 ++ (lw_privs_3 ++ (lw_privs_4))), lw_okq q
  exact List.forall_mem_append.mpr ⟨lw_r1, List.forall_mem_append.mpr ⟨lw_r2, List.forall_mem_append.mpr ⟨lw_r3, lw_r4⟩⟩⟩
def RX0 : String := "OneTriangle$Diary"
def TX0 : u_T := fun k => match k with
  | 0 => ("OneTriangle$Diary", "numbers", "[I", true)
  | 1 => ("OneTriangle$Diary", "size", "I", false)
  | _ => ("OneTriangle$Diary", "firstBar", "I", false)
def tyX0 : Nat → FieldType := fun k => match k with
  | 0 => .array .int
  | 1 => .int
  | _ => .int
theorem nmX0 : ∀ a, a < 3 → ∀ b, b < 3 → a ≠ b → (TX0 a).2.1 ≠ (TX0 b).2.1 := by decide +kernel
theorem tyX0_ok : ∀ k, k < 3 → parseFieldDescriptor (TX0 k).2.2.1 = some (tyX0 k) := by decide +kernel
abbrev cX0_init : ByteArray := prog_2_method_1_code
def yX0_init : MethodName := ⟨RX0, "<init>", "()V"⟩
abbrev cX0_clear : ByteArray := prog_2_method_2_code
def yX0_clear : MethodName := ⟨RX0, "clear", "()V"⟩
abbrev cX0_append : ByteArray := prog_2_method_3_code
def yX0_append : MethodName := ⟨RX0, "append", "(I)Z"⟩
abbrev cX0_firstWrong : ByteArray := prog_2_method_4_code
def yX0_firstWrong : MethodName := ⟨RX0, "firstWrong", "()I"⟩
abbrev cX0_allWrong : ByteArray := prog_2_method_5_code
def yX0_allWrong : MethodName := ⟨RX0, "allWrong", "()I"⟩
abbrev cX0_isWrong : ByteArray := prog_2_method_6_code
def yX0_isWrong : MethodName := ⟨RX0, "isWrong", "(I)Z"⟩
def RX1 : String := "OneTriangle$Lots"
def TX1 : u_T := fun k => match k with
  | _ => ("OneTriangle$Lots", "seed", "I", false)
def tyX1 : Nat → FieldType := fun k => match k with
  | _ => .int
theorem nmX1 : ∀ a, a < 1 → ∀ b, b < 1 → a ≠ b → (TX1 a).2.1 ≠ (TX1 b).2.1 := by decide +kernel
theorem tyX1_ok : ∀ k, k < 1 → parseFieldDescriptor (TX1 k).2.2.1 = some (tyX1 k) := by decide +kernel
abbrev cX1_init : ByteArray := prog_3_method_1_code
def yX1_init : MethodName := ⟨RX1, "<init>", "()V"⟩
abbrev cX1_draw : ByteArray := prog_3_method_2_code
def yX1_draw : MethodName := ⟨RX1, "draw", "()I"⟩
def RX2 : String := "OneTriangle$Notes"
def TX2 : u_T := fun k => match k with
  | 0 => ("OneTriangle$Notes", "numbers", "[I", true)
  | 1 => ("OneTriangle$Notes", "tunes", "[I", true)
  | 2 => ("OneTriangle$Notes", "shownBars", "[I", true)
  | _ => ("OneTriangle$Notes", "size", "I", false)
def tyX2 : Nat → FieldType := fun k => match k with
  | 0 => .array .int
  | 1 => .array .int
  | 2 => .array .int
  | _ => .int
theorem nmX2 : ∀ a, a < 4 → ∀ b, b < 4 → a ≠ b → (TX2 a).2.1 ≠ (TX2 b).2.1 := by decide +kernel
theorem tyX2_ok : ∀ k, k < 4 → parseFieldDescriptor (TX2 k).2.2.1 = some (tyX2 k) := by decide +kernel
abbrev cX2_init : ByteArray := prog_4_method_1_code
def yX2_init : MethodName := ⟨RX2, "<init>", "()V"⟩
abbrev cX2_append : ByteArray := prog_4_method_2_code
def yX2_append : MethodName := ⟨RX2, "append", "(III)Z"⟩
abbrev cX2_weigh : ByteArray := prog_4_method_3_code
def yX2_weigh : MethodName := ⟨RX2, "weigh", "(IIILOneTriangle$Settings;)J"⟩
def RX3 : String := "OneTriangle$Odds"
def TX3 : u_T := fun k => match k with
  | 0 => ("OneTriangle$Odds", "missed", "[I", true)
  | _ => ("OneTriangle$Odds", "doubled", "[I", true)
def tyX3 : Nat → FieldType := fun k => match k with
  | 0 => .array .int
  | _ => .array .int
theorem nmX3 : ∀ a, a < 2 → ∀ b, b < 2 → a ≠ b → (TX3 a).2.1 ≠ (TX3 b).2.1 := by decide +kernel
theorem tyX3_ok : ∀ k, k < 2 → parseFieldDescriptor (TX3 k).2.2.1 = some (tyX3 k) := by decide +kernel
abbrev cX3_init : ByteArray := prog_5_method_1_code
def yX3_init : MethodName := ⟨RX3, "<init>", "()V"⟩
abbrev cX3_missedOf : ByteArray := prog_5_method_2_code
def yX3_missedOf : MethodName := ⟨RX3, "missedOf", "(I)I"⟩
abbrev cX3_doubledOf : ByteArray := prog_5_method_3_code
def yX3_doubledOf : MethodName := ⟨RX3, "doubledOf", "(I)I"⟩
abbrev cX3_become : ByteArray := prog_5_method_4_code
def yX3_become : MethodName := ⟨RX3, "become", "(III)V"⟩
def RX4 : String := "OneTriangle$Piece"
def TX4 : u_T := fun k => match k with
  | 0 => ("OneTriangle$Piece", "bytes", "[I", true)
  | 1 => ("OneTriangle$Piece", "kinds", "[I", true)
  | 2 => ("OneTriangle$Piece", "cueByBar", "[I", true)
  | 3 => ("OneTriangle$Piece", "tunes", "[I", true)
  | 4 => ("OneTriangle$Piece", "barByCue", "[I", true)
  | 5 => ("OneTriangle$Piece", "size", "I", false)
  | 6 => ("OneTriangle$Piece", "bars", "I", false)
  | 7 => ("OneTriangle$Piece", "loose", "I", false)
  | 8 => ("OneTriangle$Piece", "cues", "I", false)
  | _ => ("OneTriangle$Piece", "faultPlace", "I", false)
def tyX4 : Nat → FieldType := fun k => match k with
  | 0 => .array .int
  | 1 => .array .int
  | 2 => .array .int
  | 3 => .array .int
  | 4 => .array .int
  | 5 => .int
  | 6 => .int
  | 7 => .int
  | 8 => .int
  | _ => .int
theorem nmX4 : ∀ a, a < 10 → ∀ b, b < 10 → a ≠ b → (TX4 a).2.1 ≠ (TX4 b).2.1 := by decide +kernel
theorem tyX4_ok : ∀ k, k < 10 → parseFieldDescriptor (TX4 k).2.2.1 = some (tyX4 k) := by decide +kernel
abbrev cX4_init : ByteArray := prog_6_method_1_code
def yX4_init : MethodName := ⟨RX4, "<init>", "()V"⟩
abbrev cX4_append : ByteArray := prog_6_method_2_code
def yX4_append : MethodName := ⟨RX4, "append", "(I)Z"⟩
abbrev cX4_shorten : ByteArray := prog_6_method_3_code
def yX4_shorten : MethodName := ⟨RX4, "shorten", "(I)V"⟩
abbrev cX4_hasBar : ByteArray := prog_6_method_4_code
def yX4_hasBar : MethodName := ⟨RX4, "hasBar", "(I)Z"⟩
abbrev cX4_isLoose : ByteArray := prog_6_method_5_code
def yX4_isLoose : MethodName := ⟨RX4, "isLoose", "(I)Z"⟩
abbrev cX4_kindOf : ByteArray := prog_6_method_6_code
def yX4_kindOf : MethodName := ⟨RX4, "kindOf", "(I)I"⟩
abbrev cX4_cueIn : ByteArray := prog_6_method_7_code
def yX4_cueIn : MethodName := ⟨RX4, "cueIn", "(I)I"⟩
abbrev cX4_tuneOf : ByteArray := prog_6_method_8_code
def yX4_tuneOf : MethodName := ⟨RX4, "tuneOf", "(I)I"⟩
abbrev cX4_barOf : ByteArray := prog_6_method_9_code
def yX4_barOf : MethodName := ⟨RX4, "barOf", "(I)I"⟩
abbrev cX4_understand : ByteArray := prog_6_method_10_code
def yX4_understand : MethodName := ⟨RX4, "understand", "()V"⟩
abbrev cX4_byteAt : ByteArray := prog_6_method_11_code
def yX4_byteAt : MethodName := ⟨RX4, "byteAt", "(I)I"⟩
abbrev cX4_passed : ByteArray := prog_6_method_12_code
def yX4_passed : MethodName := ⟨RX4, "passed", "(I)I"⟩
abbrev cX4_passedPlain : ByteArray := prog_6_method_13_code
def yX4_passedPlain : MethodName := ⟨RX4, "passedPlain", "(I)I"⟩
abbrev cX4_passedLoose : ByteArray := prog_6_method_14_code
def yX4_passedLoose : MethodName := ⟨RX4, "passedLoose", "(II)I"⟩
abbrev cX4_passedCue : ByteArray := prog_6_method_15_code
def yX4_passedCue : MethodName := ⟨RX4, "passedCue", "(I)I"⟩
abbrev cX4_addBars : ByteArray := prog_6_method_16_code
def yX4_addBars : MethodName := ⟨RX4, "addBars", "(II)Z"⟩
abbrev cX4_faultAt : ByteArray := prog_6_method_17_code
def yX4_faultAt : MethodName := ⟨RX4, "faultAt", "(I)I"⟩
def RX5 : String := "OneTriangle$Players"
def TX5 : u_T := fun k => match k with
  | 0 => ("OneTriangle$Players", "bars", "[I", true)
  | 1 => ("OneTriangle$Players", "worths", "[I", true)
  | 2 => ("OneTriangle$Players", "order", "[I", true)
  | 3 => ("OneTriangle$Players", "looks", "[I", true)
  | _ => ("OneTriangle$Players", "size", "I", false)
def tyX5 : Nat → FieldType := fun k => match k with
  | 0 => .array .int
  | 1 => .array .int
  | 2 => .array .int
  | 3 => .array .int
  | _ => .int
theorem nmX5 : ∀ a, a < 5 → ∀ b, b < 5 → a ≠ b → (TX5 a).2.1 ≠ (TX5 b).2.1 := by decide +kernel
theorem tyX5_ok : ∀ k, k < 5 → parseFieldDescriptor (TX5 k).2.2.1 = some (tyX5 k) := by decide +kernel
abbrev cX5_init : ByteArray := prog_7_method_1_code
def yX5_init : MethodName := ⟨RX5, "<init>", "()V"⟩
abbrev cX5_append : ByteArray := prog_7_method_2_code
def yX5_append : MethodName := ⟨RX5, "append", "(II)Z"⟩
abbrev cX5_bestBits : ByteArray := prog_7_method_3_code
def yX5_bestBits : MethodName := ⟨RX5, "bestBits", "()I"⟩
abbrev cX5_plan : ByteArray := prog_7_method_4_code
def yX5_plan : MethodName := ⟨RX5, "plan", "(I)I"⟩
abbrev cX5_lookedAtIn : ByteArray := prog_7_method_5_code
def yX5_lookedAtIn : MethodName := ⟨RX5, "lookedAtIn", "(I)I"⟩
def RX6 : String := "OneTriangle$Settings"
def TX6 : u_T := fun k => match k with
  | _ => ("OneTriangle$Settings", "values", "[I", true)
def tyX6 : Nat → FieldType := fun k => match k with
  | _ => .array .int
theorem nmX6 : ∀ a, a < 1 → ∀ b, b < 1 → a ≠ b → (TX6 a).2.1 ≠ (TX6 b).2.1 := by decide +kernel
theorem tyX6_ok : ∀ k, k < 1 → parseFieldDescriptor (TX6 k).2.2.1 = some (tyX6 k) := by decide +kernel
abbrev cX6_init : ByteArray := prog_8_method_1_code
def yX6_init : MethodName := ⟨RX6, "<init>", "()V"⟩
abbrev cX6_most : ByteArray := prog_8_method_2_code
def yX6_most : MethodName := ⟨RX6, "most", "(I)I"⟩
abbrev cX6_valueOf : ByteArray := prog_8_method_3_code
def yX6_valueOf : MethodName := ⟨RX6, "valueOf", "(I)I"⟩
abbrev cX6_become : ByteArray := prog_8_method_4_code
def yX6_become : MethodName := ⟨RX6, "become", "(II)V"⟩
def RX7 : String := "OneTriangle$Sheet"
def TX7 : u_T := fun k => match k with
  | 0 => ("OneTriangle$Sheet", "items", "[I", true)
  | 1 => ("OneTriangle$Sheet", "lost", "Z", false)
  | 2 => ("OneTriangle$Sheet", "form", "I", false)
  | _ => ("OneTriangle$Sheet", "size", "I", false)
def tyX7 : Nat → FieldType := fun k => match k with
  | 0 => .array .int
  | 1 => .boolean
  | 2 => .int
  | _ => .int
theorem nmX7 : ∀ a, a < 4 → ∀ b, b < 4 → a ≠ b → (TX7 a).2.1 ≠ (TX7 b).2.1 := by decide +kernel
theorem tyX7_ok : ∀ k, k < 4 → parseFieldDescriptor (TX7 k).2.2.1 = some (tyX7 k) := by decide +kernel
abbrev cX7_init : ByteArray := prog_9_method_1_code
def yX7_init : MethodName := ⟨RX7, "<init>", "()V"⟩
abbrev cX7_renew : ByteArray := prog_9_method_2_code
def yX7_renew : MethodName := ⟨RX7, "renew", "(II)V"⟩
abbrev cX7_findingAt : ByteArray := prog_9_method_3_code
def yX7_findingAt : MethodName := ⟨RX7, "findingAt", "(II)I"⟩
abbrev cX7_hasItems : ByteArray := prog_9_method_4_code
def yX7_hasItems : MethodName := ⟨RX7, "hasItems", "(II)Z"⟩
abbrev cX7_itemOf : ByteArray := prog_9_method_5_code
def yX7_itemOf : MethodName := ⟨RX7, "itemOf", "(I)I"⟩
abbrev cX7_become : ByteArray := prog_9_method_6_code
def yX7_become : MethodName := ⟨RX7, "become", "(II)V"⟩
def RX8 : String := "OneTriangle$Spread"
def TX8 : u_T := fun k => match k with
  | 0 => ("OneTriangle$Spread", "piece", "LOneTriangle$Piece;", true)
  | 1 => ("OneTriangle$Spread", "now", "[J", true)
  | _ => ("OneTriangle$Spread", "next", "[J", true)
def tyX8 : Nat → FieldType := fun k => match k with
  | 0 => .object "OneTriangle$Piece"
  | 1 => .array .long
  | _ => .array .long
theorem nmX8 : ∀ a, a < 3 → ∀ b, b < 3 → a ≠ b → (TX8 a).2.1 ≠ (TX8 b).2.1 := by decide +kernel
theorem tyX8_ok : ∀ k, k < 3 → parseFieldDescriptor (TX8 k).2.2.1 = some (tyX8 k) := by decide +kernel
abbrev cX8_init : ByteArray := prog_10_method_1_code
def yX8_init : MethodName := ⟨RX8, "<init>", "(LOneTriangle$Piece;)V"⟩
abbrev cX8_chanceOf : ByteArray := prog_10_method_2_code
def yX8_chanceOf : MethodName := ⟨RX8, "chanceOf", "(I)J"⟩
abbrev cX8_walk : ByteArray := prog_10_method_3_code
def yX8_walk : MethodName := ⟨RX8, "walk", "(LOneTriangle$Odds;III)V"⟩
abbrev cX8_drift : ByteArray := prog_10_method_4_code
def yX8_drift : MethodName := ⟨RX8, "drift", "(III)V"⟩
abbrev cX8_gather : ByteArray := prog_10_method_5_code
def yX8_gather : MethodName := ⟨RX8, "gather", "(I)V"⟩
def RX9 : String := "OneTriangle$Ways"
def TX9 : u_T := fun k => match k with
  | 0 => ("OneTriangle$Ways", "piece", "LOneTriangle$Piece;", true)
  | 1 => ("OneTriangle$Ways", "odds", "LOneTriangle$Odds;", true)
  | 2 => ("OneTriangle$Ways", "notes", "LOneTriangle$Notes;", true)
  | 3 => ("OneTriangle$Ways", "settings", "LOneTriangle$Settings;", true)
  | 4 => ("OneTriangle$Ways", "said", "[J", true)
  | 5 => ("OneTriangle$Ways", "all", "[J", true)
  | 6 => ("OneTriangle$Ways", "now", "[J", true)
  | _ => ("OneTriangle$Ways", "next", "[J", true)
def tyX9 : Nat → FieldType := fun k => match k with
  | 0 => .object "OneTriangle$Piece"
  | 1 => .object "OneTriangle$Odds"
  | 2 => .object "OneTriangle$Notes"
  | 3 => .object "OneTriangle$Settings"
  | 4 => .array .long
  | 5 => .array .long
  | 6 => .array .long
  | _ => .array .long
theorem nmX9 : ∀ a, a < 8 → ∀ b, b < 8 → a ≠ b → (TX9 a).2.1 ≠ (TX9 b).2.1 := by decide +kernel
theorem tyX9_ok : ∀ k, k < 8 → parseFieldDescriptor (TX9 k).2.2.1 = some (tyX9 k) := by decide +kernel
abbrev cX9_init : ByteArray := prog_11_method_1_code
def yX9_init : MethodName := ⟨RX9, "<init>", "(LOneTriangle$Piece;LOneTriangle$Odds;LOneTriangle$Notes;LOneTriangle$Settings;)V"⟩
abbrev cX9_ofAll : ByteArray := prog_11_method_2_code
def yX9_ofAll : MethodName := ⟨RX9, "ofAll", "(I)J"⟩
abbrev cX9_saidIn : ByteArray := prog_11_method_3_code
def yX9_saidIn : MethodName := ⟨RX9, "saidIn", "(II)J"⟩
abbrev cX9_find : ByteArray := prog_11_method_4_code
def yX9_find : MethodName := ⟨RX9, "find", "()V"⟩
abbrev cX9_pass : ByteArray := prog_11_method_5_code
def yX9_pass : MethodName := ⟨RX9, "pass", "(II)V"⟩
abbrev cX9_addSaid : ByteArray := prog_11_method_6_code
def yX9_addSaid : MethodName := ⟨RX9, "addSaid", "(IIJ)V"⟩
def RX10 : String := "OneTriangle"
def TX10 : u_T := fun k => match k with
  | 0 => ("OneTriangle", "piece", "LOneTriangle$Piece;", true)
  | 1 => ("OneTriangle", "settings", "LOneTriangle$Settings;", true)
  | 2 => ("OneTriangle", "usual", "LOneTriangle$Odds;", true)
  | 3 => ("OneTriangle", "later", "LOneTriangle$Odds;", true)
  | 4 => ("OneTriangle", "notes", "LOneTriangle$Notes;", true)
  | 5 => ("OneTriangle", "ways", "LOneTriangle$Ways;", true)
  | 6 => ("OneTriangle", "spread", "LOneTriangle$Spread;", true)
  | 7 => ("OneTriangle", "players", "LOneTriangle$Players;", true)
  | 8 => ("OneTriangle", "diary", "LOneTriangle$Diary;", true)
  | 9 => ("OneTriangle", "lots", "LOneTriangle$Lots;", true)
  | 10 => ("OneTriangle", "sheets", "[LOneTriangle$Sheet;", true)
  | 11 => ("OneTriangle", "waysAreOld", "Z", false)
  | _ => ("OneTriangle", "latestFinding", "I", false)
def tyX10 : Nat → FieldType := fun k => match k with
  | 0 => .object "OneTriangle$Piece"
  | 1 => .object "OneTriangle$Settings"
  | 2 => .object "OneTriangle$Odds"
  | 3 => .object "OneTriangle$Odds"
  | 4 => .object "OneTriangle$Notes"
  | 5 => .object "OneTriangle$Ways"
  | 6 => .object "OneTriangle$Spread"
  | 7 => .object "OneTriangle$Players"
  | 8 => .object "OneTriangle$Diary"
  | 9 => .object "OneTriangle$Lots"
  | 10 => .array (.object "OneTriangle$Sheet")
  | 11 => .boolean
  | _ => .int
theorem nmX10 : ∀ a, a < 13 → ∀ b, b < 13 → a ≠ b → (TX10 a).2.1 ≠ (TX10 b).2.1 := by decide +kernel
theorem tyX10_ok : ∀ k, k < 13 → parseFieldDescriptor (TX10 k).2.2.1 = some (tyX10 k) := by decide +kernel
abbrev cX10_init : ByteArray := prog_1_method_1_code
def yX10_init : MethodName := ⟨RX10, "<init>", "()V"⟩
abbrev cX10_type : ByteArray := prog_1_method_2_code
def yX10_type : MethodName := ⟨RX10, "type", "(I)I"⟩
abbrev cX10_wipe : ByteArray := prog_1_method_3_code
def yX10_wipe : MethodName := ⟨RX10, "wipe", "()I"⟩
abbrev cX10_undo : ByteArray := prog_1_method_4_code
def yX10_undo : MethodName := ⟨RX10, "undo", "()I"⟩
abbrev cX10_fault : ByteArray := prog_1_method_5_code
def yX10_fault : MethodName := ⟨RX10, "fault", "()I"⟩
abbrev cX10_bar : ByteArray := prog_1_method_6_code
def yX10_bar : MethodName := ⟨RX10, "bar", "(II)I"⟩
abbrev cX10_odds : ByteArray := prog_1_method_7_code
def yX10_odds : MethodName := ⟨RX10, "odds", "(III)I"⟩
abbrev cX10_set : ByteArray := prog_1_method_8_code
def yX10_set : MethodName := ⟨RX10, "set", "(II)I"⟩
abbrev cX10_read : ByteArray := prog_1_method_9_code
def yX10_read : MethodName := ⟨RX10, "read", "(I)I"⟩
abbrev cX10_hear : ByteArray := prog_1_method_10_code
def yX10_hear : MethodName := ⟨RX10, "hear", "(II)I"⟩
abbrev cX10_shown : ByteArray := prog_1_method_11_code
def yX10_shown : MethodName := ⟨RX10, "shown", "(II)I"⟩
abbrev cX10_forget : ByteArray := prog_1_method_12_code
def yX10_forget : MethodName := ⟨RX10, "forget", "()I"⟩
abbrev cX10_where : ByteArray := prog_1_method_13_code
def yX10_where : MethodName := ⟨RX10, "where", "(III)J"⟩
abbrev cX10_likeliest : ByteArray := prog_1_method_14_code
def yX10_likeliest : MethodName := ⟨RX10, "likeliest", "(I)I"⟩
abbrev cX10_strike : ByteArray := prog_1_method_15_code
def yX10_strike : MethodName := ⟨RX10, "strike", "(II)J"⟩
abbrev cX10_line : ByteArray := prog_1_method_16_code
def yX10_line : MethodName := ⟨RX10, "line", "()I"⟩
abbrev cX10_slips : ByteArray := prog_1_method_17_code
def yX10_slips : MethodName := ⟨RX10, "slips", "(III)J"⟩
abbrev cX10_safe : ByteArray := prog_1_method_18_code
def yX10_safe : MethodName := ⟨RX10, "safe", "(II)J"⟩
abbrev cX10_write : ByteArray := prog_1_method_19_code
def yX10_write : MethodName := ⟨RX10, "write", "(I)I"⟩
abbrev cX10_few : ByteArray := prog_1_method_20_code
def yX10_few : MethodName := ⟨RX10, "few", "(I)I"⟩
abbrev cX10_anew : ByteArray := prog_1_method_21_code
def yX10_anew : MethodName := ⟨RX10, "anew", "(I)I"⟩
abbrev cX10_joint : ByteArray := prog_1_method_22_code
def yX10_joint : MethodName := ⟨RX10, "joint", "(III)J"⟩
abbrev cX10_evening : ByteArray := prog_1_method_23_code
def yX10_evening : MethodName := ⟨RX10, "evening", "(II)J"⟩
abbrev cX10_prime : ByteArray := prog_1_method_24_code
def yX10_prime : MethodName := ⟨RX10, "prime", "(I)I"⟩
abbrev cX10_player : ByteArray := prog_1_method_25_code
def yX10_player : MethodName := ⟨RX10, "player", "(II)I"⟩
abbrev cX10_leave : ByteArray := prog_1_method_26_code
def yX10_leave : MethodName := ⟨RX10, "leave", "()I"⟩
abbrev cX10_worth : ByteArray := prog_1_method_27_code
def yX10_worth : MethodName := ⟨RX10, "worth", "(I)I"⟩
abbrev cX10_look : ByteArray := prog_1_method_28_code
def yX10_look : MethodName := ⟨RX10, "look", "(I)I"⟩
abbrev cX10_from : ByteArray := prog_1_method_29_code
def yX10_from : MethodName := ⟨RX10, "from", "(I)I"⟩
abbrev cX10_said : ByteArray := prog_1_method_30_code
def yX10_said : MethodName := ⟨RX10, "said", "(I)I"⟩
abbrev cX10_wrong : ByteArray := prog_1_method_31_code
def yX10_wrong : MethodName := ⟨RX10, "wrong", "(I)I"⟩
abbrev cX10_blame : ByteArray := prog_1_method_32_code
def yX10_blame : MethodName := ⟨RX10, "blame", "()I"⟩
abbrev cX10_night : ByteArray := prog_1_method_33_code
def yX10_night : MethodName := ⟨RX10, "night", "(II)I"⟩
abbrev cX10_sheet : ByteArray := prog_1_method_34_code
def yX10_sheet : MethodName := ⟨RX10, "sheet", "(III)I"⟩
abbrev cX10_lose : ByteArray := prog_1_method_35_code
def yX10_lose : MethodName := ⟨RX10, "lose", "(I)I"⟩
abbrev cX10_put : ByteArray := prog_1_method_36_code
def yX10_put : MethodName := ⟨RX10, "put", "(IIII)I"⟩
abbrev cX10_get : ByteArray := prog_1_method_37_code
def yX10_get : MethodName := ⟨RX10, "get", "(III)I"⟩
abbrev cX10_copy : ByteArray := prog_1_method_38_code
def yX10_copy : MethodName := ⟨RX10, "copy", "(IIIII)I"⟩
abbrev cX10_tell : ByteArray := prog_1_method_39_code
def yX10_tell : MethodName := ⟨RX10, "tell", "(I)I"⟩
abbrev cX10_count : ByteArray := prog_1_method_40_code
def yX10_count : MethodName := ⟨RX10, "count", "(I)I"⟩
abbrev cX10_digest : ByteArray := prog_1_method_41_code
def yX10_digest : MethodName := ⟨RX10, "digest", "()J"⟩
abbrev cX10_within : ByteArray := prog_1_method_42_code
def yX10_within : MethodName := ⟨RX10, "within", "(III)Z"⟩
abbrev cX10_isNumber : ByteArray := prog_1_method_43_code
def yX10_isNumber : MethodName := ⟨RX10, "isNumber", "(I)Z"⟩
abbrev cX10_isPart : ByteArray := prog_1_method_44_code
def yX10_isPart : MethodName := ⟨RX10, "isPart", "(I)Z"⟩
abbrev cX10_refusal : ByteArray := prog_1_method_45_code
def yX10_refusal : MethodName := ⟨RX10, "refusal", "(I)J"⟩
abbrev cX10_found : ByteArray := prog_1_method_46_code
def yX10_found : MethodName := ⟨RX10, "found", "(I)I"⟩
abbrev cX10_sheetAt : ByteArray := prog_1_method_47_code
def yX10_sheetAt : MethodName := ⟨RX10, "sheetAt", "(I)LOneTriangle$Sheet;"⟩
abbrev cX10_addNote : ByteArray := prog_1_method_48_code
def yX10_addNote : MethodName := ⟨RX10, "addNote", "(III)I"⟩
abbrev cX10_refreshWays : ByteArray := prog_1_method_49_code
def yX10_refreshWays : MethodName := ⟨RX10, "refreshWays", "()V"⟩
abbrev cX10_costAbove : ByteArray := prog_1_method_50_code
def yX10_costAbove : MethodName := ⟨RX10, "costAbove", "(I)J"⟩
abbrev cX10_safety : ByteArray := prog_1_method_51_code
def yX10_safety : MethodName := ⟨RX10, "safety", "(I)J"⟩
abbrev cX10_comeTo : ByteArray := prog_1_method_52_code
def yX10_comeTo : MethodName := ⟨RX10, "comeTo", "(I)Z"⟩
abbrev cX10_trueLater : ByteArray := prog_1_method_53_code
def yX10_trueLater : MethodName := ⟨RX10, "trueLater", "()J"⟩
abbrev cX10_slipOfNight : ByteArray := prog_1_method_54_code
def yX10_slipOfNight : MethodName := ⟨RX10, "slipOfNight", "()I"⟩
abbrev cX10_mixed : ByteArray := prog_1_method_55_code
def yX10_mixed : MethodName := ⟨RX10, "mixed", "(JJ)J"⟩
abbrev cX10_told : ByteArray := prog_1_method_56_code
def yX10_told : MethodName := ⟨RX10, "told", "(JJI)J"⟩
abbrev cX10_greatestCommon : ByteArray := prog_1_method_57_code
def yX10_greatestCommon : MethodName := ⟨RX10, "greatestCommon", "(JJ)J"⟩
abbrev cX10_isLess : ByteArray := prog_1_method_58_code
def yX10_isLess : MethodName := ⟨RX10, "isLess", "(JJJJ)Z"⟩
abbrev cX10_itemAt : ByteArray := prog_1_method_59_code
def yX10_itemAt : MethodName := ⟨RX10, "itemAt", "([II)I"⟩
abbrev cX10_longAt : ByteArray := prog_1_method_60_code
def yX10_longAt : MethodName := ⟨RX10, "longAt", "([JI)J"⟩
abbrev cX10_addTo : ByteArray := prog_1_method_61_code
def yX10_addTo : MethodName := ⟨RX10, "addTo", "([JIJ)V"⟩
def RX11 : String := "OneTriangleModel"
def TX11 : u_T := fun k => match k with
  | 0 => ("OneTriangleModel", "text", "[I", true)
  | 1 => ("OneTriangleModel", "typed", "I", false)
  | 2 => ("OneTriangleModel", "bars", "I", false)
  | 3 => ("OneTriangleModel", "kinds", "[I", true)
  | 4 => ("OneTriangleModel", "tunes", "[I", true)
  | 5 => ("OneTriangleModel", "cueOf", "[I", true)
  | 6 => ("OneTriangleModel", "loose", "I", false)
  | 7 => ("OneTriangleModel", "cues", "I", false)
  | 8 => ("OneTriangleModel", "cueBar", "[I", true)
  | 9 => ("OneTriangleModel", "missed", "[I", true)
  | 10 => ("OneTriangleModel", "doubled", "[I", true)
  | 11 => ("OneTriangleModel", "settings", "[I", true)
  | 12 => ("OneTriangleModel", "records", "I", false)
  | 13 => ("OneTriangleModel", "record", "[I", true)
  | 14 => ("OneTriangleModel", "recordFrom", "I", false)
  | 15 => ("OneTriangleModel", "notes", "I", false)
  | 16 => ("OneTriangleModel", "noteNumber", "[I", true)
  | 17 => ("OneTriangleModel", "noteTune", "[I", true)
  | 18 => ("OneTriangleModel", "noteBar", "[I", true)
  | 19 => ("OneTriangleModel", "ways", "[J", true)
  | 20 => ("OneTriangleModel", "waysNext", "[J", true)
  | 21 => ("OneTriangleModel", "whereWeighs", "[J", true)
  | 22 => ("OneTriangleModel", "whereAll", "J", false)
  | 23 => ("OneTriangleModel", "slipWays", "[J", true)
  | 24 => ("OneTriangleModel", "slipNext", "[J", true)
  | 25 => ("OneTriangleModel", "slipAll", "J", false)
  | 26 => ("OneTriangleModel", "players", "I", false)
  | 27 => ("OneTriangleModel", "playerBar", "[I", true)
  | 28 => ("OneTriangleModel", "playerWorth", "[I", true)
  | 29 => ("OneTriangleModel", "looks", "[I", true)
  | 30 => ("OneTriangleModel", "isThere", "[Z", true)
  | 31 => ("OneTriangleModel", "forms", "[I", true)
  | 32 => ("OneTriangleModel", "sizes", "[I", true)
  | 33 => ("OneTriangleModel", "items", "[I", true)
  | 34 => ("OneTriangleModel", "moved", "[I", true)
  | _ => ("OneTriangleModel", "finding", "I", false)
def tyX11 : Nat → FieldType := fun k => match k with
  | 0 => .array .int
  | 1 => .int
  | 2 => .int
  | 3 => .array .int
  | 4 => .array .int
  | 5 => .array .int
  | 6 => .int
  | 7 => .int
  | 8 => .array .int
  | 9 => .array .int
  | 10 => .array .int
  | 11 => .array .int
  | 12 => .int
  | 13 => .array .int
  | 14 => .int
  | 15 => .int
  | 16 => .array .int
  | 17 => .array .int
  | 18 => .array .int
  | 19 => .array .long
  | 20 => .array .long
  | 21 => .array .long
  | 22 => .long
  | 23 => .array .long
  | 24 => .array .long
  | 25 => .long
  | 26 => .int
  | 27 => .array .int
  | 28 => .array .int
  | 29 => .array .int
  | 30 => .array .boolean
  | 31 => .array .int
  | 32 => .array .int
  | 33 => .array .int
  | 34 => .array .int
  | _ => .int
theorem nmX11 : ∀ a, a < 36 → ∀ b, b < 36 → a ≠ b → (TX11 a).2.1 ≠ (TX11 b).2.1 := by decide +kernel
theorem tyX11_ok : ∀ k, k < 36 → parseFieldDescriptor (TX11 k).2.2.1 = some (tyX11 k) := by decide +kernel
abbrev cX11_init : ByteArray := prog_13_method_1_code
def yX11_init : MethodName := ⟨RX11, "<init>", "()V"⟩
abbrev cX11_in : ByteArray := prog_13_method_3_code
def yX11_in : MethodName := ⟨RX11, "in", "(III)Z"⟩
abbrev cX11_isIn : ByteArray := prog_13_method_4_code
def yX11_isIn : MethodName := ⟨RX11, "isIn", "(II)Z"⟩
abbrev cX11_ones : ByteArray := prog_13_method_5_code
def yX11_ones : MethodName := ⟨RX11, "ones", "(I)I"⟩
abbrev cX11_no : ByteArray := prog_13_method_6_code
def yX11_no : MethodName := ⟨RX11, "no", "(I)J"⟩
abbrev cX11_lowest : ByteArray := prog_13_method_7_code
def yX11_lowest : MethodName := ⟨RX11, "lowest", "(JJI)J"⟩
abbrev cX11_type : ByteArray := prog_13_method_8_code
def yX11_type : MethodName := ⟨RX11, "type", "(I)I"⟩
abbrev cX11_wipe : ByteArray := prog_13_method_9_code
def yX11_wipe : MethodName := ⟨RX11, "wipe", "()I"⟩
abbrev cX11_undo : ByteArray := prog_13_method_10_code
def yX11_undo : MethodName := ⟨RX11, "undo", "()I"⟩
abbrev cX11_adds : ByteArray := prog_13_method_11_code
def yX11_adds : MethodName := ⟨RX11, "adds", "(II)V"⟩
abbrev cX11_figureAt : ByteArray := prog_13_method_12_code
def yX11_figureAt : MethodName := ⟨RX11, "figureAt", "(I)I"⟩
abbrev cX11_readsPiece : ByteArray := prog_13_method_13_code
def yX11_readsPiece : MethodName := ⟨RX11, "readsPiece", "()I"⟩
abbrev cX11_faultNow : ByteArray := prog_13_method_14_code
def yX11_faultNow : MethodName := ⟨RX11, "faultNow", "()I"⟩
abbrev cX11_fault : ByteArray := prog_13_method_15_code
def yX11_fault : MethodName := ⟨RX11, "fault", "()I"⟩
abbrev cX11_reads : ByteArray := prog_13_method_16_code
def yX11_reads : MethodName := ⟨RX11, "reads", "()V"⟩
abbrev cX11_isBar : ByteArray := prog_13_method_17_code
def yX11_isBar : MethodName := ⟨RX11, "isBar", "(I)Z"⟩
abbrev cX11_barOf : ByteArray := prog_13_method_18_code
def yX11_barOf : MethodName := ⟨RX11, "barOf", "(II)I"⟩
abbrev cX11_bar : ByteArray := prog_13_method_19_code
def yX11_bar : MethodName := ⟨RX11, "bar", "(II)I"⟩
abbrev cX11_odds : ByteArray := prog_13_method_20_code
def yX11_odds : MethodName := ⟨RX11, "odds", "(III)I"⟩
abbrev cX11_set : ByteArray := prog_13_method_21_code
def yX11_set : MethodName := ⟨RX11, "set", "(II)I"⟩
abbrev cX11_isNumber : ByteArray := prog_13_method_22_code
def yX11_isNumber : MethodName := ⟨RX11, "isNumber", "(I)Z"⟩
abbrev cX11_read : ByteArray := prog_13_method_23_code
def yX11_read : MethodName := ⟨RX11, "read", "(I)I"⟩
abbrev cX11_notesMore : ByteArray := prog_13_method_24_code
def yX11_notesMore : MethodName := ⟨RX11, "notesMore", "(III)I"⟩
abbrev cX11_hear : ByteArray := prog_13_method_25_code
def yX11_hear : MethodName := ⟨RX11, "hear", "(II)I"⟩
abbrev cX11_shown : ByteArray := prog_13_method_26_code
def yX11_shown : MethodName := ⟨RX11, "shown", "(II)I"⟩
abbrev cX11_forget : ByteArray := prog_13_method_27_code
def yX11_forget : MethodName := ⟨RX11, "forget", "()I"⟩
abbrev cX11_notesWeigh : ByteArray := prog_13_method_28_code
def yX11_notesWeigh : MethodName := ⟨RX11, "notesWeigh", "(II)J"⟩
abbrev cX11_saysOdds : ByteArray := prog_13_method_29_code
def yX11_saysOdds : MethodName := ⟨RX11, "saysOdds", "(II)I"⟩
abbrev cX11_findsWhere : ByteArray := prog_13_method_30_code
def yX11_findsWhere : MethodName := ⟨RX11, "findsWhere", "(I)V"⟩
abbrev cX11_whereOf : ByteArray := prog_13_method_31_code
def yX11_whereOf : MethodName := ⟨RX11, "whereOf", "(III)J"⟩
abbrev cX11_where : ByteArray := prog_13_method_32_code
def yX11_where : MethodName := ⟨RX11, "where", "(III)J"⟩
abbrev cX11_likeliestOf : ByteArray := prog_13_method_33_code
def yX11_likeliestOf : MethodName := ⟨RX11, "likeliestOf", "(I)I"⟩
abbrev cX11_likeliest : ByteArray := prog_13_method_34_code
def yX11_likeliest : MethodName := ⟨RX11, "likeliest", "(I)I"⟩
abbrev cX11_strikeOf : ByteArray := prog_13_method_35_code
def yX11_strikeOf : MethodName := ⟨RX11, "strikeOf", "(II)J"⟩
abbrev cX11_strike : ByteArray := prog_13_method_36_code
def yX11_strike : MethodName := ⟨RX11, "strike", "(II)J"⟩
abbrev cX11_isLess : ByteArray := prog_13_method_37_code
def yX11_isLess : MethodName := ⟨RX11, "isLess", "(JJJJ)Z"⟩
abbrev cX11_lineNow : ByteArray := prog_13_method_38_code
def yX11_lineNow : MethodName := ⟨RX11, "lineNow", "()I"⟩
abbrev cX11_line : ByteArray := prog_13_method_39_code
def yX11_line : MethodName := ⟨RX11, "line", "()I"⟩
abbrev cX11_findsSlips : ByteArray := prog_13_method_40_code
def yX11_findsSlips : MethodName := ⟨RX11, "findsSlips", "(III)V"⟩
abbrev cX11_missedIn : ByteArray := prog_13_method_41_code
def yX11_missedIn : MethodName := ⟨RX11, "missedIn", "(II)I"⟩
abbrev cX11_slipLoose : ByteArray := prog_13_method_42_code
def yX11_slipLoose : MethodName := ⟨RX11, "slipLoose", "(II)V"⟩
abbrev cX11_slipsOf : ByteArray := prog_13_method_43_code
def yX11_slipsOf : MethodName := ⟨RX11, "slipsOf", "(III)J"⟩
abbrev cX11_slips : ByteArray := prog_13_method_44_code
def yX11_slips : MethodName := ⟨RX11, "slips", "(III)J"⟩
abbrev cX11_isSome : ByteArray := prog_13_method_45_code
def yX11_isSome : MethodName := ⟨RX11, "isSome", "(I)Z"⟩
abbrev cX11_safeBy : ByteArray := prog_13_method_46_code
def yX11_safeBy : MethodName := ⟨RX11, "safeBy", "(I)J"⟩
abbrev cX11_safeOf : ByteArray := prog_13_method_47_code
def yX11_safeOf : MethodName := ⟨RX11, "safeOf", "(II)J"⟩
abbrev cX11_safe : ByteArray := prog_13_method_48_code
def yX11_safe : MethodName := ⟨RX11, "safe", "(II)J"⟩
abbrev cX11_writeOf : ByteArray := prog_13_method_49_code
def yX11_writeOf : MethodName := ⟨RX11, "writeOf", "(I)I"⟩
abbrev cX11_cuesNow : ByteArray := prog_13_method_50_code
def yX11_cuesNow : MethodName := ⟨RX11, "cuesNow", "()I"⟩
abbrev cX11_write : ByteArray := prog_13_method_51_code
def yX11_write : MethodName := ⟨RX11, "write", "(I)I"⟩
abbrev cX11_fewOf : ByteArray := prog_13_method_52_code
def yX11_fewOf : MethodName := ⟨RX11, "fewOf", "(I)I"⟩
abbrev cX11_few : ByteArray := prog_13_method_53_code
def yX11_few : MethodName := ⟨RX11, "few", "(I)I"⟩
abbrev cX11_anewOf : ByteArray := prog_13_method_54_code
def yX11_anewOf : MethodName := ⟨RX11, "anewOf", "(I)I"⟩
abbrev cX11_anew : ByteArray := prog_13_method_55_code
def yX11_anew : MethodName := ⟨RX11, "anew", "(I)I"⟩
abbrev cX11_joint : ByteArray := prog_13_method_56_code
def yX11_joint : MethodName := ⟨RX11, "joint", "(III)J"⟩
abbrev cX11_eveningBy : ByteArray := prog_13_method_57_code
def yX11_eveningBy : MethodName := ⟨RX11, "eveningBy", "(I)J"⟩
abbrev cX11_eveningOf : ByteArray := prog_13_method_58_code
def yX11_eveningOf : MethodName := ⟨RX11, "eveningOf", "(II)J"⟩
abbrev cX11_evening : ByteArray := prog_13_method_59_code
def yX11_evening : MethodName := ⟨RX11, "evening", "(II)J"⟩
abbrev cX11_primeOf : ByteArray := prog_13_method_60_code
def yX11_primeOf : MethodName := ⟨RX11, "primeOf", "(I)I"⟩
abbrev cX11_prime : ByteArray := prog_13_method_61_code
def yX11_prime : MethodName := ⟨RX11, "prime", "(I)I"⟩
abbrev cX11_player : ByteArray := prog_13_method_62_code
def yX11_player : MethodName := ⟨RX11, "player", "(II)I"⟩
abbrev cX11_leave : ByteArray := prog_13_method_63_code
def yX11_leave : MethodName := ⟨RX11, "leave", "()I"⟩
abbrev cX11_looksBy : ByteArray := prog_13_method_64_code
def yX11_looksBy : MethodName := ⟨RX11, "looksBy", "(I)I"⟩
abbrev cX11_worthOf : ByteArray := prog_13_method_65_code
def yX11_worthOf : MethodName := ⟨RX11, "worthOf", "(I)I"⟩
abbrev cX11_worth : ByteArray := prog_13_method_66_code
def yX11_worth : MethodName := ⟨RX11, "worth", "(I)I"⟩
abbrev cX11_lookOf : ByteArray := prog_13_method_67_code
def yX11_lookOf : MethodName := ⟨RX11, "lookOf", "(I)I"⟩
abbrev cX11_look : ByteArray := prog_13_method_68_code
def yX11_look : MethodName := ⟨RX11, "look", "(I)I"⟩
abbrev cX11_from : ByteArray := prog_13_method_69_code
def yX11_from : MethodName := ⟨RX11, "from", "(I)I"⟩
abbrev cX11_said : ByteArray := prog_13_method_70_code
def yX11_said : MethodName := ⟨RX11, "said", "(I)I"⟩
abbrev cX11_wrongOf : ByteArray := prog_13_method_71_code
def yX11_wrongOf : MethodName := ⟨RX11, "wrongOf", "(I)I"⟩
abbrev cX11_wrong : ByteArray := prog_13_method_72_code
def yX11_wrong : MethodName := ⟨RX11, "wrong", "(I)I"⟩
abbrev cX11_blameNow : ByteArray := prog_13_method_73_code
def yX11_blameNow : MethodName := ⟨RX11, "blameNow", "()I"⟩
abbrev cX11_blame : ByteArray := prog_13_method_74_code
def yX11_blame : MethodName := ⟨RX11, "blame", "()I"⟩
abbrev cX11_nightOf : ByteArray := prog_13_method_75_code
def yX11_nightOf : MethodName := ⟨RX11, "nightOf", "(II)I"⟩
abbrev cX11_night : ByteArray := prog_13_method_76_code
def yX11_night : MethodName := ⟨RX11, "night", "(II)I"⟩
abbrev cX11_meets : ByteArray := prog_13_method_77_code
def yX11_meets : MethodName := ⟨RX11, "meets", "(I)I"⟩
abbrev cX11_isSheet : ByteArray := prog_13_method_78_code
def yX11_isSheet : MethodName := ⟨RX11, "isSheet", "(I)Z"⟩
abbrev cX11_sheet : ByteArray := prog_13_method_79_code
def yX11_sheet : MethodName := ⟨RX11, "sheet", "(III)I"⟩
abbrev cX11_lose : ByteArray := prog_13_method_80_code
def yX11_lose : MethodName := ⟨RX11, "lose", "(I)I"⟩
abbrev cX11_lacks : ByteArray := prog_13_method_81_code
def yX11_lacks : MethodName := ⟨RX11, "lacks", "(III)I"⟩
abbrev cX11_keep : ByteArray := prog_13_method_82_code
def yX11_keep : MethodName := ⟨RX11, "keep", "(III)V"⟩
abbrev cX11_put : ByteArray := prog_13_method_83_code
def yX11_put : MethodName := ⟨RX11, "put", "(IIII)I"⟩
abbrev cX11_get : ByteArray := prog_13_method_84_code
def yX11_get : MethodName := ⟨RX11, "get", "(III)I"⟩
abbrev cX11_copy : ByteArray := prog_13_method_85_code
def yX11_copy : MethodName := ⟨RX11, "copy", "(IIIII)I"⟩
abbrev cX11_tell : ByteArray := prog_13_method_86_code
def yX11_tell : MethodName := ⟨RX11, "tell", "(I)I"⟩
abbrev cX11_readsMany : ByteArray := prog_13_method_87_code
def yX11_readsMany : MethodName := ⟨RX11, "readsMany", "(I)I"⟩
abbrev cX11_count : ByteArray := prog_13_method_88_code
def yX11_count : MethodName := ⟨RX11, "count", "(I)I"⟩
abbrev cX11_numberDigest : ByteArray := prog_13_method_89_code
def yX11_numberDigest : MethodName := ⟨RX11, "numberDigest", "(JI)J"⟩
abbrev cX11_digest : ByteArray := prog_13_method_90_code
def yX11_digest : MethodName := ⟨RX11, "digest", "()J"⟩
def RJ6 : String := "java/lang/Integer"
abbrev cJ6_bitCount_0f7a4 : ByteArray := prog_14_method_49_code
def yJ6_bitCount_0f7a4 : MethodName := ⟨RJ6, "bitCount", "(I)I"⟩
def RJ9 : String := "java/lang/Math"
abbrev cJ9_max_7cf53 : ByteArray := prog_15_method_65_code
def yJ9_max_7cf53 : MethodName := ⟨RJ9, "max", "(II)I"⟩
abbrev cJ9_min_7cf53 : ByteArray := prog_15_method_69_code
def yJ9_min_7cf53 : MethodName := ⟨RJ9, "min", "(II)I"⟩
def RJ10 : String := "java/lang/System"
def RJ7 : String := "java/util/Arrays"
abbrev cJ7_fill_d0a16 : ByteArray := prog_17_method_101_code
def yJ7_fill_d0a16 : MethodName := ⟨RJ7, "fill", "([JJ)V"⟩
abbrev cJ7_fill_53178 : ByteArray := prog_17_method_103_code
def yJ7_fill_53178 : MethodName := ⟨RJ7, "fill", "([II)V"⟩
def RL : String := "OneTriangleLaw"
abbrev cL_law : ByteArray := code
def yL_law : MethodName := ⟨RL, "law", "([I)Z"⟩
abbrev classes : List vw_C := [(RX0, TX0, 3), (RX1, TX1, 1), (RX2, TX2, 4), (RX3, TX3, 2), (RX4, TX4, 10), (RX5, TX5, 5), (RX6, TX6, 1), (RX7, TX7, 4), (RX8, TX8, 3), (RX9, TX9, 8), (RX10, TX10, 13), (RX11, TX11, 36)]
def lw_gd : List Cond := lw_tbl.filter goodWord
def lw_isN : Cond → Bool
  | .fieldLinkNest .. => true
  | .methodLinkNest .. => true
  | _ => false
def lw_nw : List Cond := lw_tbl.filter lw_isN
theorem lw_gd_t {i : Nat} {w : Cond} (h : tables_1[i]? = some w) (hg : goodWord w = true) : w ∈ lw_gd := List.mem_filter.mpr ⟨List.mem_append_right _ (List.mem_of_getElem? h), hg⟩
theorem lw_nw_t {i : Nat} {w : Cond} (h : tables_1[i]? = some w) (hg : lw_isN w = true) : w ∈ lw_nw := List.mem_filter.mpr ⟨List.mem_append_right _ (List.mem_of_getElem? h), hg⟩
theorem lw_gd_p {i : Nat} {w : Cond} (h : (k2_sels lw_privs)[i]? = some w) (hg : goodWord w = true) : w ∈ lw_gd := List.mem_filter.mpr ⟨List.mem_append_left _ (List.mem_of_getElem? h), hg⟩
theorem lw_gd_in {w : Cond} (h : w ∈ lw_gd) : w ∈ lw_tbl := (List.mem_filter.mp h).1
theorem lw_nw_in {w : Cond} (h : w ∈ lw_nw) : w ∈ lw_tbl := (List.mem_filter.mp h).1
theorem lw_gd_good {w : Cond} (h : w ∈ lw_gd) : (w.onTables && w.keeps) = true ∨ ∃ ty, w = .arrayClass ty := good_of_word (List.mem_filter.mp h).2
theorem lw_gd_gi : GoodIn lw_gd lw_gd := fun _ h => ⟨h, lw_gd_good h⟩
theorem giX0 : ∀ w ∈ u_ws RX0 TX0 3, w ∈ lw_gd := by decide +kernel
theorem giX1 : ∀ w ∈ u_ws RX1 TX1 1, w ∈ lw_gd := by decide +kernel
theorem giX2 : ∀ w ∈ u_ws RX2 TX2 4, w ∈ lw_gd := by decide +kernel
theorem giX3 : ∀ w ∈ u_ws RX3 TX3 2, w ∈ lw_gd := by decide +kernel
theorem giX4 : ∀ w ∈ u_ws RX4 TX4 10, w ∈ lw_gd := by decide +kernel
theorem giX5 : ∀ w ∈ u_ws RX5 TX5 5, w ∈ lw_gd := by decide +kernel
theorem giX6 : ∀ w ∈ u_ws RX6 TX6 1, w ∈ lw_gd := by decide +kernel
theorem giX7 : ∀ w ∈ u_ws RX7 TX7 4, w ∈ lw_gd := by decide +kernel
theorem giX8 : ∀ w ∈ u_ws RX8 TX8 3, w ∈ lw_gd := by decide +kernel
theorem giX9 : ∀ w ∈ u_ws RX9 TX9 8, w ∈ lw_gd := by decide +kernel
theorem giX10 : ∀ w ∈ u_ws RX10 TX10 13, w ∈ lw_gd := by decide +kernel
theorem giX11 : ∀ w ∈ u_ws RX11 TX11 36, w ∈ lw_gd := by decide +kernel
end
section
/-! the walk's judgement AX: a fixed world of cells (table tw), its contents a state St -/
abbrev am_M : Type := String × ByteArray × Nat × Option FieldType
abbrev ag_G : Type := va_G × (Nat → ClassId) × (Nat → Nat) × Nat × (Nat → Int32)
abbrev St : Type := (Nat → Nat → Int32) × (Nat → Nat → Int64)
abbrev ag_tys (G : ag_G) : List (ClassId × FieldType) := [(G.2.1 0, .int), (G.2.1 1, .long), (G.2.1 2, .boolean), (G.2.1 3, .object "OneTriangle$Sheet")]
/-- a cell of the table: an object (number of its class; its fields: none an int, some none a long, some some a reference), or an array (0 ints, 1 longs, 2 booleans, 3 references; length; the references) -/
abbrev tw_D : Type := (Nat × List (Option (Option Nat))) ⊕ (Nat × Nat × List Nat)
def tw : List tw_D := [.inl (10, [some (some 1), some (some 7), some (some 9), some (some 12), some (some 15), some (some 19), some (some 24), some (some 27), some (some 32), some (some 34), some (some 35), none, none]),
  .inl (4, [some (some 2), some (some 3), some (some 4), some (some 5), some (some 6), none, none, none, none, none]),
  .inr (0, 60, []),
  .inr (0, 99, []),
  .inr (0, 99, []),
  .inr (0, 99, []),
  .inr (0, 6, []),
  .inl (6, [some (some 8)]),
  .inr (0, 9, []),
  .inl (3, [some (some 10), some (some 11)]),
  .inr (0, 3, []),
  .inr (0, 3, []),
  .inl (3, [some (some 13), some (some 14)]),
  .inr (0, 3, []),
  .inr (0, 3, []),
  .inl (2, [some (some 16), some (some 17), some (some 18), none]),
  .inr (0, 4, []),
  .inr (0, 4, []),
  .inr (0, 4, []),
  .inl (9, [some (some 1), some (some 9), some (some 15), some (some 7), some (some 20), some (some 21), some (some 22), some (some 23)]),
  .inr (1, 2079, []),
  .inr (1, 111, []),
  .inr (1, 21, []),
  .inr (1, 21, []),
  .inl (8, [some (some 1), some (some 25), some (some 26)]),
  .inr (1, 21, []),
  .inr (1, 21, []),
  .inl (5, [some (some 28), some (some 29), some (some 30), some (some 31), none]),
  .inr (0, 8, []),
  .inr (0, 8, []),
  .inr (0, 8, []),
  .inr (0, 8, []),
  .inl (0, [some (some 33), none, none]),
  .inr (0, 20, []),
  .inl (1, [none]),
  .inr (3, 4, [36, 38, 40, 42]),
  .inl (7, [some (some 37), none, none, none]),
  .inr (0, 48, []),
  .inl (7, [some (some 39), none, none, none]),
  .inr (0, 48, []),
  .inl (7, [some (some 41), none, none, none]),
  .inr (0, 48, []),
  .inl (7, [some (some 43), none, none, none]),
  .inr (0, 48, []),
  .inl (11, [some (some 45), none, none, some (some 46), some (some 47), some (some 48), none, none, some (some 49), some (some 50), some (some 51), some (some 52), none, some (some 53), none, none, some (some 54), some (some 55), some (some 56), some (some 57), some (some 58), some (some 59), some none, some (some 60), some (some 61), some none, none, some (some 62), some (some 63), some (some 64), some (some 65), some (some 66), some (some 67), some (some 68), some (some 69), none]),
  .inr (0, 60, []),
  .inr (0, 100, []),
  .inr (0, 100, []),
  .inr (0, 100, []),
  .inr (0, 7, []),
  .inr (0, 3, []),
  .inr (0, 3, []),
  .inr (0, 9, []),
  .inr (0, 20, []),
  .inr (0, 4, []),
  .inr (0, 4, []),
  .inr (0, 4, []),
  .inr (1, 112, []),
  .inr (1, 112, []),
  .inr (1, 100, []),
  .inr (1, 21, []),
  .inr (1, 21, []),
  .inr (0, 8, []),
  .inr (0, 8, []),
  .inr (0, 99, []),
  .inr (2, 4, []),
  .inr (0, 4, []),
  .inr (0, 4, []),
  .inr (0, 192, []),
  .inr (0, 48, [])]
def tw_fld (G : ag_G) (σ : St) (k j : Nat) (f : Option (Option Nat)) : Value := match f with
  | none => .int (σ.1 k j)
  | some none => .long (σ.2 k j)
  | some (some r) => .ref (G.2.2.1 r)
def tw_cell (G : ag_G) (σ : St) (k : Nat) (d : tw_D) : va_E := match d with
  | .inl o => .inr (o.1, o.2.mapIdx (tw_fld G σ k))
  | .inr (0, n, _) => .inl (G.2.1 0, n, .inl (σ.1 k))
  | .inr (1, n, _) => .inl (G.2.1 1, n, .inr (.inl (σ.2 k)))
  | .inr (2, n, _) => .inl (G.2.1 2, n, .inl (σ.1 k))
  | .inr (_, n, rs) => .inl (G.2.1 3, n, .inr (.inr (.inr (.inr fun i => (rs[i]?).map G.2.2.1))))
def tw_W (G : ag_G) (σ : St) : va_W := tw.mapIdx fun k d => (G.2.2.1 k, tw_cell G σ k d)
theorem tw_at {G : ag_G} {σ : St} {k : Nat} {d : tw_D} (h : tw[k]? = some d) : (tw_W G σ)[k]? = some (G.2.2.1 k, tw_cell G σ k d) := by
  unfold tw_W
  rw [List.getElem?_mapIdx, h]
  rfl
theorem tw_set {G : ag_G} {σ σ' : St} {k : Nat} {d : tw_D} {e : va_E} (h : tw[k]? = some d) (he : tw_cell G σ' k d = e) (ho : ∀ j d', j ≠ k → tw_cell G σ' j d' = tw_cell G σ j d') : (tw_W G σ).set k (G.2.2.1 k, e) = tw_W G σ' := by
  subst he
  apply List.ext_getElem?
  intro j
  by_cases hj : j = k
  · subst hj
    rw [tw_at h, List.getElem?_set_self]
    have := List.getElem?_eq_some_iff.mp (tw_at (G := G) (σ := σ) h)
    exact this.1
  · rw [List.getElem?_set_ne (Ne.symm hj)]
    unfold tw_W
    rw [List.getElem?_mapIdx, List.getElem?_mapIdx]
    cases tw[j]? with
    | none => rfl
    | some d' => simp only [Option.map_some]; rw [ho j d' hj]
def rI (σ : St) (r : Nat) (f : Nat → Int32) : St := (fun r' => if r' = r then f else σ.1 r', σ.2)
def rL (σ : St) (r : Nat) (f : Nat → Int64) : St := (σ.1, fun r' => if r' = r then f else σ.2 r')
def sI (σ : St) (r j : Nat) (v : Int32) : St := rI σ r (upd (σ.1 r) j v)
def sL (σ : St) (r j : Nat) (v : Int64) : St := rL σ r (vp_updL (σ.2 r) j v)
theorem rI_cell {G : ag_G} {σ : St} {r : Nat} {f : Nat → Int32} (j : Nat) (d : tw_D) (h : j ≠ r) : tw_cell G (rI σ r f) j d = tw_cell G σ j d := by
  have e1 : (rI σ r f).1 j = σ.1 j := if_neg h
  have e2 : (rI σ r f).2 = σ.2 := rfl
  have e3 : tw_fld G (rI σ r f) j = tw_fld G σ j := by
    funext i x
    unfold tw_fld
    rw [e1, e2]
  unfold tw_cell
  split <;> simp only [e1, e2, e3]
theorem rL_cell {G : ag_G} {σ : St} {r : Nat} {f : Nat → Int64} (j : Nat) (d : tw_D) (h : j ≠ r) : tw_cell G (rL σ r f) j d = tw_cell G σ j d := by
  have e1 : (rL σ r f).2 j = σ.2 j := if_neg h
  have e2 : (rL σ r f).1 = σ.1 := rfl
  have e3 : tw_fld G (rL σ r f) j = tw_fld G σ j := by
    funext i x
    unfold tw_fld
    rw [e1, e2]
  unfold tw_cell
  split <;> simp only [e1, e2, e3]
theorem rI_own {σ : St} {r : Nat} {f : Nat → Int32} : (rI σ r f).1 r = f := if_pos rfl
theorem rL_own {σ : St} {r : Nat} {f : Nat → Int64} : (rL σ r f).2 r = f := if_pos rfl
/-- the arrays beside the world, that nobody writes: DIGEST_NUMBERS (1000), MOST (1001), the script (1002) -/
def xa_D : List Int32 := [1, 10, 30]
def xa_M : List Int32 := [16, 16, 16, 16, 99, 99, 16, 4, 4]
def ax_St (G : ag_G) (A : Nat → Prop) (U : State) (H : Heap) : Prop :=
  (va_Z "OneTriangle" "DIGEST_NUMBERS" "[I" (.ref (G.2.2.1 1000)) A U H ∧ va_Z "OneTriangle$Settings" "MOST" "[I" (.ref (G.2.2.1 1001)) A U H) ∧
  va_T .int (G.2.2.1 1000) 3 (fun j => .int (xa_D.getD j 0)) A U H ∧ va_T .int (G.2.2.1 1001) 9 (fun j => .int (xa_M.getD j 0)) A U H ∧ va_T .int (G.2.2.1 1002) G.2.2.2.1 (fun j => .int (G.2.2.2.2 j)) A U H
theorem ax_St.moved {G : ag_G} {A : Nat → Prop} {u U : State} {H : Heap} (hvm : u.vm.Alike U.vm) (h : ax_St G A u H) : ax_St G A U H := ⟨⟨h.1.1.moved hvm, h.1.2.moved hvm⟩, h.2.1.moved hvm, h.2.2.1.moved hvm, h.2.2.2.moved hvm⟩
theorem ax_St.kept {G : ag_G} {A : Nat → Prop} {U : State} {H H1 : Heap} (h : ax_St G A U H) (hq : ∀ a : Nat, a < H.size → ¬ A a → H1[a]? = H[a]?) : ax_St G A U H1 := ⟨⟨h.1.1.kept hq, h.1.2.kept hq⟩, h.2.1.kept hq, h.2.2.1.kept hq, h.2.2.2.kept hq⟩
theorem ax_St.narrow {G : ag_G} {A B : Nat → Prop} {U : State} {H : Heap} (h : ax_St G A U H) (hAB : ∀ q, B q → A q) : ax_St G B U H := ⟨⟨h.1.1.narrow hAB, h.1.2.narrow hAB⟩, h.2.1.narrow hAB, h.2.2.1.narrow hAB, h.2.2.2.narrow hAB⟩
theorem lw_nw_warm {w : Cond} (h : w ∈ lw_nw) {s U : State} (hW : s.WarmedH U.vm) (hZ : va_Nw w s) : va_Nw w U := by
  have hn := (List.mem_filter.mp h).2
  cases w <;> first | exact va_Nw.warmF hW hZ | exact va_Nw.warmM hW hZ | (exfalso; revert hn; simp [lw_isN])
/-- what stays while a method runs -/
def ax_C (G : ag_G) (M : am_M) (h k : Nat) (p : Program) (R : Room) (s : State) (m : MethodId) (args : Array Value) (c : Code) (A : Nat → Prop) (cells slots : Nat) : Prop :=
  p.tables.exec = Jvm.exec ∧ c.code = M.2.1 ∧ c.maxLocals = M.2.2.1 ∧ s.vm.findClass M.1 = some m.cls ∧ (∀ w ∈ lw_gd, w.before args s = true) ∧ (∀ w ∈ lw_nw, va_Nw w s) ∧ va_K G.1 classes (ag_tys G) s ∧ ax_St G A s s.heap ∧ (∀ q, s.heap.size ≤ q → A q) ∧ (h ≤ R.frames ∧ k ≤ R.locals) ∧ cells ≤ R.cells ∧ slots ≤ R.slots
/-- at a return instruction with that value -/
def ax_R (M : am_M) (pc : Nat) (v : Option Value) : Prop := match v with
  | none => M.2.2.2 = none ∧ decode M.2.1 pc = .ok (.return_, 1)
  | some (.int x) => ∃ ty, M.2.2.2 = some ty ∧ narrow ty (.int x) = .int x ∧ decode M.2.1 pc = .ok (.ireturn, 1)
  | some (.long _) => M.2.2.2 = some .long ∧ decode M.2.1 pc = .ok (.lreturn, 1)
  | some (.ref _) => (∃ n, M.2.2.2 = some (.object n)) ∧ decode M.2.1 pc = .ok (.areturn, 1)
  | some .null => (∃ n, M.2.2.2 = some (.object n)) ∧ decode M.2.1 pc = .ok (.areturn, 1)
  | _ => False
def AX (G : ag_G) (M : am_M) (h k pc : Nat) (ls : List (Nat × Value)) (st : List Value) (σ : St) (Q : Option Value → St → Prop) : Prop :=
  ∀ ⦃p : Program⦄ ⦃l : Launch⦄ ⦃e : Env⦄ ⦃R : Room⦄ ⦃s : State⦄ ⦃m : MethodId⦄ ⦃args : Array Value⦄ ⦃below : List Frame⦄ ⦃meth : Method⦄ ⦃c : Code⦄ ⦃H : Heap⦄ ⦃locs : List Loc⦄ ⦃cells slots : Nat⦄ ⦃Z : State → Prop⦄ ⦃A : Nat → Prop⦄ ⦃lsA : Array Slot⦄,
    ax_C G M h k p R s m args c A cells slots → va_P G.1 classes (tw_W G σ) H → va_D A (tw_W G σ) → va_S A s.heap H locs → lv_has lsA M.2.2.1 ls →
    (∀ (v : Option Value) (σ' : St) (H' : Heap) (locs' : List Loc) (pc' : Nat) (lsB : Array Slot), ax_R M pc' v → Q v σ' → va_P G.1 classes (tw_W G σ') H' → va_D A (tw_W G σ') → va_S A s.heap H' locs' → W p l e R s m args below meth c H' locs' cells slots Z (F0 m pc' lsB v.toList)) →
    W p l e R s m args below meth c H locs cells slots Z (F0 m pc lsA st)
/-- a method's contract over the world -/
def ax_B (G : ag_G) (σ : St) (sz : Nat) (U : State) : Prop := U.heap.size = sz ∧ va_P G.1 classes (tw_W G σ) U.heap ∧ va_K G.1 classes (ag_tys G) U ∧ va_D (fun _ => True) (tw_W G σ) ∧ (∀ w ∈ lw_nw, va_Nw w U) ∧ ax_St G (va_A (tw_W G σ) sz) U U.heap
def ax_Q (G : ag_G) (σ : St) (sz : Nat) (Q : Option Value → St → Prop) : Array Value → State → Outcome → State → Prop := fun _ st oc t =>
  (∃ (v : Option Value) (σ' : St), oc = .returned v ∧ Q v σ' ∧ va_P G.1 classes (tw_W G σ') t.heap ∧ va_D (va_A (tw_W G σ) sz) (tw_W G σ')) ∧ va_F (va_A (tw_W G σ) sz) st t
def AC (G : ag_G) (y : MethodName) (M : am_M) (h k : Nat) (As : List Value) (σ : St) (Q : Option Value → St → Prop) : Prop :=
  ∀ (l : Launch) (sz : Nat), Met l y (.code y M.2.1 M.2.2.1 M.2.2.2 :: lw_gd) { frames := h, cells := 0, slots := 0, locals := k } (va_Pc As (ax_B G σ sz)) (ax_Q G σ sz Q) 0 0 (va_A (tw_W G σ) sz)
theorem AC.of {G : ag_G} {y : MethodName} {M : am_M} {h k : Nat} {As : List Value} {σ : St} {Q : Option Value → St → Prop} (hy : plainName y.cls = true) (hyc : y.cls = M.1) (hlen : (lg_sl As).length ≤ M.2.2.1) (hx : AX G M h k 0 (lv_args 0 As) [] σ Q) : AC G y M h k As σ Q := by
  intro l sz
  refine Met.ofW (cc := M.2.1) (maxL := M.2.2.1) (ret := M.2.2.2) hy rfl ?_
  intro p e s m args below meth c s₁ B hml hv
  obtain ⟨rfl, hsz, hP, hK, hD0, hN, hSt⟩ := hv
  have hts := atoms_spec (ws := Cond.code y M.2.1 M.2.2.1 M.2.2.2 :: lw_gd) B.pre
  have hown : s.vm.findClass M.1 = some m.cls := hyc ▸ findClass_of_methodNamed B.named
  have hlocks := B.notSynchronized
  have hr := B.returns
  have hb := B.bytes
  have hex := B.exec
  subst hsz
  have hD := hD0.self (sz := s.heap.size)
  have hl := lv_entry As (n := M.2.2.1) hlen
  rw [lg_entry_eq]
  refine hx (A := va_A (tw_W G σ) s.heap.size) (R := (headSpec (Cond.code y M.2.1 M.2.2.1 M.2.2.2 :: lw_gd) { frames := h, cells := 0, slots := 0, locals := k }).room) ⟨hex, hb, hml, hown, fun w hw => hts w (List.mem_cons_of_mem _ hw), hN, hK, hSt, fun q hq => Or.inr hq, ⟨Nat.le_refl _, Nat.le_refl _⟩, Nat.zero_le _, Nat.zero_le _⟩ hP hD va_S.rf hl ?_
  intro v σ' H' locs' pc' lsB hR hQ hP' hD' hS'
  have fin : ∀ v' : Option Value, v' = v → ∀ t : State, t.heap = H' → s.WarmedH t.vm → ax_Q G σ s.heap.size Q As.toArray s (.returned v') t := by
    intro v' hv' t ht hW
    subst hv'
    exact ⟨⟨v', σ', rfl, hQ, by rw [ht]; exact hP', hD'⟩, hS'.F ht⟩
  have hf : ∀ q ∈ locs', va_A (tw_W G σ) s.heap.size q.base := hS'.2.2
  cases v with
  | none =>
    obtain ⟨h1, h2⟩ := hR
    exact W.vret hex hb (hr.trans h1) (fin none rfl) hf h2
  | some w =>
    cases w with
    | int x =>
      obtain ⟨ty, h1, h2, h3⟩ := hR
      exact W.zret hex hb (hr.trans h1) h2 (fin _ rfl) hf h3
    | long x =>
      obtain ⟨h1, h2⟩ := hR
      exact W.lret hex hb (hr.trans h1) (fin _ rfl) hf h2
    | ref a =>
      obtain ⟨⟨n, h1⟩, h2⟩ := hR
      exact W.aret hex hb (hr.trans h1) (Or.inl ⟨n, rfl⟩) (Or.inr ⟨a, rfl⟩) (fin _ rfl) hf h2
    | null =>
      obtain ⟨⟨n, h1⟩, h2⟩ := hR
      exact W.aret hex hb (hr.trans h1) (Or.inl ⟨n, rfl⟩) (Or.inl rfl) (fin _ rfl) hf h2
    | _ => exact hR.elim
theorem AC.mono {G : ag_G} {y : MethodName} {M : am_M} {h k : Nat} {As : List Value} {σ : St} {Q Q' : Option Value → St → Prop} (hx : AX G M h k 0 (lv_args 0 As) [] σ Q) (hq : ∀ v σ', Q v σ' → Q' v σ') : AX G M h k 0 (lv_args 0 As) [] σ Q' := by
  intro p l e R s m args below meth c H locs cells slots Z A lsA C hP hD hS hl hr
  exact hx C hP hD hS hl (fun v σ' H' locs' pc' lsB a b => hr v σ' H' locs' pc' lsB a (hq v σ' b))
end
section
theorem AX.eqp {G : ag_G} {M : am_M} {h k pc pc' : Nat} {ls : List (Nat × Value)} {st : List Value} {σ : St} {Q : Option Value → St → Prop} (hp : pc = pc') (kk : AX G M h k pc' ls st σ Q) : AX G M h k pc ls st σ Q := hp ▸ kk
def ls1 (i : Nat) (v : Value) (l : List (Nat × Value)) : List (Nat × Value) := (l.filter fun q => decide (q.1 < i) && !(q.1 + 1 == i && q.2.category == 2)) ++ (i, v) :: (l.filter fun q => decide (i < q.1))
def ls2 (i : Nat) (v : Value) (l : List (Nat × Value)) : List (Nat × Value) := (l.filter fun q => decide (q.1 < i) && !(q.1 + 1 == i && q.2.category == 2)) ++ (i, v) :: (l.filter fun q => decide (i + 1 < q.1))
theorem lv_mono {ls : Array Slot} {n : Nat} {l l' : List (Nat × Value)} (h : lv_has ls n l) (hm : ∀ q ∈ l', q ∈ l) : lv_has ls n l' := ⟨h.1, h.2.1, fun q hq => h.2.2 q (hm q hq)⟩
theorem ls1_mem {i : Nat} {v : Value} {l : List (Nat × Value)} : ∀ q ∈ ls1 i v l, q ∈ (i, v) :: l.filter (fun q => !(q.1 == i) && !(q.1 + 1 == i && q.2.category == 2)) := by
  intro q hq
  unfold ls1 at hq
  rcases List.mem_append.mp hq with h | h
  · obtain ⟨h1, h2⟩ := List.mem_filter.mp h
    refine List.mem_cons_of_mem _ (List.mem_filter.mpr ⟨h1, ?_⟩)
    simp only [Bool.and_eq_true, decide_eq_true_eq] at h2
    have : (q.1 == i) = false := by simp; omega
    simp only [this, Bool.not_false, Bool.true_and]
    exact h2.2
  · rcases List.mem_cons.mp h with h | h
    · rw [h]; exact List.mem_cons_self
    · obtain ⟨h1, h2⟩ := List.mem_filter.mp h
      refine List.mem_cons_of_mem _ (List.mem_filter.mpr ⟨h1, ?_⟩)
      simp only [decide_eq_true_eq] at h2
      have e1 : (q.1 == i) = false := by simp; omega
      have e2 : (q.1 + 1 == i) = false := by simp; omega
      simp only [e1, e2, Bool.not_false, Bool.false_and, Bool.and_self]
theorem ls2_mem {i : Nat} {v : Value} {l : List (Nat × Value)} : ∀ q ∈ ls2 i v l, q ∈ (i, v) :: l.filter (fun q => !(q.1 == i) && (!(q.1 == i + 1) && !(q.1 + 1 == i && q.2.category == 2))) := by
  intro q hq
  unfold ls2 at hq
  rcases List.mem_append.mp hq with h | h
  · obtain ⟨h1, h2⟩ := List.mem_filter.mp h
    refine List.mem_cons_of_mem _ (List.mem_filter.mpr ⟨h1, ?_⟩)
    simp only [Bool.and_eq_true, decide_eq_true_eq] at h2
    have e1 : (q.1 == i) = false := by simp; omega
    have e2 : (q.1 == i + 1) = false := by simp; omega
    simp only [e1, e2, Bool.not_false, Bool.true_and]
    exact h2.2
  · rcases List.mem_cons.mp h with h | h
    · rw [h]; exact List.mem_cons_self
    · obtain ⟨h1, h2⟩ := List.mem_filter.mp h
      refine List.mem_cons_of_mem _ (List.mem_filter.mpr ⟨h1, ?_⟩)
      simp only [decide_eq_true_eq] at h2
      have e1 : (q.1 == i) = false := by simp; omega
      have e2 : (q.1 + 1 == i) = false := by simp; omega
      have e3 : (q.1 == i + 1) = false := by simp; omega
      simp only [e1, e2, e3, Bool.not_false, Bool.false_and, Bool.and_self]
section AXR
variable {G : ag_G} {M : am_M} {h k pc : Nat} {ls : List (Nat × Value)} {st : List Value} {σ : St} {Q : Option Value → St → Prop}
theorem AX.sub {ls' : List (Nat × Value)} (ks : List Nat) (hs : lv_pick ls ks = ls') (kk : AX G M h k pc ls' st σ Q) : AX G M h k pc ls st σ Q := by
  intro p l e R s m args below meth c H locs cells slots Z A lsA C hP hD hS hl hr
  exact kk C hP hD hS (lv_sub hl ks hs) hr
theorem AX.iconst {n : Int} {v : Int32} (hd : decode M.2.1 pc = .ok (.iconst n, 1)) (hv : Int32.ofInt n = v) (kk : AX G M h k (pc + 1) ls (.int v :: st) σ Q) : AX G M h k pc ls (st) σ Q := by
  intro p l e R s m args below meth c H locs cells slots Z A lsA C hP hD hS hl hr
  exact lv_iconst C.1 C.2.1 hd hv (kk C hP hD hS hl hr)
theorem AX.bipush {n : Int} {v : Int32} (hd : decode M.2.1 pc = .ok (.bipush n, 2)) (hv : (Int8.ofInt n).toInt32 = v) (kk : AX G M h k (pc + 2) ls (.int v :: st) σ Q) : AX G M h k pc ls (st) σ Q := by
  intro p l e R s m args below meth c H locs cells slots Z A lsA C hP hD hS hl hr
  exact lv_bipush C.1 C.2.1 hd hv (kk C hP hD hS hl hr)
theorem AX.sipush {n : Int} {v : Int32} (hd : decode M.2.1 pc = .ok (.sipush n, 3)) (hv : (Int16.ofInt n).toInt32 = v) (kk : AX G M h k (pc + 3) ls (.int v :: st) σ Q) : AX G M h k pc ls (st) σ Q := by
  intro p l e R s m args below meth c H locs cells slots Z A lsA C hP hD hS hl hr
  exact lv_sipush C.1 C.2.1 hd hv (kk C hP hD hS hl hr)
theorem AX.lconst {n : Fin 2} {v : Int64} (hd : decode M.2.1 pc = .ok (.lconst n, 1)) (hv : Int64.ofNat (n : Nat) = v) (kk : AX G M h k (pc + 1) ls (.long v :: st) σ Q) : AX G M h k pc ls (st) σ Q := by
  intro p l e R s m args below meth c H locs cells slots Z A lsA C hP hD hS hl hr
  exact lv_lconst C.1 C.2.1 hd hv (kk C hP hD hS hl hr)
theorem AX.null  (hd : decode M.2.1 pc = .ok (.aconst_null, 1)) (kk : AX G M h k (pc + 1) ls (.null :: st) σ Q) : AX G M h k pc ls (st) σ Q := by
  intro p l e R s m args below meth c H locs cells slots Z A lsA C hP hD hS hl hr
  exact lv_null C.1 C.2.1 hd (kk C hP hD hS hl hr)
theorem AX.ldc {i : Nat} {v : Int32} (hd : decode M.2.1 pc = .ok (.ldc i, 2)) (hw : Cond.constant M.1 i v ∈ lw_gd) (kk : AX G M h k (pc + 2) ls (.int v :: st) σ Q) : AX G M h k pc ls (st) σ Q := by
  intro p l e R s m args below meth c H locs cells slots Z A lsA C hP hD hS hl hr
  exact lv_ldc C.1 C.2.1 C.2.2.2.1 (C.2.2.2.2.1 _ hw) hd (kk C hP hD hS hl hr)
theorem AX.ldcw {i : Nat} {v : Int32} (hd : decode M.2.1 pc = .ok (.ldc_w i, 3)) (hw : Cond.constant M.1 i v ∈ lw_gd) (kk : AX G M h k (pc + 3) ls (.int v :: st) σ Q) : AX G M h k pc ls (st) σ Q := by
  intro p l e R s m args below meth c H locs cells slots Z A lsA C hP hD hS hl hr
  exact lv_ldcw C.1 C.2.1 C.2.2.2.1 (C.2.2.2.2.1 _ hw) hd (kk C hP hD hS hl hr)
theorem AX.ldc2 {i : Nat} {v : Int64} (hd : decode M.2.1 pc = .ok (.ldc2_w i, 3)) (hw : Cond.constantLong M.1 i v ∈ lw_gd) (kk : AX G M h k (pc + 3) ls (.long v :: st) σ Q) : AX G M h k pc ls (st) σ Q := by
  intro p l e R s m args below meth c H locs cells slots Z A lsA C hP hD hS hl hr
  exact lv_ldc2 C.1 C.2.1 C.2.2.2.1 (C.2.2.2.2.1 _ hw) hd (kk C hP hD hS hl hr)
theorem AX.iload_n {n : Fin 4} {i : Nat} {x : Int32} (hd : decode M.2.1 pc = .ok (.iload_n n, 1)) (q : Nat) (hi : (n : Nat) = i) (hq : ls[q]? = some (i, .int x)) (kk : AX G M h k (pc + 1) ls (.int x :: st) σ Q) : AX G M h k pc ls (st) σ Q := by
  intro p l e R s m args below meth c H locs cells slots Z A lsA C hP hD hS hl hr
  exact lv_iload_n C.1 C.2.1 hd hi (lv_at hl q hq) (kk C hP hD hS hl hr)
theorem AX.iload {i : Nat} {x : Int32} (hd : decode M.2.1 pc = .ok (.iload i, 2)) (q : Nat) (hq : ls[q]? = some (i, .int x)) (kk : AX G M h k (pc + 2) ls (.int x :: st) σ Q) : AX G M h k pc ls (st) σ Q := by
  intro p l e R s m args below meth c H locs cells slots Z A lsA C hP hD hS hl hr
  exact lv_iload C.1 C.2.1 hd (lv_at hl q hq) (kk C hP hD hS hl hr)
theorem AX.istore_n {n : Fin 4} {i : Nat} {x : Int32} {ls' : List (Nat × Value)} (hd : decode M.2.1 pc = .ok (.istore_n n, 1)) (hi : (n : Nat) = i) (hb : i < M.2.2.1) (hl' : ls1 i (.int x) ls = ls') (kk : AX G M h k (pc + 1) ls' st σ Q) : AX G M h k pc ls (.int x :: st) σ Q := by
  intro p l e R s m args below meth c H locs cells slots Z A lsA C hP hD hS hl hr
  exact lv_istore_n C.1 C.2.1 hd hi hl hb rfl (fun lsB hB => kk C hP hD hS (hl' ▸ lv_mono hB ls1_mem) hr)
theorem AX.istore {i : Nat} {x : Int32} {ls' : List (Nat × Value)} (hd : decode M.2.1 pc = .ok (.istore i, 2)) (hb : i < M.2.2.1) (hl' : ls1 i (.int x) ls = ls') (kk : AX G M h k (pc + 2) ls' st σ Q) : AX G M h k pc ls (.int x :: st) σ Q := by
  intro p l e R s m args below meth c H locs cells slots Z A lsA C hP hD hS hl hr
  exact lv_istore C.1 C.2.1 hd hl hb rfl (fun lsB hB => kk C hP hD hS (hl' ▸ lv_mono hB ls1_mem) hr)
theorem AX.lload_n {n : Fin 4} {i : Nat} {x : Int64} (hd : decode M.2.1 pc = .ok (.lload_n n, 1)) (q : Nat) (hi : (n : Nat) = i) (hq : ls[q]? = some (i, .long x)) (kk : AX G M h k (pc + 1) ls (.long x :: st) σ Q) : AX G M h k pc ls (st) σ Q := by
  intro p l e R s m args below meth c H locs cells slots Z A lsA C hP hD hS hl hr
  exact lv_lload_n C.1 C.2.1 hd hi (lv_at hl q hq) (kk C hP hD hS hl hr)
theorem AX.lload {i : Nat} {x : Int64} (hd : decode M.2.1 pc = .ok (.lload i, 2)) (q : Nat) (hq : ls[q]? = some (i, .long x)) (kk : AX G M h k (pc + 2) ls (.long x :: st) σ Q) : AX G M h k pc ls (st) σ Q := by
  intro p l e R s m args below meth c H locs cells slots Z A lsA C hP hD hS hl hr
  exact lv_lload C.1 C.2.1 hd (lv_at hl q hq) (kk C hP hD hS hl hr)
theorem AX.lstore_n {n : Fin 4} {i : Nat} {x : Int64} {ls' : List (Nat × Value)} (hd : decode M.2.1 pc = .ok (.lstore_n n, 1)) (hi : (n : Nat) = i) (hb : i + 1 < M.2.2.1) (hl' : ls2 i (.long x) ls = ls') (kk : AX G M h k (pc + 1) ls' st σ Q) : AX G M h k pc ls (.long x :: st) σ Q := by
  intro p l e R s m args below meth c H locs cells slots Z A lsA C hP hD hS hl hr
  exact lv_lstore_n C.1 C.2.1 hd hi hl hb rfl (fun lsB hB => kk C hP hD hS (hl' ▸ lv_mono hB ls2_mem) hr)
theorem AX.lstore {i : Nat} {x : Int64} {ls' : List (Nat × Value)} (hd : decode M.2.1 pc = .ok (.lstore i, 2)) (hb : i + 1 < M.2.2.1) (hl' : ls2 i (.long x) ls = ls') (kk : AX G M h k (pc + 2) ls' st σ Q) : AX G M h k pc ls (.long x :: st) σ Q := by
  intro p l e R s m args below meth c H locs cells slots Z A lsA C hP hD hS hl hr
  exact lv_lstore C.1 C.2.1 hd hl hb rfl (fun lsB hB => kk C hP hD hS (hl' ▸ lv_mono hB ls2_mem) hr)
theorem AX.aload_n {n : Fin 4} {i : Nat} {x : Nat} (hd : decode M.2.1 pc = .ok (.aload_n n, 1)) (q : Nat) (hi : (n : Nat) = i) (hq : ls[q]? = some (i, .ref x)) (kk : AX G M h k (pc + 1) ls (.ref x :: st) σ Q) : AX G M h k pc ls (st) σ Q := by
  intro p l e R s m args below meth c H locs cells slots Z A lsA C hP hD hS hl hr
  exact lv_aload_n C.1 C.2.1 hd hi (lv_at hl q hq) (kk C hP hD hS hl hr)
theorem AX.aload {i : Nat} {x : Nat} (hd : decode M.2.1 pc = .ok (.aload i, 2)) (q : Nat) (hq : ls[q]? = some (i, .ref x)) (kk : AX G M h k (pc + 2) ls (.ref x :: st) σ Q) : AX G M h k pc ls (st) σ Q := by
  intro p l e R s m args below meth c H locs cells slots Z A lsA C hP hD hS hl hr
  exact lv_aload C.1 C.2.1 hd (lv_at hl q hq) (kk C hP hD hS hl hr)
theorem AX.astore_n {n : Fin 4} {i : Nat} {x : Nat} {ls' : List (Nat × Value)} (hd : decode M.2.1 pc = .ok (.astore_n n, 1)) (hi : (n : Nat) = i) (hb : i < M.2.2.1) (hl' : ls1 i (.ref x) ls = ls') (kk : AX G M h k (pc + 1) ls' st σ Q) : AX G M h k pc ls (.ref x :: st) σ Q := by
  intro p l e R s m args below meth c H locs cells slots Z A lsA C hP hD hS hl hr
  exact lv_astore_n C.1 C.2.1 hd hi hl hb rfl (fun lsB hB => kk C hP hD hS (hl' ▸ lv_mono hB ls1_mem) hr)
theorem AX.astore {i : Nat} {x : Nat} {ls' : List (Nat × Value)} (hd : decode M.2.1 pc = .ok (.astore i, 2)) (hb : i < M.2.2.1) (hl' : ls1 i (.ref x) ls = ls') (kk : AX G M h k (pc + 2) ls' st σ Q) : AX G M h k pc ls (.ref x :: st) σ Q := by
  intro p l e R s m args below meth c H locs cells slots Z A lsA C hP hD hS hl hr
  exact lv_astore C.1 C.2.1 hd hl hb rfl (fun lsB hB => kk C hP hD hS (hl' ▸ lv_mono hB ls1_mem) hr)
theorem AX.iinc {i : Nat} {n : Int} {x v : Int32} {ls' : List (Nat × Value)} (q : Nat) (hd : decode M.2.1 pc = .ok (.iinc i n, 3)) (hq : ls[q]? = some (i, .int x)) (hb : i < M.2.2.1) (hv : x + Int32.ofInt n = v) (hl' : ls1 i (.int v) ls = ls') (kk : AX G M h k (pc + 3) ls' st σ Q) : AX G M h k pc ls st σ Q := by
  intro p l e R s m args below meth c H locs cells slots Z A lsA C hP hD hS hl hr
  exact lv_iinc C.1 C.2.1 hd hl hq hv hb rfl (fun lsB hB => kk C hP hD hS (hl' ▸ lv_mono hB ls1_mem) hr)
theorem AX.iadd {x y : Int32} (hd : decode M.2.1 pc = .ok (.iadd, 1)) (kk : AX G M h k (pc + 1) ls (.int (x + y) :: st) σ Q) : AX G M h k pc ls (.int y :: .int x :: st) σ Q := by
  intro p l e R s m args below meth c H locs cells slots Z A lsA C hP hD hS hl hr
  exact lv_iadd C.1 C.2.1 hd (kk C hP hD hS hl hr)
theorem AX.isub {x y : Int32} (hd : decode M.2.1 pc = .ok (.isub, 1)) (kk : AX G M h k (pc + 1) ls (.int (x - y) :: st) σ Q) : AX G M h k pc ls (.int y :: .int x :: st) σ Q := by
  intro p l e R s m args below meth c H locs cells slots Z A lsA C hP hD hS hl hr
  exact lv_isub C.1 C.2.1 hd (kk C hP hD hS hl hr)
theorem AX.imul {x y : Int32} (hd : decode M.2.1 pc = .ok (.imul, 1)) (kk : AX G M h k (pc + 1) ls (.int (x * y) :: st) σ Q) : AX G M h k pc ls (.int y :: .int x :: st) σ Q := by
  intro p l e R s m args below meth c H locs cells slots Z A lsA C hP hD hS hl hr
  exact lv_imul C.1 C.2.1 hd (kk C hP hD hS hl hr)
theorem AX.iand {x y : Int32} (hd : decode M.2.1 pc = .ok (.iand, 1)) (kk : AX G M h k (pc + 1) ls (.int (x &&& y) :: st) σ Q) : AX G M h k pc ls (.int y :: .int x :: st) σ Q := by
  intro p l e R s m args below meth c H locs cells slots Z A lsA C hP hD hS hl hr
  exact lv_iand C.1 C.2.1 hd (kk C hP hD hS hl hr)
theorem AX.ior {x y : Int32} (hd : decode M.2.1 pc = .ok (.ior, 1)) (kk : AX G M h k (pc + 1) ls (.int (x ||| y) :: st) σ Q) : AX G M h k pc ls (.int y :: .int x :: st) σ Q := by
  intro p l e R s m args below meth c H locs cells slots Z A lsA C hP hD hS hl hr
  exact lv_ior C.1 C.2.1 hd (kk C hP hD hS hl hr)
theorem AX.ixor {x y : Int32} (hd : decode M.2.1 pc = .ok (.ixor, 1)) (kk : AX G M h k (pc + 1) ls (.int (x ^^^ y) :: st) σ Q) : AX G M h k pc ls (.int y :: .int x :: st) σ Q := by
  intro p l e R s m args below meth c H locs cells slots Z A lsA C hP hD hS hl hr
  exact lv_ixor C.1 C.2.1 hd (kk C hP hD hS hl hr)
theorem AX.ladd {x y : Int64} (hd : decode M.2.1 pc = .ok (.ladd, 1)) (kk : AX G M h k (pc + 1) ls (.long (x + y) :: st) σ Q) : AX G M h k pc ls (.long y :: .long x :: st) σ Q := by
  intro p l e R s m args below meth c H locs cells slots Z A lsA C hP hD hS hl hr
  exact lv_ladd C.1 C.2.1 hd (kk C hP hD hS hl hr)
theorem AX.lsub {x y : Int64} (hd : decode M.2.1 pc = .ok (.lsub, 1)) (kk : AX G M h k (pc + 1) ls (.long (x - y) :: st) σ Q) : AX G M h k pc ls (.long y :: .long x :: st) σ Q := by
  intro p l e R s m args below meth c H locs cells slots Z A lsA C hP hD hS hl hr
  exact lv_lsub C.1 C.2.1 hd (kk C hP hD hS hl hr)
theorem AX.lmul {x y : Int64} (hd : decode M.2.1 pc = .ok (.lmul, 1)) (kk : AX G M h k (pc + 1) ls (.long (x * y) :: st) σ Q) : AX G M h k pc ls (.long y :: .long x :: st) σ Q := by
  intro p l e R s m args below meth c H locs cells slots Z A lsA C hP hD hS hl hr
  exact lv_lmul C.1 C.2.1 hd (kk C hP hD hS hl hr)
theorem AX.idiv {x y : Int32} (hd : decode M.2.1 pc = .ok (.idiv, 1)) (hne : ¬ y = 0) (kk : AX G M h k (pc + 1) ls (.int (x / y) :: st) σ Q) : AX G M h k pc ls (.int y :: .int x :: st) σ Q := by
  intro p l e R s m args below meth c H locs cells slots Z A lsA C hP hD hS hl hr
  exact lv_idiv C.1 C.2.1 hd hne (kk C hP hD hS hl hr)
theorem AX.irem {x y : Int32} (hd : decode M.2.1 pc = .ok (.irem, 1)) (hne : ¬ y = 0) (kk : AX G M h k (pc + 1) ls (.int (x - x / y * y) :: st) σ Q) : AX G M h k pc ls (.int y :: .int x :: st) σ Q := by
  intro p l e R s m args below meth c H locs cells slots Z A lsA C hP hD hS hl hr
  exact lv_irem C.1 C.2.1 hd hne (kk C hP hD hS hl hr)
theorem AX.ldiv {x y : Int64} (hd : decode M.2.1 pc = .ok (.ldiv, 1)) (hne : ¬ y = 0) (kk : AX G M h k (pc + 1) ls (.long (x / y) :: st) σ Q) : AX G M h k pc ls (.long y :: .long x :: st) σ Q := by
  intro p l e R s m args below meth c H locs cells slots Z A lsA C hP hD hS hl hr
  exact lv_ldiv C.1 C.2.1 hd hne (kk C hP hD hS hl hr)
theorem AX.lrem {x y : Int64} (hd : decode M.2.1 pc = .ok (.lrem, 1)) (hne : ¬ y = 0) (kk : AX G M h k (pc + 1) ls (.long (x - x / y * y) :: st) σ Q) : AX G M h k pc ls (.long y :: .long x :: st) σ Q := by
  intro p l e R s m args below meth c H locs cells slots Z A lsA C hP hD hS hl hr
  exact lv_lrem C.1 C.2.1 hd hne (kk C hP hD hS hl hr)
theorem AX.ishl {x y : Int32} (hd : decode M.2.1 pc = .ok (.ishl, 1)) (kk : AX G M h k (pc + 1) ls (.int (x <<< (y &&& 31)) :: st) σ Q) : AX G M h k pc ls (.int y :: .int x :: st) σ Q := by
  intro p l e R s m args below meth c H locs cells slots Z A lsA C hP hD hS hl hr
  exact lv_ishl C.1 C.2.1 hd (kk C hP hD hS hl hr)
theorem AX.ishr {x y : Int32} (hd : decode M.2.1 pc = .ok (.ishr, 1)) (kk : AX G M h k (pc + 1) ls (.int (x >>> (y &&& 31)) :: st) σ Q) : AX G M h k pc ls (.int y :: .int x :: st) σ Q := by
  intro p l e R s m args below meth c H locs cells slots Z A lsA C hP hD hS hl hr
  exact lv_ishr C.1 C.2.1 hd (kk C hP hD hS hl hr)
theorem AX.iushr {x y : Int32} (hd : decode M.2.1 pc = .ok (.iushr, 1)) (kk : AX G M h k (pc + 1) ls (.int (x.toUInt32 >>> (y.toUInt32 &&& Int32.toUInt32 31)).toInt32 :: st) σ Q) : AX G M h k pc ls (.int y :: .int x :: st) σ Q := by
  intro p l e R s m args below meth c H locs cells slots Z A lsA C hP hD hS hl hr
  exact lv_iushr C.1 C.2.1 hd rfl (kk C hP hD hS hl hr)
theorem AX.i2l {x : Int32} (hd : decode M.2.1 pc = .ok (.i2l, 1)) (kk : AX G M h k (pc + 1) ls (.long x.toInt64 :: st) σ Q) : AX G M h k pc ls (.int x :: st) σ Q := by
  intro p l e R s m args below meth c H locs cells slots Z A lsA C hP hD hS hl hr
  exact lv_i2l C.1 C.2.1 hd rfl (kk C hP hD hS hl hr)
theorem AX.i2b {x : Int32} (hd : decode M.2.1 pc = .ok (.i2b, 1)) (kk : AX G M h k (pc + 1) ls (.int x.toInt8.toInt32 :: st) σ Q) : AX G M h k pc ls (.int x :: st) σ Q := by
  intro p l e R s m args below meth c H locs cells slots Z A lsA C hP hD hS hl hr
  exact lv_i2b C.1 C.2.1 hd rfl (kk C hP hD hS hl hr)
theorem AX.i2s {x : Int32} (hd : decode M.2.1 pc = .ok (.i2s, 1)) (kk : AX G M h k (pc + 1) ls (.int x.toInt16.toInt32 :: st) σ Q) : AX G M h k pc ls (.int x :: st) σ Q := by
  intro p l e R s m args below meth c H locs cells slots Z A lsA C hP hD hS hl hr
  exact lv_i2s C.1 C.2.1 hd rfl (kk C hP hD hS hl hr)
theorem AX.dup {v : Value} (hd : decode M.2.1 pc = .ok (.dup, 1)) (hv : v.category = 1) (kk : AX G M h k (pc + 1) ls (v :: v :: st) σ Q) : AX G M h k pc ls (v :: st) σ Q := by
  intro p l e R s m args below meth c H locs cells slots Z A lsA C hP hD hS hl hr
  exact lv_dup C.1 C.2.1 hd hv (kk C hP hD hS hl hr)
theorem AX.pop {v : Value} (hd : decode M.2.1 pc = .ok (.pop, 1)) (hv : v.category = 1) (kk : AX G M h k (pc + 1) ls (st) σ Q) : AX G M h k pc ls (v :: st) σ Q := by
  intro p l e R s m args below meth c H locs cells slots Z A lsA C hP hD hS hl hr
  exact lv_pop C.1 C.2.1 hd hv (kk C hP hD hS hl hr)
theorem AX.dup2 {v w : Value} (hd : decode M.2.1 pc = .ok (.dup2, 1)) (hv : v.category = 1) (hw : w.category = 1) (kk : AX G M h k (pc + 1) ls (v :: w :: v :: w :: st) σ Q) : AX G M h k pc ls (v :: w :: st) σ Q := by
  intro p l e R s m args below meth c H locs cells slots Z A lsA C hP hD hS hl hr
  exact lv_dup2_11 C.1 C.2.1 hd hv hw (kk C hP hD hS hl hr)
theorem AX.icmp_eq {x y : Int32} {off : Int} {tgt : Nat} (hd : decode M.2.1 pc = .ok (.if_icmp .eq off, 3)) (ht : (pc : Int) + off = (tgt : Int)) (kt : x = y → AX G M h k tgt ls st σ Q) (kf : ¬ (x = y) → AX G M h k (pc + 3) ls st σ Q) : AX G M h k pc ls (.int y :: .int x :: st) σ Q := by
  intro p l e R s m args below meth c H locs cells slots Z A lsA C hP hD hS hl hr
  exact lv_icmp_eq C.1 C.2.1 hd ht (fun q => kt q C hP hD hS hl hr) (fun q => kf q C hP hD hS hl hr)
theorem AX.if_eq {x : Int32} {off : Int} {tgt : Nat} (hd : decode M.2.1 pc = .ok (.ifCond .eq off, 3)) (ht : (pc : Int) + off = (tgt : Int)) (kt : x = 0 → AX G M h k tgt ls st σ Q) (kf : ¬ (x = 0) → AX G M h k (pc + 3) ls st σ Q) : AX G M h k pc ls (.int x :: st) σ Q := by
  intro p l e R s m args below meth c H locs cells slots Z A lsA C hP hD hS hl hr
  exact lv_if_eq C.1 C.2.1 hd ht (fun q => kt q C hP hD hS hl hr) (fun q => kf q C hP hD hS hl hr)
theorem AX.icmp_ne {x y : Int32} {off : Int} {tgt : Nat} (hd : decode M.2.1 pc = .ok (.if_icmp .ne off, 3)) (ht : (pc : Int) + off = (tgt : Int)) (kt : ¬ x = y → AX G M h k tgt ls st σ Q) (kf : x = y → AX G M h k (pc + 3) ls st σ Q) : AX G M h k pc ls (.int y :: .int x :: st) σ Q := by
  intro p l e R s m args below meth c H locs cells slots Z A lsA C hP hD hS hl hr
  exact lv_icmp_ne C.1 C.2.1 hd ht (fun q => kt q C hP hD hS hl hr) (fun q => kf q C hP hD hS hl hr)
theorem AX.if_ne {x : Int32} {off : Int} {tgt : Nat} (hd : decode M.2.1 pc = .ok (.ifCond .ne off, 3)) (ht : (pc : Int) + off = (tgt : Int)) (kt : ¬ x = 0 → AX G M h k tgt ls st σ Q) (kf : x = 0 → AX G M h k (pc + 3) ls st σ Q) : AX G M h k pc ls (.int x :: st) σ Q := by
  intro p l e R s m args below meth c H locs cells slots Z A lsA C hP hD hS hl hr
  exact lv_if_ne C.1 C.2.1 hd ht (fun q => kt q C hP hD hS hl hr) (fun q => kf q C hP hD hS hl hr)
theorem AX.icmp_lt {x y : Int32} {off : Int} {tgt : Nat} (hd : decode M.2.1 pc = .ok (.if_icmp .lt off, 3)) (ht : (pc : Int) + off = (tgt : Int)) (kt : x < y → AX G M h k tgt ls st σ Q) (kf : ¬ (x < y) → AX G M h k (pc + 3) ls st σ Q) : AX G M h k pc ls (.int y :: .int x :: st) σ Q := by
  intro p l e R s m args below meth c H locs cells slots Z A lsA C hP hD hS hl hr
  exact lv_icmp_lt C.1 C.2.1 hd ht (fun q => kt q C hP hD hS hl hr) (fun q => kf q C hP hD hS hl hr)
theorem AX.if_lt {x : Int32} {off : Int} {tgt : Nat} (hd : decode M.2.1 pc = .ok (.ifCond .lt off, 3)) (ht : (pc : Int) + off = (tgt : Int)) (kt : x < 0 → AX G M h k tgt ls st σ Q) (kf : ¬ (x < 0) → AX G M h k (pc + 3) ls st σ Q) : AX G M h k pc ls (.int x :: st) σ Q := by
  intro p l e R s m args below meth c H locs cells slots Z A lsA C hP hD hS hl hr
  exact lv_if_lt C.1 C.2.1 hd ht (fun q => kt q C hP hD hS hl hr) (fun q => kf q C hP hD hS hl hr)
theorem AX.icmp_ge {x y : Int32} {off : Int} {tgt : Nat} (hd : decode M.2.1 pc = .ok (.if_icmp .ge off, 3)) (ht : (pc : Int) + off = (tgt : Int)) (kt : y ≤ x → AX G M h k tgt ls st σ Q) (kf : ¬ (y ≤ x) → AX G M h k (pc + 3) ls st σ Q) : AX G M h k pc ls (.int y :: .int x :: st) σ Q := by
  intro p l e R s m args below meth c H locs cells slots Z A lsA C hP hD hS hl hr
  exact lv_icmp_ge C.1 C.2.1 hd ht (fun q => kt q C hP hD hS hl hr) (fun q => kf q C hP hD hS hl hr)
theorem AX.if_ge {x : Int32} {off : Int} {tgt : Nat} (hd : decode M.2.1 pc = .ok (.ifCond .ge off, 3)) (ht : (pc : Int) + off = (tgt : Int)) (kt : 0 ≤ x → AX G M h k tgt ls st σ Q) (kf : ¬ (0 ≤ x) → AX G M h k (pc + 3) ls st σ Q) : AX G M h k pc ls (.int x :: st) σ Q := by
  intro p l e R s m args below meth c H locs cells slots Z A lsA C hP hD hS hl hr
  exact lv_if_ge C.1 C.2.1 hd ht (fun q => kt q C hP hD hS hl hr) (fun q => kf q C hP hD hS hl hr)
theorem AX.icmp_gt {x y : Int32} {off : Int} {tgt : Nat} (hd : decode M.2.1 pc = .ok (.if_icmp .gt off, 3)) (ht : (pc : Int) + off = (tgt : Int)) (kt : y < x → AX G M h k tgt ls st σ Q) (kf : ¬ (y < x) → AX G M h k (pc + 3) ls st σ Q) : AX G M h k pc ls (.int y :: .int x :: st) σ Q := by
  intro p l e R s m args below meth c H locs cells slots Z A lsA C hP hD hS hl hr
  exact lv_icmp_gt C.1 C.2.1 hd ht (fun q => kt q C hP hD hS hl hr) (fun q => kf q C hP hD hS hl hr)
theorem AX.if_gt {x : Int32} {off : Int} {tgt : Nat} (hd : decode M.2.1 pc = .ok (.ifCond .gt off, 3)) (ht : (pc : Int) + off = (tgt : Int)) (kt : 0 < x → AX G M h k tgt ls st σ Q) (kf : ¬ (0 < x) → AX G M h k (pc + 3) ls st σ Q) : AX G M h k pc ls (.int x :: st) σ Q := by
  intro p l e R s m args below meth c H locs cells slots Z A lsA C hP hD hS hl hr
  exact lv_if_gt C.1 C.2.1 hd ht (fun q => kt q C hP hD hS hl hr) (fun q => kf q C hP hD hS hl hr)
theorem AX.icmp_le {x y : Int32} {off : Int} {tgt : Nat} (hd : decode M.2.1 pc = .ok (.if_icmp .le off, 3)) (ht : (pc : Int) + off = (tgt : Int)) (kt : x ≤ y → AX G M h k tgt ls st σ Q) (kf : ¬ (x ≤ y) → AX G M h k (pc + 3) ls st σ Q) : AX G M h k pc ls (.int y :: .int x :: st) σ Q := by
  intro p l e R s m args below meth c H locs cells slots Z A lsA C hP hD hS hl hr
  exact lv_icmp_le C.1 C.2.1 hd ht (fun q => kt q C hP hD hS hl hr) (fun q => kf q C hP hD hS hl hr)
theorem AX.if_le {x : Int32} {off : Int} {tgt : Nat} (hd : decode M.2.1 pc = .ok (.ifCond .le off, 3)) (ht : (pc : Int) + off = (tgt : Int)) (kt : x ≤ 0 → AX G M h k tgt ls st σ Q) (kf : ¬ (x ≤ 0) → AX G M h k (pc + 3) ls st σ Q) : AX G M h k pc ls (.int x :: st) σ Q := by
  intro p l e R s m args below meth c H locs cells slots Z A lsA C hP hD hS hl hr
  exact lv_if_le C.1 C.2.1 hd ht (fun q => kt q C hP hD hS hl hr) (fun q => kf q C hP hD hS hl hr)
theorem AX.goto {off : Int} {tgt : Nat} (hd : decode M.2.1 pc = .ok (.goto off, 3)) (ht : (pc : Int) + off = (tgt : Int)) (kk : AX G M h k tgt ls st σ Q) : AX G M h k pc ls st σ Q := by
  intro p l e R s m args below meth c H locs cells slots Z A lsA C hP hD hS hl hr
  exact lv_goto C.1 C.2.1 hd ht (kk C hP hD hS hl hr)
theorem lg_cmp_ne (x y : Int64) : (¬ lg_cmp x y = 0) ↔ ¬ x = y := not_congr (lg_cmp_eq x y)
theorem AX.lcmp {x y : Int64} (hd : decode M.2.1 pc = .ok (.lcmp, 1)) (kk : AX G M h k (pc + 1) ls (.int (lg_cmp x y) :: st) σ Q) : AX G M h k pc ls (.long y :: .long x :: st) σ Q := by
  intro p l e R s m args below meth c H locs cells slots Z A lsA C hP hD hS hl hr
  exact W.lcmp C.1 C.2.1 hd (kk C hP hD hS hl hr)
theorem AX.lcmp_eq {x y : Int64} {off : Int} {tgt : Nat} (hd : decode M.2.1 pc = .ok (.lcmp, 1)) (hd2 : decode M.2.1 (pc + 1) = .ok (.ifCond .eq off, 3)) (ht : ((pc + 1 : Nat) : Int) + off = (tgt : Int)) (kt : x = y → AX G M h k tgt ls st σ Q) (kf : ¬ (x = y) → AX G M h k (pc + 4) ls st σ Q) : AX G M h k pc ls (.long y :: .long x :: st) σ Q :=
  AX.lcmp hd (AX.if_eq hd2 ht (fun q => kt ((lg_cmp_eq x y).mp q)) (fun q => kf (fun z => q ((lg_cmp_eq x y).mpr z))))
theorem AX.lcmp_ne {x y : Int64} {off : Int} {tgt : Nat} (hd : decode M.2.1 pc = .ok (.lcmp, 1)) (hd2 : decode M.2.1 (pc + 1) = .ok (.ifCond .ne off, 3)) (ht : ((pc + 1 : Nat) : Int) + off = (tgt : Int)) (kt : ¬ x = y → AX G M h k tgt ls st σ Q) (kf : x = y → AX G M h k (pc + 4) ls st σ Q) : AX G M h k pc ls (.long y :: .long x :: st) σ Q :=
  AX.lcmp hd (AX.if_ne hd2 ht (fun q => kt ((lg_cmp_ne x y).mp q)) (fun q => kf ((lg_cmp_eq x y).mp q)))
theorem AX.lcmp_lt {x y : Int64} {off : Int} {tgt : Nat} (hd : decode M.2.1 pc = .ok (.lcmp, 1)) (hd2 : decode M.2.1 (pc + 1) = .ok (.ifCond .lt off, 3)) (ht : ((pc + 1 : Nat) : Int) + off = (tgt : Int)) (kt : x < y → AX G M h k tgt ls st σ Q) (kf : ¬ (x < y) → AX G M h k (pc + 4) ls st σ Q) : AX G M h k pc ls (.long y :: .long x :: st) σ Q :=
  AX.lcmp hd (AX.if_lt hd2 ht (fun q => kt ((lg_cmp_lt x y).mp q)) (fun q => kf (fun z => q ((lg_cmp_lt x y).mpr z))))
theorem AX.lcmp_ge {x y : Int64} {off : Int} {tgt : Nat} (hd : decode M.2.1 pc = .ok (.lcmp, 1)) (hd2 : decode M.2.1 (pc + 1) = .ok (.ifCond .ge off, 3)) (ht : ((pc + 1 : Nat) : Int) + off = (tgt : Int)) (kt : y ≤ x → AX G M h k tgt ls st σ Q) (kf : ¬ (y ≤ x) → AX G M h k (pc + 4) ls st σ Q) : AX G M h k pc ls (.long y :: .long x :: st) σ Q :=
  AX.lcmp hd (AX.if_ge hd2 ht (fun q => kt ((lg_cmp_ge x y).mp q)) (fun q => kf (fun z => q ((lg_cmp_ge x y).mpr z))))
theorem AX.lcmp_gt {x y : Int64} {off : Int} {tgt : Nat} (hd : decode M.2.1 pc = .ok (.lcmp, 1)) (hd2 : decode M.2.1 (pc + 1) = .ok (.ifCond .gt off, 3)) (ht : ((pc + 1 : Nat) : Int) + off = (tgt : Int)) (kt : y < x → AX G M h k tgt ls st σ Q) (kf : ¬ (y < x) → AX G M h k (pc + 4) ls st σ Q) : AX G M h k pc ls (.long y :: .long x :: st) σ Q :=
  AX.lcmp hd (AX.if_gt hd2 ht (fun q => kt ((lg_cmp_gt x y).mp q)) (fun q => kf (fun z => q ((lg_cmp_gt x y).mpr z))))
theorem AX.lcmp_le {x y : Int64} {off : Int} {tgt : Nat} (hd : decode M.2.1 pc = .ok (.lcmp, 1)) (hd2 : decode M.2.1 (pc + 1) = .ok (.ifCond .le off, 3)) (ht : ((pc + 1 : Nat) : Int) + off = (tgt : Int)) (kt : x ≤ y → AX G M h k tgt ls st σ Q) (kf : ¬ (x ≤ y) → AX G M h k (pc + 4) ls st σ Q) : AX G M h k pc ls (.long y :: .long x :: st) σ Q :=
  AX.lcmp hd (AX.if_le hd2 ht (fun q => kt ((lg_cmp_le x y).mp q)) (fun q => kf (fun z => q ((lg_cmp_le x y).mpr z))))
theorem AX.ifnull_ref {x : Nat} {off : Int} (hd : decode M.2.1 pc = .ok (.ifnull off, 3)) (kk : AX G M h k (pc + 3) ls st σ Q) : AX G M h k pc ls (.ref x :: st) σ Q := by
  intro p l e R s m args below meth c H locs cells slots Z A lsA C hP hD hS hl hr
  exact lv_ifnull C.1 C.2.1 hd (kk C hP hD hS hl hr)
theorem AX.ifnull_null {off : Int} {tgt : Nat} (hd : decode M.2.1 pc = .ok (.ifnull off, 3)) (ht : (pc : Int) + off = (tgt : Int)) (kk : AX G M h k tgt ls st σ Q) : AX G M h k pc ls (.null :: st) σ Q := by
  intro p l e R s m args below meth c H locs cells slots Z A lsA C hP hD hS hl hr
  exact lv_ifnullN C.1 C.2.1 hd ht (kk C hP hD hS hl hr)
theorem AX.ifnonnull_ref {x : Nat} {off : Int} {tgt : Nat} (hd : decode M.2.1 pc = .ok (.ifnonnull off, 3)) (ht : (pc : Int) + off = (tgt : Int)) (kk : AX G M h k tgt ls st σ Q) : AX G M h k pc ls (.ref x :: st) σ Q := by
  intro p l e R s m args below meth c H locs cells slots Z A lsA C hP hD hS hl hr
  exact lv_ifnonnull C.1 C.2.1 hd ht (kk C hP hD hS hl hr)
theorem AX.ifnonnull_null {off : Int} (hd : decode M.2.1 pc = .ok (.ifnonnull off, 3)) (kk : AX G M h k (pc + 3) ls st σ Q) : AX G M h k pc ls (.null :: st) σ Q := by
  intro p l e R s m args below meth c H locs cells slots Z A lsA C hP hD hS hl hr
  exact lv_ifnonnullN C.1 C.2.1 hd (kk C hP hD hS hl hr)
theorem AX.tableIn {dflt lo hi off : Int} {offs : Array Int} {len : Nat} {x : Int32} {tgt : Nat} (n : Int) (hd : decode M.2.1 pc = .ok (.tableswitch dflt lo hi offs, len)) (hx : x.toInt = n) (h1 : ¬ n < lo ∧ ¬ hi < n) (ho : offs[(n - lo).toNat]? = some off) (ht : (pc : Int) + off = (tgt : Int)) (kk : AX G M h k tgt ls st σ Q) : AX G M h k pc ls (.int x :: st) σ Q := by
  subst hx
  intro p l e R s m args below meth c H locs cells slots Z A lsA C hP hD hS hl hr
  exact lv_tableIn C.1 C.2.1 hd h1.1 h1.2 ho ht (kk C hP hD hS hl hr)
theorem AX.tableOut {dflt lo hi : Int} {offs : Array Int} {len : Nat} {x : Int32} {tgt : Nat} (hd : decode M.2.1 pc = .ok (.tableswitch dflt lo hi offs, len)) (h1 : x.toInt < lo ∨ hi < x.toInt) (ht : (pc : Int) + dflt = (tgt : Int)) (kk : AX G M h k tgt ls st σ Q) : AX G M h k pc ls (.int x :: st) σ Q := by
  intro p l e R s m args below meth c H locs cells slots Z A lsA C hP hD hS hl hr
  exact lv_tableOut C.1 C.2.1 hd h1 ht (kk C hP hD hS hl hr)
theorem AX.lookup {dflt off : Int} {ps : Array (Int × Int)} {len : Nat} {x : Int32} {tgt : Nat} (hd : decode M.2.1 pc = .ok (.lookupswitch dflt ps, len)) (hp : (ps.toList.zip (ps.toList.drop 1)).all (fun (a, next) => a.1 < next.1) = true) (ho : Op.lookupswitch.offset ps.toList dflt x.toInt = off) (ht : (pc : Int) + off = (tgt : Int)) (kk : AX G M h k tgt ls st σ Q) : AX G M h k pc ls (.int x :: st) σ Q := by
  intro p l e R s m args below meth c H locs cells slots Z A lsA C hP hD hS hl hr
  exact lv_lookup C.1 C.2.1 hd hp ho ht (kk C hP hD hS hl hr)
/- returns -/
theorem AX.ireturn {x : Int32} {ty : FieldType} (hd : decode M.2.1 pc = .ok (.ireturn, 1)) (ht : M.2.2.2 = some ty) (hn : narrow ty (.int x) = .int x) (hq : Q (some (.int x)) σ) : AX G M h k pc ls [.int x] σ Q := by
  intro p l e R s m args below meth c H locs cells slots Z A lsA C hP hD hS hl hr
  exact hr (some (.int x)) σ H locs pc lsA ⟨ty, ht, hn, hd⟩ hq hP hD hS
theorem AX.lreturn {x : Int64} (hd : decode M.2.1 pc = .ok (.lreturn, 1)) (ht : M.2.2.2 = some .long) (hq : Q (some (.long x)) σ) : AX G M h k pc ls [.long x] σ Q := by
  intro p l e R s m args below meth c H locs cells slots Z A lsA C hP hD hS hl hr
  exact hr (some (.long x)) σ H locs pc lsA ⟨ht, hd⟩ hq hP hD hS
theorem AX.vreturn (hd : decode M.2.1 pc = .ok (.return_, 1)) (ht : M.2.2.2 = none) (hq : Q none σ) : AX G M h k pc ls [] σ Q := by
  intro p l e R s m args below meth c H locs cells slots Z A lsA C hP hD hS hl hr
  exact hr none σ H locs pc lsA ⟨ht, hd⟩ hq hP hD hS
theorem AX.areturn_ref {x : Nat} {n : String} (hd : decode M.2.1 pc = .ok (.areturn, 1)) (ht : M.2.2.2 = some (.object n)) (hq : Q (some (.ref x)) σ) : AX G M h k pc ls [.ref x] σ Q := by
  intro p l e R s m args below meth c H locs cells slots Z A lsA C hP hD hS hl hr
  exact hr (some (.ref x)) σ H locs pc lsA ⟨⟨n, ht⟩, hd⟩ hq hP hD hS
theorem AX.areturn_null {n : String} (hd : decode M.2.1 pc = .ok (.areturn, 1)) (ht : M.2.2.2 = some (.object n)) (hq : Q (some .null) σ) : AX G M h k pc ls [.null] σ Q := by
  intro p l e R s m args below meth c H locs cells slots Z A lsA C hP hD hS hl hr
  exact hr (some .null) σ H locs pc lsA ⟨⟨n, ht⟩, hd⟩ hq hP hD hS
end AXR
end
section
/-! links by their words -/
def fl_ok (own : String) (idx ci j : Nat) : Prop := ∃ (C : String) (T : u_T) (N : Nat), classes[ci]? = some (C, T, N) ∧ j < N ∧ (∀ w ∈ u_ws C T N, w ∈ lw_gd) ∧ ((Cond.fieldLink own idx (T j).1 (T j).2.1 (T j).2.2.1 ∈ lw_gd) ∨ (∃ host, Cond.fieldLinkNest own idx (T j).1 (T j).2.1 (T j).2.2.1 host ∈ lw_nw))
def fp_ok (own : String) (idx ci j : Nat) (ty : FieldType) : Prop := ∃ (C : String) (T : u_T) (N : Nat) (ty0 : Nat → FieldType), classes[ci]? = some (C, T, N) ∧ j < N ∧ (∀ w ∈ u_ws C T N, w ∈ lw_gd) ∧ ((Cond.fieldLink own idx (T j).1 (T j).2.1 (T j).2.2.1 ∈ lw_gd) ∨ (∃ host, Cond.fieldLinkNest own idx (T j).1 (T j).2.1 (T j).2.2.1 host ∈ lw_nw)) ∧ (∀ k, k < N → parseFieldDescriptor (T k).2.2.1 = some (ty0 k)) ∧ (∀ a, a < N → ∀ b, b < N → a ≠ b → (T a).2.1 ≠ (T b).2.1) ∧ (T j).2.2.2 = false ∧ parseFieldDescriptor (T j).2.2.1 = some ty
def ml_ok (own : String) (idx : Nat) (y : MethodName) : Prop := (Cond.methodLink own idx y ∈ lw_gd) ∨ ∃ host, Cond.methodLinkNest own idx y host ∈ lw_nw
def yl_ok (y : MethodName) (M : am_M) (n : Nat) : Prop := (y.cls ≠ "java/lang/invoke/MethodHandle" ∧ y.cls ≠ "java/lang/invoke/VarHandle" ∧ (parseMethodDescriptor y.desc).map (fun d => d.parameters.length) = some n) ∧ Cond.code y M.2.1 M.2.2.1 M.2.2.2 ∈ lw_gd ∧ Cond.initialized y.cls ∈ lw_gd
def yv_ok (y : MethodName) (ci : Nat) : Prop := Cond.instanceMethod y ∈ lw_gd ∧ ∃ (C : String) (T : u_T) (N : Nat), classes[ci]? = some (C, T, N) ∧ Cond.selects C y y ∈ lw_gd
section AXM
variable {G : ag_G} {M : am_M} {h k pc : Nat} {ls : List (Nat × Value)} {st : List Value} {σ : St} {Q : Option Value → St → Prop}
theorem AX.getf {idx ci j r : Nat} {fs : List (Option (Option Nat))} {f : Option (Option Nat)} (hd : decode M.2.1 pc = .ok (.getfield idx, 3)) (hf : fl_ok M.1 idx ci j) (ht : tw[r]? = some (.inl (ci, fs))) (hj : fs[j]? = some f) (kk : AX G M h k (pc + 3) ls (tw_fld G σ r j f :: st) σ Q) : AX G M h k pc ls (.ref (G.2.2.1 r) :: st) σ Q := by
  intro p l e R s m args below meth c H locs cells slots Z A lsA C hP hD hS hl hr
  obtain ⟨Cn, T, N, hc, hN, hin, hlk⟩ := hf
  have he := tw_at (G := G) (σ := σ) ht
  have hv : (fs.mapIdx (tw_fld G σ r))[j]? = some (tw_fld G σ r j f) := by rw [List.getElem?_mapIdx, hj]; rfl
  rcases hlk with hlk | ⟨host, hlk⟩
  · exact va_get C.1 C.2.1 C.2.2.2.2.1 hin C.2.2.2.1 C.2.2.2.2.2.2.1 hP r he hc j hN (C.2.2.2.2.1 _ hlk) (fun _ h9 => h9) hv hd (kk C hP hD hS hl hr)
  · exact va_getN C.1 C.2.1 C.2.2.2.2.1 hin C.2.2.2.1 C.2.2.2.2.2.2.1 hP r he hc j hN (va_Nw.use rfl (C.2.2.2.2.2.1 _ hlk)) (fun _ h9 => h9) hv hd (kk C hP hD hS hl hr)
theorem AX.getI {idx ci j r : Nat} {fs : List (Option (Option Nat))} (hd : decode M.2.1 pc = .ok (.getfield idx, 3)) (hf : fl_ok M.1 idx ci j) (ht : tw[r]? = some (.inl (ci, fs))) (hj : fs[j]? = some none) (kk : AX G M h k (pc + 3) ls (.int (σ.1 r j) :: st) σ Q) : AX G M h k pc ls (.ref (G.2.2.1 r) :: st) σ Q := AX.getf hd hf ht hj kk
theorem AX.getJ {idx ci j r : Nat} {fs : List (Option (Option Nat))} (hd : decode M.2.1 pc = .ok (.getfield idx, 3)) (hf : fl_ok M.1 idx ci j) (ht : tw[r]? = some (.inl (ci, fs))) (hj : fs[j]? = some (some none)) (kk : AX G M h k (pc + 3) ls (.long (σ.2 r j) :: st) σ Q) : AX G M h k pc ls (.ref (G.2.2.1 r) :: st) σ Q := AX.getf hd hf ht hj kk
theorem AX.getR {idx ci j r r' : Nat} {fs : List (Option (Option Nat))} (hd : decode M.2.1 pc = .ok (.getfield idx, 3)) (hf : fl_ok M.1 idx ci j) (ht : tw[r]? = some (.inl (ci, fs))) (hj : fs[j]? = some (some (some r'))) (kk : AX G M h k (pc + 3) ls (.ref (G.2.2.1 r') :: st) σ Q) : AX G M h k pc ls (.ref (G.2.2.1 r) :: st) σ Q := AX.getf hd hf ht hj kk
theorem AX.putf {idx ci j r : Nat} {fs : List (Option (Option Nat))} {ty : FieldType} {v : Value} {σ' : St} (hd : decode M.2.1 pc = .ok (.putfield idx, 3)) (hf : fp_ok M.1 idx ci j ty) (ht : tw[r]? = some (.inl (ci, fs))) (hj : j < fs.length) (hn : narrow ty v = v) (hfit : fits ty v = true)
    (he' : (fs.mapIdx (tw_fld G σ r)).set j v = fs.mapIdx (tw_fld G σ' r)) (ho : ∀ q d', q ≠ r → tw_cell G σ' q d' = tw_cell G σ q d') (kk : AX G M h k (pc + 3) ls st σ' Q) : AX G M h k pc ls (v :: .ref (G.2.2.1 r) :: st) σ Q := by
  intro p l e R s m args below meth c H locs cells slots Z A lsA C hP hD hS hl hr
  obtain ⟨Cn, T, N, ty0, hc, hN, hin, hlk, hty, hnm, hfin, hds⟩ := hf
  have he := tw_at (G := G) (σ := σ) ht
  have hlen : j < (fs.mapIdx (tw_fld G σ r)).length := by simpa using hj
  have hset : (tw_W G σ).set r (G.2.2.1 r, .inr (ci, (fs.mapIdx (tw_fld G σ r)).set j v)) = tw_W G σ' := tw_set ht (by rw [he']; rfl) ho
  rcases hlk with hlk | ⟨host, hlk⟩
  · refine va_put C.1 C.2.1 C.2.2.2.2.1 hin ty0 hty hnm C.2.2.2.1 C.2.2.2.2.2.2.1 hP hD hS r he hc j hN (C.2.2.2.2.1 _ hlk) (fun _ h9 => h9) hfin hds hn hfit hlen hd (fun H1 locs1 hP1 hD1 hS1 => ?_)
    rw [hset] at hP1 hD1
    exact kk C hP1 hD1 hS1 hl hr
  · refine va_putN C.1 C.2.1 C.2.2.2.2.1 hin ty0 hty hnm C.2.2.2.1 C.2.2.2.2.2.2.1 hP hD hS r he hc j hN (va_Nw.use rfl (C.2.2.2.2.2.1 _ hlk)) (fun _ h9 => h9) hfin hds hn hfit hlen hd (fun H1 locs1 hP1 hD1 hS1 => ?_)
    rw [hset] at hP1 hD1
    exact kk C hP1 hD1 hS1 hl hr
theorem AX.putI {idx ci j r : Nat} {fs : List (Option (Option Nat))} {ty : FieldType} {v : Int32} (hd : decode M.2.1 pc = .ok (.putfield idx, 3)) (hf : fp_ok M.1 idx ci j ty) (ht : tw[r]? = some (.inl (ci, fs))) (hj : fs[j]? = some none) (hn : narrow ty (.int v) = .int v) (hfit : fits ty (.int v) = true) (kk : AX G M h k (pc + 3) ls st (sI σ r j v) Q) : AX G M h k pc ls (.int v :: .ref (G.2.2.1 r) :: st) σ Q := by
  refine AX.putf hd hf ht (List.getElem?_eq_some_iff.mp hj).1 hn hfit ?_ (fun q d' hq => rI_cell q d' hq) kk
  apply List.ext_getElem?
  intro i
  by_cases hi : i = j
  · subst hi
    rw [List.getElem?_set_self (by simpa using (List.getElem?_eq_some_iff.mp hj).1), List.getElem?_mapIdx, hj]
    simp [tw_fld, sI, rI_own, upd]
  · rw [List.getElem?_set_ne (Ne.symm hi), List.getElem?_mapIdx, List.getElem?_mapIdx]
    cases fs[i]? with
    | none => rfl
    | some f => cases f with
      | none => simp [tw_fld, sI, rI_own, upd, hi]
      | some f => cases f <;> rfl
theorem AX.putJ {idx ci j r : Nat} {fs : List (Option (Option Nat))} {v : Int64} (hd : decode M.2.1 pc = .ok (.putfield idx, 3)) (hf : fp_ok M.1 idx ci j .long) (ht : tw[r]? = some (.inl (ci, fs))) (hj : fs[j]? = some (some none)) (kk : AX G M h k (pc + 3) ls st (sL σ r j v) Q) : AX G M h k pc ls (.long v :: .ref (G.2.2.1 r) :: st) σ Q := by
  refine AX.putf hd hf ht (List.getElem?_eq_some_iff.mp hj).1 rfl rfl ?_ (fun q d' hq => rL_cell q d' hq) kk
  apply List.ext_getElem?
  intro i
  by_cases hi : i = j
  · subst hi
    rw [List.getElem?_set_self (by simpa using (List.getElem?_eq_some_iff.mp hj).1), List.getElem?_mapIdx, hj]
    simp [tw_fld, sL, rL_own, vp_updL]
  · rw [List.getElem?_set_ne (Ne.symm hi), List.getElem?_mapIdx, List.getElem?_mapIdx]
    cases fs[i]? with
    | none => rfl
    | some f => cases f with
      | none => simp [tw_fld, sL, rL]
      | some f => cases f with
        | none => simp [tw_fld, sL, rL_own, vp_updL, hi]
        | some f => rfl
/-! arrays -/
def inb (i : Int32) (n : Nat) : Bool := decide (0 ≤ i) && decide (i.toNatClampNeg < n)
theorem inb_in {i : Int32} {n : Nat} (hi : inb i n = true) : vp_in i n := by
  unfold inb at hi
  simp only [Bool.and_eq_true, decide_eq_true_eq] at hi
  rintro (q | q)
  · exact absurd hi.1 (Int32.not_le.mpr q)
  · omega
def wi (r : Nat) : Option Nat := match tw[r]? with
  | some (.inr (0, n, _)) => some n
  | _ => none
def wj (r : Nat) : Option Nat := match tw[r]? with
  | some (.inr (1, n, _)) => some n
  | _ => none
theorem wi_tw {r n : Nat} (hr : wi r = some n) : ∃ rs, tw[r]? = some (.inr (0, n, rs)) := by
  unfold wi at hr
  split at hr
  · rename_i n' rs he
    cases hr
    exact ⟨rs, he⟩
  · cases hr
theorem wj_tw {r n : Nat} (hr : wj r = some n) : ∃ rs, tw[r]? = some (.inr (1, n, rs)) := by
  unfold wj at hr
  split at hr
  · rename_i n' rs he
    cases hr
    exact ⟨rs, he⟩
  · cases hr
def ri (r : Nat) : Option Nat := if r = 1000 then some 3 else if r = 1001 then some 9 else wi r
def rv (σ : St) (r i : Nat) : Int32 := if r = 1000 then xa_D.getD i 0 else if r = 1001 then xa_M.getD i 0 else σ.1 r i
theorem AX.iald {r n : Nat} {i : Int32} (hd : decode M.2.1 pc = .ok (.iaload, 1)) (hw : wi r = some n) (hi : inb i n = true) (kk : AX G M h k (pc + 1) ls (.int (σ.1 r i.toNatClampNeg) :: st) σ Q) : AX G M h k pc ls (.int i :: .ref (G.2.2.1 r) :: st) σ Q := by
  intro p l e R s m args below meth c H locs cells slots Z A lsA C hP hD hS hl hr
  obtain ⟨rs, ht⟩ := wi_tw hw
  exact va_iald C.1 C.2.1 C.2.2.2.2.2.2.1 hP r 0 (tw_at ht) rfl (inb_in hi) hd (kk C hP hD hS hl hr)
theorem AX.ialdR {r n : Nat} {i : Int32} (hd : decode M.2.1 pc = .ok (.iaload, 1)) (hw : ri r = some n) (hi : inb i n = true) (kk : AX G M h k (pc + 1) ls (.int (rv σ r i.toNatClampNeg) :: st) σ Q) : AX G M h k pc ls (.int i :: .ref (G.2.2.1 r) :: st) σ Q := by
  unfold ri at hw
  by_cases h0 : r = 1000
  · subst h0
    rw [if_pos rfl] at hw
    cases hw
    intro p l e R s m args below meth c H locs cells slots Z A lsA C hP hD hS hl hr
    exact va_ti C.1 C.2.1 C.2.2.2.2.2.2.2.1.2.1 hS (inb_in hi) rfl hd (kk C hP hD hS hl hr)
  · rw [if_neg h0] at hw
    by_cases h1 : r = 1001
    · subst h1
      rw [if_pos rfl] at hw
      cases hw
      intro p l e R s m args below meth c H locs cells slots Z A lsA C hP hD hS hl hr
      exact va_ti C.1 C.2.1 C.2.2.2.2.2.2.2.1.2.2.1 hS (inb_in hi) rfl hd (kk C hP hD hS hl hr)
    · rw [if_neg h1] at hw
      have e : rv σ r i.toNatClampNeg = σ.1 r i.toNatClampNeg := by unfold rv; rw [if_neg h0, if_neg h1]
      rw [e] at kk
      exact AX.iald hd hw hi kk
theorem AX.alenR {r n : Nat} (hd : decode M.2.1 pc = .ok (.arraylength, 1)) (hw : ri r = some n) (kk : AX G M h k (pc + 1) ls (.int (Int32.ofNat n) :: st) σ Q) : AX G M h k pc ls (.ref (G.2.2.1 r) :: st) σ Q := by
  unfold ri at hw
  by_cases h0 : r = 1000
  · subst h0
    rw [if_pos rfl] at hw
    cases hw
    intro p l e R s m args below meth c H locs cells slots Z A lsA C hP hD hS hl hr
    exact va_tlen C.1 C.2.1 C.2.2.2.2.2.2.2.1.2.1 hS rfl hd (kk C hP hD hS hl hr)
  · rw [if_neg h0] at hw
    by_cases h1 : r = 1001
    · subst h1
      rw [if_pos rfl] at hw
      cases hw
      intro p l e R s m args below meth c H locs cells slots Z A lsA C hP hD hS hl hr
      exact va_tlen C.1 C.2.1 C.2.2.2.2.2.2.2.1.2.2.1 hS rfl hd (kk C hP hD hS hl hr)
    · rw [if_neg h1] at hw
      intro p l e R s m args below meth c H locs cells slots Z A lsA C hP hD hS hl hr
      obtain ⟨rs, ht⟩ := wi_tw hw
      exact va_alen C.1 C.2.1 C.2.2.2.2.2.2.1 hP r 0 (tw_at ht) (ty := .int) rfl rfl hd (kk C hP hD hS hl hr)
theorem AX.alenJ {r n : Nat} (hd : decode M.2.1 pc = .ok (.arraylength, 1)) (hw : wj r = some n) (kk : AX G M h k (pc + 1) ls (.int (Int32.ofNat n) :: st) σ Q) : AX G M h k pc ls (.ref (G.2.2.1 r) :: st) σ Q := by
  intro p l e R s m args below meth c H locs cells slots Z A lsA C hP hD hS hl hr
  obtain ⟨rs, ht⟩ := wj_tw hw
  exact va_alen C.1 C.2.1 C.2.2.2.2.2.2.1 hP r 1 (tw_at ht) (ty := .long) rfl rfl hd (kk C hP hD hS hl hr)
theorem AX.alenS (hd : decode M.2.1 pc = .ok (.arraylength, 1)) (kk : AX G M h k (pc + 1) ls (.int 4 :: st) σ Q) : AX G M h k pc ls (.ref (G.2.2.1 35) :: st) σ Q := by
  intro p l e R s m args below meth c H locs cells slots Z A lsA C hP hD hS hl hr
  exact va_alen C.1 C.2.1 C.2.2.2.2.2.2.1 hP 35 3 (tw_at (k := 35) rfl) (ty := .object "OneTriangle$Sheet") rfl rfl hd (kk C hP hD hS hl hr)
theorem AX.alenX (hd : decode M.2.1 pc = .ok (.arraylength, 1)) (kk : AX G M h k (pc + 1) ls (.int (Int32.ofNat G.2.2.2.1) :: st) σ Q) : AX G M h k pc ls (.ref (G.2.2.1 1002) :: st) σ Q := by
  intro p l e R s m args below meth c H locs cells slots Z A lsA C hP hD hS hl hr
  exact va_tlen C.1 C.2.1 C.2.2.2.2.2.2.2.1.2.2.2 hS rfl hd (kk C hP hD hS hl hr)
theorem AX.ialdX {i : Int32} (hd : decode M.2.1 pc = .ok (.iaload, 1)) (hi : inb i G.2.2.2.1 = true) (kk : AX G M h k (pc + 1) ls (.int (G.2.2.2.2 i.toNatClampNeg) :: st) σ Q) : AX G M h k pc ls (.int i :: .ref (G.2.2.1 1002) :: st) σ Q := by
  intro p l e R s m args below meth c H locs cells slots Z A lsA C hP hD hS hl hr
  exact va_ti C.1 C.2.1 C.2.2.2.2.2.2.2.1.2.2.2 hS (inb_in hi) rfl hd (kk C hP hD hS hl hr)
theorem AX.lald {r n : Nat} {i : Int32} (hd : decode M.2.1 pc = .ok (.laload, 1)) (hw : wj r = some n) (hi : inb i n = true) (kk : AX G M h k (pc + 1) ls (.long (σ.2 r i.toNatClampNeg) :: st) σ Q) : AX G M h k pc ls (.int i :: .ref (G.2.2.1 r) :: st) σ Q := by
  intro p l e R s m args below meth c H locs cells slots Z A lsA C hP hD hS hl hr
  obtain ⟨rs, ht⟩ := wj_tw hw
  exact va_lald C.1 C.2.1 C.2.2.2.2.2.2.1 hP r 1 (tw_at ht) rfl (inb_in hi) hd (kk C hP hD hS hl hr)
theorem AX.iast {r n : Nat} {i x : Int32} (hd : decode M.2.1 pc = .ok (.iastore, 1)) (hw : wi r = some n) (hi : inb i n = true) (kk : AX G M h k (pc + 1) ls st (sI σ r i.toNatClampNeg x) Q) : AX G M h k pc ls (.int x :: .int i :: .ref (G.2.2.1 r) :: st) σ Q := by
  intro p l e R s m args below meth c H locs cells slots Z A lsA C hP hD hS hl hr
  obtain ⟨rs, ht⟩ := wi_tw hw
  have hset : (tw_W G σ).set r (G.2.2.1 r, .inl (G.2.1 0, n, .inl (upd (σ.1 r) i.toNatClampNeg x))) = tw_W G (sI σ r i.toNatClampNeg x) := tw_set ht (by show Sum.inl (_, _, Sum.inl ((rI σ r _).1 r)) = _; rw [rI_own]) (fun q d' hq => rI_cell q d' hq)
  refine va_iast C.1 C.2.1 C.2.2.2.2.2.2.1 hP hD hS r 0 (tw_at ht) rfl (inb_in hi) hd (fun H1 locs1 hP1 hD1 hS1 => ?_)
  rw [hset] at hP1 hD1
  exact kk C hP1 hD1 hS1 hl hr
theorem AX.last {r n : Nat} {i : Int32} {x : Int64} (hd : decode M.2.1 pc = .ok (.lastore, 1)) (hw : wj r = some n) (hi : inb i n = true) (kk : AX G M h k (pc + 1) ls st (sL σ r i.toNatClampNeg x) Q) : AX G M h k pc ls (.long x :: .int i :: .ref (G.2.2.1 r) :: st) σ Q := by
  intro p l e R s m args below meth c H locs cells slots Z A lsA C hP hD hS hl hr
  obtain ⟨rs, ht⟩ := wj_tw hw
  have hset : (tw_W G σ).set r (G.2.2.1 r, .inl (G.2.1 1, n, .inr (.inl (vp_updL (σ.2 r) i.toNatClampNeg x)))) = tw_W G (sL σ r i.toNatClampNeg x) := tw_set ht (by show Sum.inl (_, _, Sum.inr (Sum.inl ((rL σ r _).2 r))) = _; rw [rL_own]) (fun q d' hq => rL_cell q d' hq)
  refine va_last C.1 C.2.1 C.2.2.2.2.2.2.1 hP hD hS r 1 (tw_at ht) rfl (inb_in hi) hd (fun H1 locs1 hP1 hD1 hS1 => ?_)
  rw [hset] at hP1 hD1
  exact kk C hP1 hD1 hS1 hl hr
theorem AX.zald {r n : Nat} {rs : List Nat} {i : Int32} (hd : decode M.2.1 pc = .ok (.baload, 1)) (ht : tw[r]? = some (.inr (2, n, rs))) (hi : inb i n = true) (kk : AX G M h k (pc + 1) ls (.int (σ.1 r i.toNatClampNeg) :: st) σ Q) : AX G M h k pc ls (.int i :: .ref (G.2.2.1 r) :: st) σ Q := by
  intro p l e R s m args below meth c H locs cells slots Z A lsA C hP hD hS hl hr
  exact va_zald C.1 C.2.1 C.2.2.2.2.2.2.1 hP r 2 (tw_at ht) rfl (inb_in hi) hd (kk C hP hD hS hl hr)
theorem AX.zast {r n : Nat} {rs : List Nat} {i x : Int32} (hd : decode M.2.1 pc = .ok (.bastore, 1)) (ht : tw[r]? = some (.inr (2, n, rs))) (hi : inb i n = true) (hx : vp_nar .boolean x = x) (kk : AX G M h k (pc + 1) ls st (sI σ r i.toNatClampNeg x) Q) : AX G M h k pc ls (.int x :: .int i :: .ref (G.2.2.1 r) :: st) σ Q := by
  intro p l e R s m args below meth c H locs cells slots Z A lsA C hP hD hS hl hr
  have hset : (tw_W G σ).set r (G.2.2.1 r, .inl (G.2.1 2, n, .inl (upd (σ.1 r) i.toNatClampNeg (vp_nar .boolean x)))) = tw_W G (sI σ r i.toNatClampNeg x) := tw_set ht (by show Sum.inl (_, _, Sum.inl ((rI σ r _).1 r)) = _; rw [rI_own, hx]) (fun q d' hq => rI_cell q d' hq)
  refine va_zast C.1 C.2.1 C.2.2.2.2.2.2.1 hP hD hS r 2 (tw_at ht) rfl (inb_in hi) hd (fun H1 locs1 hP1 hD1 hS1 => ?_)
  rw [hset] at hP1 hD1
  exact kk C hP1 hD1 hS1 hl hr
theorem AX.sheetld {i : Int32} (hd : decode M.2.1 pc = .ok (.aaload, 1)) (hi : inb i 4 = true) (kk : AX G M h k (pc + 1) ls (.ref (G.2.2.1 (36 + 2 * i.toNatClampNeg)) :: st) σ Q) : AX G M h k pc ls (.int i :: .ref (G.2.2.1 35) :: st) σ Q := by
  intro p l e R s m args below meth c H locs cells slots Z A lsA C hP hD hS hl hr
  refine va_aldq C.1 C.2.1 C.2.2.2.2.2.2.1 hP 35 3 (tw_at (k := 35) rfl) rfl (inb_in hi) hd ?_
  have hlt : i.toNatClampNeg < 4 := by
    unfold inb at hi
    simp only [Bool.and_eq_true, decide_eq_true_eq] at hi
    exact hi.2
  generalize i.toNatClampNeg = q at kk hlt ⊢
  match q, hlt, kk with
  | 0, _, kk => exact kk C hP hD hS hl hr
  | 1, _, kk => exact kk C hP hD hS hl hr
  | 2, _, kk => exact kk C hP hD hS hl hr
  | 3, _, kk => exact kk C hP hD hS hl hr
theorem AX.getsD {idx : Nat} (hd : decode M.2.1 pc = .ok (.getstatic idx, 3)) (hlk : Cond.fieldLink M.1 idx "OneTriangle" "DIGEST_NUMBERS" "[I" ∈ lw_gd) (kk : AX G M h k (pc + 3) ls (.ref (G.2.2.1 1000) :: st) σ Q) : AX G M h k pc ls st σ Q := by
  intro p l e R s m args below meth c H locs cells slots Z A lsA C hP hD hS hl hr
  exact va_gets C.1 C.2.1 C.2.2.2.2.2.2.2.1.1.1 hS C.2.2.2.1 (C.2.2.2.2.1 _ hlk) (fun _ h9 => h9) hd (kk C hP hD hS hl hr)
theorem AX.getsM {idx : Nat} (hd : decode M.2.1 pc = .ok (.getstatic idx, 3)) (hlk : Cond.fieldLink M.1 idx "OneTriangle$Settings" "MOST" "[I" ∈ lw_gd) (kk : AX G M h k (pc + 3) ls (.ref (G.2.2.1 1001) :: st) σ Q) : AX G M h k pc ls st σ Q := by
  intro p l e R s m args below meth c H locs cells slots Z A lsA C hP hD hS hl hr
  exact va_gets C.1 C.2.1 C.2.2.2.2.2.2.2.1.1.2 hS C.2.2.2.1 (C.2.2.2.2.1 _ hlk) (fun _ h9 => h9) hd (kk C hP hD hS hl hr)
def cpk (sp dp n : Int32) (n0 n1 : Nat) : Bool := decide (0 ≤ sp) && (decide (0 ≤ dp) && (decide (0 ≤ n) && (decide (sp.toNatClampNeg + n.toNatClampNeg ≤ n0) && decide (dp.toNatClampNeg + n.toNatClampNeg ≤ n1))))
def ac_ok (own : String) (idx : Nat) : Prop := Cond.methodLink own idx arraycopyName ∈ lw_gd ∧ Cond.native arraycopyName ∈ lw_gd ∧ Cond.static arraycopyName ∈ lw_gd ∧ Cond.initialized "java/lang/System" ∈ lw_gd
theorem AX.copyI {idx r0 r1 n0 n1 : Nat} {sp dp n : Int32} (hd : decode M.2.1 pc = .ok (.invokestatic idx, 3)) (hac : ac_ok M.1 idx) (hw0 : wi r0 = some n0) (hw1 : wi r1 = some n1) (hc : cpk sp dp n n0 n1 = true) (hcat : (st.map fun v => v.category).sum ≤ 8) (hh : 1 ≤ h ∧ 8 + (nativeFrameWords "java/lang/System" "arraycopy" 5 + 11) ≤ k)
    (kk : AX G M h k (pc + 3) ls st (rI σ r1 (va_cpy (σ.1 r0) (σ.1 r1) sp.toNatClampNeg dp.toNatClampNeg n.toNatClampNeg)) Q) : AX G M h k pc ls (.int n :: .int dp :: .ref (G.2.2.1 r1) :: .int sp :: .ref (G.2.2.1 r0) :: st) σ Q := by
  intro p l e R s m args below meth c H locs cells slots Z A lsA C hP hD hS hl hr
  obtain ⟨rs0, ht0⟩ := wi_tw hw0
  obtain ⟨rs1, ht1⟩ := wi_tw hw1
  unfold cpk at hc
  simp only [Bool.and_eq_true, decide_eq_true_eq] at hc
  have hset : (tw_W G σ).set r1 (G.2.2.1 r1, .inl (G.2.1 0, n1, .inl (va_cpy (σ.1 r0) (σ.1 r1) sp.toNatClampNeg dp.toNatClampNeg n.toNatClampNeg))) = tw_W G (rI σ r1 (va_cpy (σ.1 r0) (σ.1 r1) sp.toNatClampNeg dp.toNatClampNeg n.toNatClampNeg)) := tw_set ht1 (by show Sum.inl (_, _, Sum.inl ((rI σ r1 _).1 r1)) = _; rw [rI_own]) (fun q d' hq => rI_cell q d' hq)
  have hR := C.2.2.2.2.2.2.2.2.2.1
  refine va_copyi C.1 C.2.1 (C.2.2.1.trans hl.1.symm) C.2.2.2.1 (C.2.2.2.2.1 _ hac.1) (C.2.2.2.2.1 _ hac.2.1) (C.2.2.2.2.1 _ hac.2.2.1) (C.2.2.2.2.1 _ hac.2.2.2) C.2.2.2.2.2.2.1 hP hD hS r0 r1 0 0 (tw_at ht0) (tw_at ht1) rfl rfl rfl (Int32.not_lt.mpr hc.1) (Int32.not_lt.mpr hc.2.1) (Int32.not_lt.mpr hc.2.2.1) hc.2.2.2.1 hc.2.2.2.2 (fun _ _ => rfl) (Nat.le_trans hh.1 hR.1) (Nat.le_trans (Nat.le_trans (Nat.add_le_add_right hcat _) hh.2) hR.2) hd (fun H1 locs1 hP1 hD1 hS1 => ?_)
  rw [hset] at hP1 hD1
  exact kk C hP1 hD1 hS1 hl hr
theorem AX.copyL {idx r0 r1 n0 n1 : Nat} {sp dp n : Int32} (hd : decode M.2.1 pc = .ok (.invokestatic idx, 3)) (hac : ac_ok M.1 idx) (hw0 : wj r0 = some n0) (hw1 : wj r1 = some n1) (hc : cpk sp dp n n0 n1 = true) (hcat : (st.map fun v => v.category).sum ≤ 8) (hh : 1 ≤ h ∧ 8 + (nativeFrameWords "java/lang/System" "arraycopy" 5 + 11) ≤ k)
    (kk : AX G M h k (pc + 3) ls st (rL σ r1 (va_cpy (σ.2 r0) (σ.2 r1) sp.toNatClampNeg dp.toNatClampNeg n.toNatClampNeg)) Q) : AX G M h k pc ls (.int n :: .int dp :: .ref (G.2.2.1 r1) :: .int sp :: .ref (G.2.2.1 r0) :: st) σ Q := by
  intro p l e R s m args below meth c H locs cells slots Z A lsA C hP hD hS hl hr
  obtain ⟨rs0, ht0⟩ := wj_tw hw0
  obtain ⟨rs1, ht1⟩ := wj_tw hw1
  unfold cpk at hc
  simp only [Bool.and_eq_true, decide_eq_true_eq] at hc
  have hset : (tw_W G σ).set r1 (G.2.2.1 r1, .inl (G.2.1 1, n1, .inr (.inl (va_cpy (σ.2 r0) (σ.2 r1) sp.toNatClampNeg dp.toNatClampNeg n.toNatClampNeg)))) = tw_W G (rL σ r1 (va_cpy (σ.2 r0) (σ.2 r1) sp.toNatClampNeg dp.toNatClampNeg n.toNatClampNeg)) := tw_set ht1 (by show Sum.inl (_, _, Sum.inr (Sum.inl ((rL σ r1 _).2 r1))) = _; rw [rL_own]) (fun q d' hq => rL_cell q d' hq)
  have hR := C.2.2.2.2.2.2.2.2.2.1
  refine va_copyl C.1 C.2.1 (C.2.2.1.trans hl.1.symm) C.2.2.2.1 (C.2.2.2.2.1 _ hac.1) (C.2.2.2.2.1 _ hac.2.1) (C.2.2.2.2.1 _ hac.2.2.1) (C.2.2.2.2.1 _ hac.2.2.2) C.2.2.2.2.2.2.1 hP hD hS r0 r1 1 1 (tw_at ht0) (tw_at ht1) rfl rfl rfl (Int32.not_lt.mpr hc.1) (Int32.not_lt.mpr hc.2.1) (Int32.not_lt.mpr hc.2.2.1) hc.2.2.2.1 hc.2.2.2.2 (fun _ _ => rfl) (Nat.le_trans hh.1 hR.1) (Nat.le_trans (Nat.le_trans (Nat.add_le_add_right hcat _) hh.2) hR.2) hd (fun H1 locs1 hP1 hD1 hS1 => ?_)
  rw [hset] at hP1 hD1
  exact kk C hP1 hD1 hS1 hl hr
end AXM
theorem lw_nw_same {w : Cond} (h : w ∈ lw_nw) {u U : State} (hv : u.vm = U.vm) (hZ : va_Nw w u) : va_Nw w U := by
  have hn := (List.mem_filter.mp h).2
  cases w <;> first | exact va_Nw.same rfl hv hZ | (exfalso; revert hn; simp [lw_isN])
theorem ax_blind {G : ag_G} {σ : St} {sz : Nat} {As : List Value} : FrameBlind (va_Pc As (ax_B G σ sz)) := by
  intro a U g mk q
  obtain ⟨q0, q1, qP, qK, qD, qN, qS⟩ := q
  exact ⟨q0, q1, qP, va_K.moved (u := U) (U := U.calling g mk a) (Vm.Alike.refl U.vm) qK, qD, fun w hw => lw_nw_same hw (u := U) (U := U.calling g mk a) rfl (qN w hw), ax_St.moved (u := U) (U := U.calling g mk a) (Vm.Alike.refl U.vm) qS⟩
theorem ax_pre {G : ag_G} {M : am_M} {h k : Nat} {p : Program} {R : Room} {s : State} {m : MethodId} {args : Array Value} {c : Code} {A : Nat → Prop} {cells slots : Nat} {σ : St} {H : Heap} {locs : List Loc} (C : ax_C G M h k p R s m args c A cells slots) (hP : va_P G.1 classes (tw_W G σ) H) (hD : va_D A (tw_W G σ)) (hS : va_S A s.heap H locs) {As : List Value} : ∀ U : State, U.heap = H → s.WarmedH U.vm → va_Pc As (ax_B G σ H.size) As.toArray U := by
  intro U hU hW
  have hF : ∀ q, va_A (tw_W G σ) H.size q → A q := by
    intro q hq
    rcases hq with ⟨j, e, hj⟩ | hq
    · exact hD.2 j (q, e) hj
    · exact C.2.2.2.2.2.2.2.2.1 q (Nat.le_trans hS.1 hq)
  exact ⟨rfl, by rw [hU], by rw [hU]; exact hP, va_K.moved hW.alike C.2.2.2.2.2.2.1, hD.weaken (fun _ _ _ _ => trivial), fun w hw => lw_nw_warm hw hW (C.2.2.2.2.2.1 w hw), by rw [hU]; exact ((C.2.2.2.2.2.2.2.1.kept hS.2.1).narrow hF).moved hW.alike⟩
theorem ax_post {G : ag_G} {M : am_M} {h k : Nat} {p : Program} {l : Launch} {e : Env} {R : Room} {s : State} {m : MethodId} {args : Array Value} {below : List Frame} {meth : Method} {c : Code} {A : Nat → Prop} {cells slots : Nat} {σ : St} {H : Heap} {locs : List Loc} {pc : Nat} {lsA : Array Slot} {ls : List (Nat × Value)} {st rest : List Value} {Q Q' : Option Value → St → Prop} {Z : State → Prop} {a : Array Value}
    (C : ax_C G M h k p R s m args c A cells slots) (hD : va_D A (tw_W G σ)) (hS : va_S A s.heap H locs) (hl : lv_has lsA M.2.2.1 ls)
    (hr : ∀ (v : Option Value) (σ' : St) (H' : Heap) (locs' : List Loc) (pc' : Nat) (lsB : Array Slot), ax_R M pc' v → Q v σ' → va_P G.1 classes (tw_W G σ') H' → va_D A (tw_W G σ') → va_S A s.heap H' locs' → W p l e R s m args below meth c H' locs' cells slots Z (F0 m pc' lsB v.toList))
    (run : va_Run p l e R s m args below meth c H locs cells slots 0 0 (F0 m pc lsA st) rest (ax_Q G σ H.size Q' a) (va_A (tw_W G σ) H.size)) (kk : ∀ v σ', Q' v σ' → AX G M h k (pc + 3) ls (v.toList ++ rest) σ' Q) : W p l e R s m args below meth c H locs cells slots Z (F0 m pc lsA st) := by
  have hF : ∀ q, va_A (tw_W G σ) H.size q → A q := by
    intro q hq
    rcases hq with ⟨j, e, hj⟩ | hq
    · exact hD.2 j (q, e) hj
    · exact C.2.2.2.2.2.2.2.2.1 q (Nat.le_trans hS.1 hq)
  intro T hT X
  obtain ⟨v, st₀, t, T', L, h0, X', hL, e1, e2, ⟨⟨v1, σ', hv, hq, hP', hD'⟩, hz, hk⟩, stp⟩ := run T hT X
  cases hv
  rw [h0] at hz hk
  have hST : va_S A s.heap T'.heap (locs ++ L) := ⟨Nat.le_trans hS.1 (by rw [e1]; exact hz), fun q h1 h2 => by rw [e1, hk q (Nat.lt_of_lt_of_le h1 hS.1) (fun z => h2 (hF q z))]; exact hS.2.1 q h1 h2, fun q hq => by
    rcases List.mem_append.mp hq with h | h
    · exact hS.2.2 q h
    · exact hF _ (hL q h)⟩
  obtain ⟨t2, a1, b1⟩ := kk v σ' hq C (by rw [e1]; exact hP') (hD'.weaken (fun _ q _ hx => hF q.1 hx)) hST hl hr T' rfl X'
  exact ⟨t2, stp t2 a1, b1⟩
section AXK
variable {G : ag_G} {M : am_M} {h k pc : Nat} {ls : List (Nat × Value)} {st : List Value} {σ : St} {Q : Option Value → St → Prop}
theorem yl_gi {y : MethodName} {M' : am_M} {n : Nat} (hy : yl_ok y M' n) : GoodIn lw_gd (Cond.code y M'.2.1 M'.2.2.1 M'.2.2.2 :: lw_gd) := by
  intro w hw
  rcases List.mem_cons.mp hw with rfl | hw
  · exact ⟨hy.2.1, lw_gd_good hy.2.1⟩
  · exact lw_gd_gi w hw
theorem AX.callV {idx n ci r : Nat} {y : MethodName} {M' : am_M} {h' k' : Nat} {As rest : List Value} {fs : List (Option (Option Nat))} {Q' : Option Value → St → Prop} (hd : decode M.2.1 pc = .ok (.invokevirtual idx, 3)) (hlk : ml_ok M.1 idx y) (hy : yl_ok y M' n) (hv : yv_ok y ci) (ht : tw[r]? = some (.inl (ci, fs))) (hst : st = As.reverse ++ .ref (G.2.2.1 r) :: rest) (hn : As.length = n) (hcat : (rest.map fun v => v.category).sum ≤ 8) (hh : h' + 1 ≤ h ∧ 8 + (M'.2.2.1 + 11) + k' ≤ k)
    (hc : AC G y M' h' k' (.ref (G.2.2.1 r) :: As) σ Q') (kk : ∀ v σ', Q' v σ' → AX G M h k (pc + 3) ls (v.toList ++ rest) σ' Q) : AX G M h k pc ls st σ Q := by
  intro p l e R s m args below meth c H locs cells slots Z A lsA C hP hD hS hl hr
  obtain ⟨hin, Cn, T, N, hcl, hsel⟩ := hv
  have hR := C.2.2.2.2.2.2.2.2.2.1
  have hR' : h' + 1 ≤ R.frames ∧ 8 + (M'.2.2.1 + 11) + k' ≤ R.locals := ⟨Nat.le_trans hh.1 hR.1, Nat.le_trans hh.2 hR.2⟩
  have hf : cells + 0 ≤ R.cells ∧ slots + 0 ≤ R.slots := C.2.2.2.2.2.2.2.2.2.2
  have hrec := va_recv C.2.2.2.2.2.2.1 hP hcl (tw_at (G := G) (σ := σ) ht)
  have pre : PreV s H Cn (G.2.2.1 r) (va_Pc (.ref (G.2.2.1 r) :: As) (ax_B G σ H.size)) As := ⟨ax_blind, hrec, ax_pre C hP hD hS⟩
  rcases hlk with hlk | ⟨host, hlk⟩
  · refine ax_post C hD hS hl hr (va_runV (As := As) (rest := rest) (Ts := lw_gd) ⟨C.1, C.2.1, C.2.2.1, C.2.2.2.1, C.2.2.2.2.1⟩ (hc l H.size) ⟨callB_of n C.2.2.2.2.1 (yl_gi hy) rfl rfl rfl (C.2.2.2.2.1 _ hy.2.2) (C.2.2.2.2.1 _ hlk) hy.1 hR', C.2.2.2.2.1 _ hin, C.2.2.2.2.1 _ hsel⟩ pre rfl hn hl.1 hst (lv_room hcat) hd hf) kk
  · refine ax_post C hD hS hl hr (va_runVN (As := As) (rest := rest) (Ts := lw_gd) ⟨C.1, C.2.1, C.2.2.1, C.2.2.2.1, C.2.2.2.2.1⟩ (hc l H.size) ⟨va_cnB n C.2.2.2.2.1 (yl_gi hy) rfl rfl rfl (C.2.2.2.2.2.1 _ hlk) (C.2.2.2.2.1 _ hy.2.2) hy.1 hR', C.2.2.2.2.1 _ hin, C.2.2.2.2.1 _ hsel⟩ pre rfl hn hl.1 hst (lv_room hcat) hd hf) kk
theorem AX.callS {idx n : Nat} {y : MethodName} {M' : am_M} {h' k' : Nat} {As rest : List Value} {Q' : Option Value → St → Prop} (hd : decode M.2.1 pc = .ok (.invokestatic idx, 3)) (hlk : ml_ok M.1 idx y) (hy : yl_ok y M' n) (hs : Cond.static y ∈ lw_gd) (hst : st = As.reverse ++ rest) (hn : As.length = n) (hcat : (rest.map fun v => v.category).sum ≤ 8) (hh : h' + 1 ≤ h ∧ 8 + (M'.2.2.1 + 11) + k' ≤ k)
    (hc : AC G y M' h' k' As σ Q') (kk : ∀ v σ', Q' v σ' → AX G M h k (pc + 3) ls (v.toList ++ rest) σ' Q) : AX G M h k pc ls st σ Q := by
  intro p l e R s m args below meth c H locs cells slots Z A lsA C hP hD hS hl hr
  have hR := C.2.2.2.2.2.2.2.2.2.1
  have hR' : h' + 1 ≤ R.frames ∧ 8 + (M'.2.2.1 + 11) + k' ≤ R.locals := ⟨Nat.le_trans hh.1 hR.1, Nat.le_trans hh.2 hR.2⟩
  have hf : cells + 0 ≤ R.cells ∧ slots + 0 ≤ R.slots := C.2.2.2.2.2.2.2.2.2.2
  have pre : PreS s H (va_Pc As (ax_B G σ H.size)) As := ⟨ax_blind, ax_pre C hP hD hS⟩
  rcases hlk with hlk | ⟨host, hlk⟩
  · refine ax_post C hD hS hl hr (va_runS (As := As) (rest := rest) (Ts := lw_gd) ⟨C.1, C.2.1, C.2.2.1, C.2.2.2.1, C.2.2.2.2.1⟩ (hc l H.size) ⟨callB_of n C.2.2.2.2.1 (yl_gi hy) rfl rfl rfl (C.2.2.2.2.1 _ hy.2.2) (C.2.2.2.2.1 _ hlk) hy.1 hR', C.2.2.2.2.1 _ hs⟩ pre rfl hn hl.1 hst (lv_room hcat) hd hf) kk
  · refine ax_post C hD hS hl hr (va_runSN (As := As) (rest := rest) (Ts := lw_gd) ⟨C.1, C.2.1, C.2.2.1, C.2.2.2.1, C.2.2.2.2.1⟩ (hc l H.size) ⟨va_cnB n C.2.2.2.2.1 (yl_gi hy) rfl rfl rfl (C.2.2.2.2.2.1 _ hlk) (C.2.2.2.2.1 _ hy.2.2) hy.1 hR', C.2.2.2.2.1 _ hs, trivial⟩ pre rfl hn hl.1 hst (lv_room hcat) hd hf) kk
end AXK
end
