-- ===== PART A: goes FIRST, ahead of the names: the tables' words, and 'selects' of the private methods out of them =====
/-- a private method of a class that the tables say can be made, by its rows of tables_1 -/
def lw_okq (q : MethodName × Nat) : Prop := (q.1.cls ≠ "java/lang/invoke/MethodHandle" ∧ q.1.cls ≠ "java/lang/invoke/VarHandle") ∧ Cond.instantiable q.1.cls q.2 ∈ tables_1 ∧ Cond.privateMethod q.1 ∈ tables_1 ∧ Cond.instanceMethod q.1 ∈ tables_1
theorem lw_p0 : lw_okq (⟨"OneTriangle$Piece", "understand", "()V"⟩, 10) := ⟨⟨by decide +kernel, by decide +kernel⟩, List.mem_of_getElem? (i := 26) (by decide +kernel), List.mem_of_getElem? (i := 288) (by decide +kernel), List.mem_of_getElem? (i := 289) (by decide +kernel)⟩
theorem lw_p1 : lw_okq (⟨"OneTriangle$Piece", "byteAt", "(I)I"⟩, 10) := ⟨⟨by decide +kernel, by decide +kernel⟩, List.mem_of_getElem? (i := 26) (by decide +kernel), List.mem_of_getElem? (i := 292) (by decide +kernel), List.mem_of_getElem? (i := 293) (by decide +kernel)⟩
theorem lw_p2 : lw_okq (⟨"OneTriangle$Piece", "passed", "(I)I"⟩, 10) := ⟨⟨by decide +kernel, by decide +kernel⟩, List.mem_of_getElem? (i := 26) (by decide +kernel), List.mem_of_getElem? (i := 299) (by decide +kernel), List.mem_of_getElem? (i := 300) (by decide +kernel)⟩
theorem lw_p3 : lw_okq (⟨"OneTriangle$Piece", "passedPlain", "(I)I"⟩, 10) := ⟨⟨by decide +kernel, by decide +kernel⟩, List.mem_of_getElem? (i := 26) (by decide +kernel), List.mem_of_getElem? (i := 303) (by decide +kernel), List.mem_of_getElem? (i := 304) (by decide +kernel)⟩
theorem lw_p4 : lw_okq (⟨"OneTriangle$Piece", "faultAt", "(I)I"⟩, 10) := ⟨⟨by decide +kernel, by decide +kernel⟩, List.mem_of_getElem? (i := 26) (by decide +kernel), List.mem_of_getElem? (i := 308) (by decide +kernel), List.mem_of_getElem? (i := 309) (by decide +kernel)⟩
theorem lw_p5 : lw_okq (⟨"OneTriangle$Piece", "addBars", "(II)Z"⟩, 10) := ⟨⟨by decide +kernel, by decide +kernel⟩, List.mem_of_getElem? (i := 26) (by decide +kernel), List.mem_of_getElem? (i := 312) (by decide +kernel), List.mem_of_getElem? (i := 313) (by decide +kernel)⟩
theorem lw_p6 : lw_okq (⟨"OneTriangle$Piece", "passedLoose", "(II)I"⟩, 10) := ⟨⟨by decide +kernel, by decide +kernel⟩, List.mem_of_getElem? (i := 26) (by decide +kernel), List.mem_of_getElem? (i := 319) (by decide +kernel), List.mem_of_getElem? (i := 320) (by decide +kernel)⟩
theorem lw_p7 : lw_okq (⟨"OneTriangle$Piece", "passedCue", "(I)I"⟩, 10) := ⟨⟨by decide +kernel, by decide +kernel⟩, List.mem_of_getElem? (i := 26) (by decide +kernel), List.mem_of_getElem? (i := 323) (by decide +kernel), List.mem_of_getElem? (i := 324) (by decide +kernel)⟩
theorem lw_p8 : lw_okq (⟨"OneTriangle", "sheetAt", "(I)LOneTriangle$Sheet;"⟩, 13) := ⟨⟨by decide +kernel, by decide +kernel⟩, List.mem_of_getElem? (i := 18) (by decide +kernel), List.mem_of_getElem? (i := 403) (by decide +kernel), List.mem_of_getElem? (i := 404) (by decide +kernel)⟩
theorem lw_p9 : lw_okq (⟨"OneTriangle", "found", "(I)I"⟩, 13) := ⟨⟨by decide +kernel, by decide +kernel⟩, List.mem_of_getElem? (i := 18) (by decide +kernel), List.mem_of_getElem? (i := 407) (by decide +kernel), List.mem_of_getElem? (i := 408) (by decide +kernel)⟩
theorem lw_p10 : lw_okq (⟨"OneTriangle", "addNote", "(III)I"⟩, 13) := ⟨⟨by decide +kernel, by decide +kernel⟩, List.mem_of_getElem? (i := 18) (by decide +kernel), List.mem_of_getElem? (i := 431) (by decide +kernel), List.mem_of_getElem? (i := 432) (by decide +kernel)⟩
theorem lw_p11 : lw_okq (⟨"OneTriangle", "refreshWays", "()V"⟩, 13) := ⟨⟨by decide +kernel, by decide +kernel⟩, List.mem_of_getElem? (i := 18) (by decide +kernel), List.mem_of_getElem? (i := 458) (by decide +kernel), List.mem_of_getElem? (i := 459) (by decide +kernel)⟩
theorem lw_p12 : lw_okq (⟨"OneTriangle$Ways", "pass", "(II)V"⟩, 8) := ⟨⟨by decide +kernel, by decide +kernel⟩, List.mem_of_getElem? (i := 113) (by decide +kernel), List.mem_of_getElem? (i := 476) (by decide +kernel), List.mem_of_getElem? (i := 477) (by decide +kernel)⟩
theorem lw_p13 : lw_okq (⟨"OneTriangle$Ways", "addSaid", "(IIJ)V"⟩, 8) := ⟨⟨by decide +kernel, by decide +kernel⟩, List.mem_of_getElem? (i := 113) (by decide +kernel), List.mem_of_getElem? (i := 490) (by decide +kernel), List.mem_of_getElem? (i := 491) (by decide +kernel)⟩
theorem lw_p14 : lw_okq (⟨"OneTriangle", "costAbove", "(I)J"⟩, 13) := ⟨⟨by decide +kernel, by decide +kernel⟩, List.mem_of_getElem? (i := 18) (by decide +kernel), List.mem_of_getElem? (i := 528) (by decide +kernel), List.mem_of_getElem? (i := 529) (by decide +kernel)⟩
theorem lw_p15 : lw_okq (⟨"OneTriangle$Spread", "drift", "(III)V"⟩, 3) := ⟨⟨by decide +kernel, by decide +kernel⟩, List.mem_of_getElem? (i := 145) (by decide +kernel), List.mem_of_getElem? (i := 555) (by decide +kernel), List.mem_of_getElem? (i := 556) (by decide +kernel)⟩
def lw_privs_1 : List (MethodName × Nat) := [(⟨"OneTriangle$Piece", "understand", "()V"⟩, 10), (⟨"OneTriangle$Piece", "byteAt", "(I)I"⟩, 10), (⟨"OneTriangle$Piece", "passed", "(I)I"⟩, 10), (⟨"OneTriangle$Piece", "passedPlain", "(I)I"⟩, 10), (⟨"OneTriangle$Piece", "faultAt", "(I)I"⟩, 10), (⟨"OneTriangle$Piece", "addBars", "(II)Z"⟩, 10), (⟨"OneTriangle$Piece", "passedLoose", "(II)I"⟩, 10), (⟨"OneTriangle$Piece", "passedCue", "(I)I"⟩, 10), (⟨"OneTriangle", "sheetAt", "(I)LOneTriangle$Sheet;"⟩, 13), (⟨"OneTriangle", "found", "(I)I"⟩, 13), (⟨"OneTriangle", "addNote", "(III)I"⟩, 13), (⟨"OneTriangle", "refreshWays", "()V"⟩, 13), (⟨"OneTriangle$Ways", "pass", "(II)V"⟩, 8), (⟨"OneTriangle$Ways", "addSaid", "(IIJ)V"⟩, 8), (⟨"OneTriangle", "costAbove", "(I)J"⟩, 13), (⟨"OneTriangle$Spread", "drift", "(III)V"⟩, 3)]
theorem lw_r1 : ∀ q ∈ lw_privs_1, lw_okq q := List.forall_mem_cons.mpr ⟨lw_p0, List.forall_mem_cons.mpr ⟨lw_p1, List.forall_mem_cons.mpr ⟨lw_p2, List.forall_mem_cons.mpr ⟨lw_p3, List.forall_mem_cons.mpr ⟨lw_p4, List.forall_mem_cons.mpr ⟨lw_p5, List.forall_mem_cons.mpr ⟨lw_p6, List.forall_mem_cons.mpr ⟨lw_p7, List.forall_mem_cons.mpr ⟨lw_p8, List.forall_mem_cons.mpr ⟨lw_p9, List.forall_mem_cons.mpr ⟨lw_p10, List.forall_mem_cons.mpr ⟨lw_p11, List.forall_mem_cons.mpr ⟨lw_p12, List.forall_mem_cons.mpr ⟨lw_p13, List.forall_mem_cons.mpr ⟨lw_p14, List.forall_mem_cons.mpr ⟨lw_p15, fun _ h => absurd h List.not_mem_nil⟩⟩⟩⟩⟩⟩⟩⟩⟩⟩⟩⟩⟩⟩⟩⟩
theorem lw_p16 : lw_okq (⟨"OneTriangle$Spread", "gather", "(I)V"⟩, 3) := ⟨⟨by decide +kernel, by decide +kernel⟩, List.mem_of_getElem? (i := 145) (by decide +kernel), List.mem_of_getElem? (i := 564) (by decide +kernel), List.mem_of_getElem? (i := 565) (by decide +kernel)⟩
theorem lw_p17 : lw_okq (⟨"OneTriangle", "safety", "(I)J"⟩, 13) := ⟨⟨by decide +kernel, by decide +kernel⟩, List.mem_of_getElem? (i := 18) (by decide +kernel), List.mem_of_getElem? (i := 584) (by decide +kernel), List.mem_of_getElem? (i := 585) (by decide +kernel)⟩
theorem lw_p18 : lw_okq (⟨"OneTriangle", "comeTo", "(I)Z"⟩, 13) := ⟨⟨by decide +kernel, by decide +kernel⟩, List.mem_of_getElem? (i := 18) (by decide +kernel), List.mem_of_getElem? (i := 615) (by decide +kernel), List.mem_of_getElem? (i := 616) (by decide +kernel)⟩
theorem lw_p19 : lw_okq (⟨"OneTriangle", "trueLater", "()J"⟩, 13) := ⟨⟨by decide +kernel, by decide +kernel⟩, List.mem_of_getElem? (i := 18) (by decide +kernel), List.mem_of_getElem? (i := 620) (by decide +kernel), List.mem_of_getElem? (i := 621) (by decide +kernel)⟩
theorem lw_p20 : lw_okq (⟨"OneTriangle$Diary", "isWrong", "(I)Z"⟩, 3) := ⟨⟨by decide +kernel, by decide +kernel⟩, List.mem_of_getElem? (i := 184) (by decide +kernel), List.mem_of_getElem? (i := 683) (by decide +kernel), List.mem_of_getElem? (i := 684) (by decide +kernel)⟩
theorem lw_p21 : lw_okq (⟨"OneTriangle", "slipOfNight", "()I"⟩, 13) := ⟨⟨by decide +kernel, by decide +kernel⟩, List.mem_of_getElem? (i := 18) (by decide +kernel), List.mem_of_getElem? (i := 701) (by decide +kernel), List.mem_of_getElem? (i := 702) (by decide +kernel)⟩
theorem lw_p22 : lw_okq (⟨"OneTriangleModel", "faultNow", "()I"⟩, 36) := ⟨⟨by decide +kernel, by decide +kernel⟩, List.mem_of_getElem? (i := 788) (by decide +kernel), List.mem_of_getElem? (i := 923) (by decide +kernel), List.mem_of_getElem? (i := 924) (by decide +kernel)⟩
theorem lw_p23 : lw_okq (⟨"OneTriangleModel", "readsPiece", "()I"⟩, 36) := ⟨⟨by decide +kernel, by decide +kernel⟩, List.mem_of_getElem? (i := 788) (by decide +kernel), List.mem_of_getElem? (i := 927) (by decide +kernel), List.mem_of_getElem? (i := 928) (by decide +kernel)⟩
theorem lw_p24 : lw_okq (⟨"OneTriangleModel", "figureAt", "(I)I"⟩, 36) := ⟨⟨by decide +kernel, by decide +kernel⟩, List.mem_of_getElem? (i := 788) (by decide +kernel), List.mem_of_getElem? (i := 931) (by decide +kernel), List.mem_of_getElem? (i := 932) (by decide +kernel)⟩
theorem lw_p25 : lw_okq (⟨"OneTriangleModel", "adds", "(II)V"⟩, 36) := ⟨⟨by decide +kernel, by decide +kernel⟩, List.mem_of_getElem? (i := 788) (by decide +kernel), List.mem_of_getElem? (i := 935) (by decide +kernel), List.mem_of_getElem? (i := 936) (by decide +kernel)⟩
theorem lw_p26 : lw_okq (⟨"OneTriangleModel", "isBar", "(I)Z"⟩, 36) := ⟨⟨by decide +kernel, by decide +kernel⟩, List.mem_of_getElem? (i := 788) (by decide +kernel), List.mem_of_getElem? (i := 943) (by decide +kernel), List.mem_of_getElem? (i := 944) (by decide +kernel)⟩
theorem lw_p27 : lw_okq (⟨"OneTriangleModel", "reads", "()V"⟩, 36) := ⟨⟨by decide +kernel, by decide +kernel⟩, List.mem_of_getElem? (i := 788) (by decide +kernel), List.mem_of_getElem? (i := 947) (by decide +kernel), List.mem_of_getElem? (i := 948) (by decide +kernel)⟩
theorem lw_p28 : lw_okq (⟨"OneTriangleModel", "barOf", "(II)I"⟩, 36) := ⟨⟨by decide +kernel, by decide +kernel⟩, List.mem_of_getElem? (i := 788) (by decide +kernel), List.mem_of_getElem? (i := 951) (by decide +kernel), List.mem_of_getElem? (i := 952) (by decide +kernel)⟩
theorem lw_p29 : lw_okq (⟨"OneTriangleModel", "meets", "(I)I"⟩, 36) := ⟨⟨by decide +kernel, by decide +kernel⟩, List.mem_of_getElem? (i := 788) (by decide +kernel), List.mem_of_getElem? (i := 970) (by decide +kernel), List.mem_of_getElem? (i := 971) (by decide +kernel)⟩
theorem lw_p30 : lw_okq (⟨"OneTriangleModel", "notesMore", "(III)I"⟩, 36) := ⟨⟨by decide +kernel, by decide +kernel⟩, List.mem_of_getElem? (i := 788) (by decide +kernel), List.mem_of_getElem? (i := 981) (by decide +kernel), List.mem_of_getElem? (i := 982) (by decide +kernel)⟩
theorem lw_p31 : lw_okq (⟨"OneTriangleModel", "whereOf", "(III)J"⟩, 36) := ⟨⟨by decide +kernel, by decide +kernel⟩, List.mem_of_getElem? (i := 788) (by decide +kernel), List.mem_of_getElem? (i := 997) (by decide +kernel), List.mem_of_getElem? (i := 998) (by decide +kernel)⟩
def lw_privs_2 : List (MethodName × Nat) := [(⟨"OneTriangle$Spread", "gather", "(I)V"⟩, 3), (⟨"OneTriangle", "safety", "(I)J"⟩, 13), (⟨"OneTriangle", "comeTo", "(I)Z"⟩, 13), (⟨"OneTriangle", "trueLater", "()J"⟩, 13), (⟨"OneTriangle$Diary", "isWrong", "(I)Z"⟩, 3), (⟨"OneTriangle", "slipOfNight", "()I"⟩, 13), (⟨"OneTriangleModel", "faultNow", "()I"⟩, 36), (⟨"OneTriangleModel", "readsPiece", "()I"⟩, 36), (⟨"OneTriangleModel", "figureAt", "(I)I"⟩, 36), (⟨"OneTriangleModel", "adds", "(II)V"⟩, 36), (⟨"OneTriangleModel", "isBar", "(I)Z"⟩, 36), (⟨"OneTriangleModel", "reads", "()V"⟩, 36), (⟨"OneTriangleModel", "barOf", "(II)I"⟩, 36), (⟨"OneTriangleModel", "meets", "(I)I"⟩, 36), (⟨"OneTriangleModel", "notesMore", "(III)I"⟩, 36), (⟨"OneTriangleModel", "whereOf", "(III)J"⟩, 36)]
theorem lw_r2 : ∀ q ∈ lw_privs_2, lw_okq q := List.forall_mem_cons.mpr ⟨lw_p16, List.forall_mem_cons.mpr ⟨lw_p17, List.forall_mem_cons.mpr ⟨lw_p18, List.forall_mem_cons.mpr ⟨lw_p19, List.forall_mem_cons.mpr ⟨lw_p20, List.forall_mem_cons.mpr ⟨lw_p21, List.forall_mem_cons.mpr ⟨lw_p22, List.forall_mem_cons.mpr ⟨lw_p23, List.forall_mem_cons.mpr ⟨lw_p24, List.forall_mem_cons.mpr ⟨lw_p25, List.forall_mem_cons.mpr ⟨lw_p26, List.forall_mem_cons.mpr ⟨lw_p27, List.forall_mem_cons.mpr ⟨lw_p28, List.forall_mem_cons.mpr ⟨lw_p29, List.forall_mem_cons.mpr ⟨lw_p30, List.forall_mem_cons.mpr ⟨lw_p31, fun _ h => absurd h List.not_mem_nil⟩⟩⟩⟩⟩⟩⟩⟩⟩⟩⟩⟩⟩⟩⟩⟩
theorem lw_p32 : lw_okq (⟨"OneTriangleModel", "findsWhere", "(I)V"⟩, 36) := ⟨⟨by decide +kernel, by decide +kernel⟩, List.mem_of_getElem? (i := 788) (by decide +kernel), List.mem_of_getElem? (i := 1001) (by decide +kernel), List.mem_of_getElem? (i := 1002) (by decide +kernel)⟩
theorem lw_p33 : lw_okq (⟨"OneTriangleModel", "saysOdds", "(II)I"⟩, 36) := ⟨⟨by decide +kernel, by decide +kernel⟩, List.mem_of_getElem? (i := 788) (by decide +kernel), List.mem_of_getElem? (i := 1006) (by decide +kernel), List.mem_of_getElem? (i := 1007) (by decide +kernel)⟩
theorem lw_p34 : lw_okq (⟨"OneTriangleModel", "notesWeigh", "(II)J"⟩, 36) := ⟨⟨by decide +kernel, by decide +kernel⟩, List.mem_of_getElem? (i := 788) (by decide +kernel), List.mem_of_getElem? (i := 1010) (by decide +kernel), List.mem_of_getElem? (i := 1011) (by decide +kernel)⟩
theorem lw_p35 : lw_okq (⟨"OneTriangleModel", "likeliestOf", "(I)I"⟩, 36) := ⟨⟨by decide +kernel, by decide +kernel⟩, List.mem_of_getElem? (i := 788) (by decide +kernel), List.mem_of_getElem? (i := 1025) (by decide +kernel), List.mem_of_getElem? (i := 1026) (by decide +kernel)⟩
theorem lw_p36 : lw_okq (⟨"OneTriangleModel", "strikeOf", "(II)J"⟩, 36) := ⟨⟨by decide +kernel, by decide +kernel⟩, List.mem_of_getElem? (i := 788) (by decide +kernel), List.mem_of_getElem? (i := 1033) (by decide +kernel), List.mem_of_getElem? (i := 1034) (by decide +kernel)⟩
theorem lw_p37 : lw_okq (⟨"OneTriangleModel", "lineNow", "()I"⟩, 36) := ⟨⟨by decide +kernel, by decide +kernel⟩, List.mem_of_getElem? (i := 788) (by decide +kernel), List.mem_of_getElem? (i := 1041) (by decide +kernel), List.mem_of_getElem? (i := 1042) (by decide +kernel)⟩
theorem lw_p38 : lw_okq (⟨"OneTriangleModel", "slipsOf", "(III)J"⟩, 36) := ⟨⟨by decide +kernel, by decide +kernel⟩, List.mem_of_getElem? (i := 788) (by decide +kernel), List.mem_of_getElem? (i := 1052) (by decide +kernel), List.mem_of_getElem? (i := 1053) (by decide +kernel)⟩
theorem lw_p39 : lw_okq (⟨"OneTriangleModel", "findsSlips", "(III)V"⟩, 36) := ⟨⟨by decide +kernel, by decide +kernel⟩, List.mem_of_getElem? (i := 788) (by decide +kernel), List.mem_of_getElem? (i := 1056) (by decide +kernel), List.mem_of_getElem? (i := 1057) (by decide +kernel)⟩
theorem lw_p40 : lw_okq (⟨"OneTriangleModel", "slipLoose", "(II)V"⟩, 36) := ⟨⟨by decide +kernel, by decide +kernel⟩, List.mem_of_getElem? (i := 788) (by decide +kernel), List.mem_of_getElem? (i := 1060) (by decide +kernel), List.mem_of_getElem? (i := 1061) (by decide +kernel)⟩
theorem lw_p41 : lw_okq (⟨"OneTriangleModel", "missedIn", "(II)I"⟩, 36) := ⟨⟨by decide +kernel, by decide +kernel⟩, List.mem_of_getElem? (i := 788) (by decide +kernel), List.mem_of_getElem? (i := 1064) (by decide +kernel), List.mem_of_getElem? (i := 1065) (by decide +kernel)⟩
theorem lw_p42 : lw_okq (⟨"OneTriangleModel", "isSome", "(I)Z"⟩, 36) := ⟨⟨by decide +kernel, by decide +kernel⟩, List.mem_of_getElem? (i := 788) (by decide +kernel), List.mem_of_getElem? (i := 1075) (by decide +kernel), List.mem_of_getElem? (i := 1076) (by decide +kernel)⟩
theorem lw_p43 : lw_okq (⟨"OneTriangleModel", "safeOf", "(II)J"⟩, 36) := ⟨⟨by decide +kernel, by decide +kernel⟩, List.mem_of_getElem? (i := 788) (by decide +kernel), List.mem_of_getElem? (i := 1082) (by decide +kernel), List.mem_of_getElem? (i := 1083) (by decide +kernel)⟩
theorem lw_p44 : lw_okq (⟨"OneTriangleModel", "safeBy", "(I)J"⟩, 36) := ⟨⟨by decide +kernel, by decide +kernel⟩, List.mem_of_getElem? (i := 788) (by decide +kernel), List.mem_of_getElem? (i := 1086) (by decide +kernel), List.mem_of_getElem? (i := 1087) (by decide +kernel)⟩
theorem lw_p45 : lw_okq (⟨"OneTriangleModel", "cuesNow", "()I"⟩, 36) := ⟨⟨by decide +kernel, by decide +kernel⟩, List.mem_of_getElem? (i := 788) (by decide +kernel), List.mem_of_getElem? (i := 1094) (by decide +kernel), List.mem_of_getElem? (i := 1095) (by decide +kernel)⟩
theorem lw_p46 : lw_okq (⟨"OneTriangleModel", "writeOf", "(I)I"⟩, 36) := ⟨⟨by decide +kernel, by decide +kernel⟩, List.mem_of_getElem? (i := 788) (by decide +kernel), List.mem_of_getElem? (i := 1098) (by decide +kernel), List.mem_of_getElem? (i := 1099) (by decide +kernel)⟩
theorem lw_p47 : lw_okq (⟨"OneTriangleModel", "fewOf", "(I)I"⟩, 36) := ⟨⟨by decide +kernel, by decide +kernel⟩, List.mem_of_getElem? (i := 788) (by decide +kernel), List.mem_of_getElem? (i := 1107) (by decide +kernel), List.mem_of_getElem? (i := 1108) (by decide +kernel)⟩
def lw_privs_3 : List (MethodName × Nat) := [(⟨"OneTriangleModel", "findsWhere", "(I)V"⟩, 36), (⟨"OneTriangleModel", "saysOdds", "(II)I"⟩, 36), (⟨"OneTriangleModel", "notesWeigh", "(II)J"⟩, 36), (⟨"OneTriangleModel", "likeliestOf", "(I)I"⟩, 36), (⟨"OneTriangleModel", "strikeOf", "(II)J"⟩, 36), (⟨"OneTriangleModel", "lineNow", "()I"⟩, 36), (⟨"OneTriangleModel", "slipsOf", "(III)J"⟩, 36), (⟨"OneTriangleModel", "findsSlips", "(III)V"⟩, 36), (⟨"OneTriangleModel", "slipLoose", "(II)V"⟩, 36), (⟨"OneTriangleModel", "missedIn", "(II)I"⟩, 36), (⟨"OneTriangleModel", "isSome", "(I)Z"⟩, 36), (⟨"OneTriangleModel", "safeOf", "(II)J"⟩, 36), (⟨"OneTriangleModel", "safeBy", "(I)J"⟩, 36), (⟨"OneTriangleModel", "cuesNow", "()I"⟩, 36), (⟨"OneTriangleModel", "writeOf", "(I)I"⟩, 36), (⟨"OneTriangleModel", "fewOf", "(I)I"⟩, 36)]
theorem lw_r3 : ∀ q ∈ lw_privs_3, lw_okq q := List.forall_mem_cons.mpr ⟨lw_p32, List.forall_mem_cons.mpr ⟨lw_p33, List.forall_mem_cons.mpr ⟨lw_p34, List.forall_mem_cons.mpr ⟨lw_p35, List.forall_mem_cons.mpr ⟨lw_p36, List.forall_mem_cons.mpr ⟨lw_p37, List.forall_mem_cons.mpr ⟨lw_p38, List.forall_mem_cons.mpr ⟨lw_p39, List.forall_mem_cons.mpr ⟨lw_p40, List.forall_mem_cons.mpr ⟨lw_p41, List.forall_mem_cons.mpr ⟨lw_p42, List.forall_mem_cons.mpr ⟨lw_p43, List.forall_mem_cons.mpr ⟨lw_p44, List.forall_mem_cons.mpr ⟨lw_p45, List.forall_mem_cons.mpr ⟨lw_p46, List.forall_mem_cons.mpr ⟨lw_p47, fun _ h => absurd h List.not_mem_nil⟩⟩⟩⟩⟩⟩⟩⟩⟩⟩⟩⟩⟩⟩⟩⟩
theorem lw_p48 : lw_okq (⟨"OneTriangleModel", "anewOf", "(I)I"⟩, 36) := ⟨⟨by decide +kernel, by decide +kernel⟩, List.mem_of_getElem? (i := 788) (by decide +kernel), List.mem_of_getElem? (i := 1115) (by decide +kernel), List.mem_of_getElem? (i := 1116) (by decide +kernel)⟩
theorem lw_p49 : lw_okq (⟨"OneTriangleModel", "eveningOf", "(II)J"⟩, 36) := ⟨⟨by decide +kernel, by decide +kernel⟩, List.mem_of_getElem? (i := 788) (by decide +kernel), List.mem_of_getElem? (i := 1127) (by decide +kernel), List.mem_of_getElem? (i := 1128) (by decide +kernel)⟩
theorem lw_p50 : lw_okq (⟨"OneTriangleModel", "eveningBy", "(I)J"⟩, 36) := ⟨⟨by decide +kernel, by decide +kernel⟩, List.mem_of_getElem? (i := 788) (by decide +kernel), List.mem_of_getElem? (i := 1131) (by decide +kernel), List.mem_of_getElem? (i := 1132) (by decide +kernel)⟩
theorem lw_p51 : lw_okq (⟨"OneTriangleModel", "primeOf", "(I)I"⟩, 36) := ⟨⟨by decide +kernel, by decide +kernel⟩, List.mem_of_getElem? (i := 788) (by decide +kernel), List.mem_of_getElem? (i := 1139) (by decide +kernel), List.mem_of_getElem? (i := 1140) (by decide +kernel)⟩
theorem lw_p52 : lw_okq (⟨"OneTriangleModel", "worthOf", "(I)I"⟩, 36) := ⟨⟨by decide +kernel, by decide +kernel⟩, List.mem_of_getElem? (i := 788) (by decide +kernel), List.mem_of_getElem? (i := 1155) (by decide +kernel), List.mem_of_getElem? (i := 1156) (by decide +kernel)⟩
theorem lw_p53 : lw_okq (⟨"OneTriangleModel", "looksBy", "(I)I"⟩, 36) := ⟨⟨by decide +kernel, by decide +kernel⟩, List.mem_of_getElem? (i := 788) (by decide +kernel), List.mem_of_getElem? (i := 1159) (by decide +kernel), List.mem_of_getElem? (i := 1160) (by decide +kernel)⟩
theorem lw_p54 : lw_okq (⟨"OneTriangleModel", "lookOf", "(I)I"⟩, 36) := ⟨⟨by decide +kernel, by decide +kernel⟩, List.mem_of_getElem? (i := 788) (by decide +kernel), List.mem_of_getElem? (i := 1167) (by decide +kernel), List.mem_of_getElem? (i := 1168) (by decide +kernel)⟩
theorem lw_p55 : lw_okq (⟨"OneTriangleModel", "wrongOf", "(I)I"⟩, 36) := ⟨⟨by decide +kernel, by decide +kernel⟩, List.mem_of_getElem? (i := 788) (by decide +kernel), List.mem_of_getElem? (i := 1183) (by decide +kernel), List.mem_of_getElem? (i := 1184) (by decide +kernel)⟩
theorem lw_p56 : lw_okq (⟨"OneTriangleModel", "blameNow", "()I"⟩, 36) := ⟨⟨by decide +kernel, by decide +kernel⟩, List.mem_of_getElem? (i := 788) (by decide +kernel), List.mem_of_getElem? (i := 1191) (by decide +kernel), List.mem_of_getElem? (i := 1192) (by decide +kernel)⟩
theorem lw_p57 : lw_okq (⟨"OneTriangleModel", "nightOf", "(II)I"⟩, 36) := ⟨⟨by decide +kernel, by decide +kernel⟩, List.mem_of_getElem? (i := 788) (by decide +kernel), List.mem_of_getElem? (i := 1199) (by decide +kernel), List.mem_of_getElem? (i := 1200) (by decide +kernel)⟩
theorem lw_p58 : lw_okq (⟨"OneTriangleModel", "lacks", "(III)I"⟩, 36) := ⟨⟨by decide +kernel, by decide +kernel⟩, List.mem_of_getElem? (i := 788) (by decide +kernel), List.mem_of_getElem? (i := 1216) (by decide +kernel), List.mem_of_getElem? (i := 1217) (by decide +kernel)⟩
theorem lw_p59 : lw_okq (⟨"OneTriangleModel", "keep", "(III)V"⟩, 36) := ⟨⟨by decide +kernel, by decide +kernel⟩, List.mem_of_getElem? (i := 788) (by decide +kernel), List.mem_of_getElem? (i := 1220) (by decide +kernel), List.mem_of_getElem? (i := 1221) (by decide +kernel)⟩
theorem lw_p60 : lw_okq (⟨"OneTriangleModel", "readsMany", "(I)I"⟩, 36) := ⟨⟨by decide +kernel, by decide +kernel⟩, List.mem_of_getElem? (i := 788) (by decide +kernel), List.mem_of_getElem? (i := 1241) (by decide +kernel), List.mem_of_getElem? (i := 1242) (by decide +kernel)⟩
theorem lw_p61 : lw_okq (⟨"OneTriangleModel", "numberDigest", "(JI)J"⟩, 36) := ⟨⟨by decide +kernel, by decide +kernel⟩, List.mem_of_getElem? (i := 788) (by decide +kernel), List.mem_of_getElem? (i := 1252) (by decide +kernel), List.mem_of_getElem? (i := 1253) (by decide +kernel)⟩
def lw_privs_4 : List (MethodName × Nat) := [(⟨"OneTriangleModel", "anewOf", "(I)I"⟩, 36), (⟨"OneTriangleModel", "eveningOf", "(II)J"⟩, 36), (⟨"OneTriangleModel", "eveningBy", "(I)J"⟩, 36), (⟨"OneTriangleModel", "primeOf", "(I)I"⟩, 36), (⟨"OneTriangleModel", "worthOf", "(I)I"⟩, 36), (⟨"OneTriangleModel", "looksBy", "(I)I"⟩, 36), (⟨"OneTriangleModel", "lookOf", "(I)I"⟩, 36), (⟨"OneTriangleModel", "wrongOf", "(I)I"⟩, 36), (⟨"OneTriangleModel", "blameNow", "()I"⟩, 36), (⟨"OneTriangleModel", "nightOf", "(II)I"⟩, 36), (⟨"OneTriangleModel", "lacks", "(III)I"⟩, 36), (⟨"OneTriangleModel", "keep", "(III)V"⟩, 36), (⟨"OneTriangleModel", "readsMany", "(I)I"⟩, 36), (⟨"OneTriangleModel", "numberDigest", "(JI)J"⟩, 36)]
theorem lw_r4 : ∀ q ∈ lw_privs_4, lw_okq q := List.forall_mem_cons.mpr ⟨lw_p48, List.forall_mem_cons.mpr ⟨lw_p49, List.forall_mem_cons.mpr ⟨lw_p50, List.forall_mem_cons.mpr ⟨lw_p51, List.forall_mem_cons.mpr ⟨lw_p52, List.forall_mem_cons.mpr ⟨lw_p53, List.forall_mem_cons.mpr ⟨lw_p54, List.forall_mem_cons.mpr ⟨lw_p55, List.forall_mem_cons.mpr ⟨lw_p56, List.forall_mem_cons.mpr ⟨lw_p57, List.forall_mem_cons.mpr ⟨lw_p58, List.forall_mem_cons.mpr ⟨lw_p59, List.forall_mem_cons.mpr ⟨lw_p60, List.forall_mem_cons.mpr ⟨lw_p61, fun _ h => absurd h List.not_mem_nil⟩⟩⟩⟩⟩⟩⟩⟩⟩⟩⟩⟩⟩⟩
def lw_privs : List (MethodName × Nat) := lw_privs_1 ++ (lw_privs_2 ++ (lw_privs_3 ++ (lw_privs_4)))
def lw_tbl : List Cond := k2_sels lw_privs ++ tables_1
theorem lw_privs_ok : ∀ q ∈ lw_privs, lw_okq q := by
  show ∀ q ∈ lw_privs_1 ++ (lw_privs_2 ++ (lw_privs_3 ++ (lw_privs_4))), lw_okq q
  exact List.forall_mem_append.mpr ⟨lw_r1, List.forall_mem_append.mpr ⟨lw_r2, List.forall_mem_append.mpr ⟨lw_r3, lw_r4⟩⟩⟩
def RX0 : String := "OneTriangle$Diary"
def TX0 : u_T := fun k => match k with
  | 0 => ("OneTriangle$Diary", "numbers", "[I", true)
  | 1 => ("OneTriangle$Diary", "size", "I", false)
  | _ => ("OneTriangle$Diary", "firstBar", "I", false)
def tyX0 : Nat → FieldType := fun k => match k with
  | 0 => .array .int
  | 1 => .int
  | _ => .int
theorem nmX0 : ∀ a, a < 3 → ∀ b, b < 3 → a ≠ b → (TX0 a).2.1 ≠ (TX0 b).2.1 := by decide +kernel
theorem tyX0_ok : ∀ k, k < 3 → parseFieldDescriptor (TX0 k).2.2.1 = some (tyX0 k) := by decide +kernel
abbrev cX0_init : ByteArray := prog_2_method_1_code
def yX0_init : MethodName := ⟨RX0, "<init>", "()V"⟩
abbrev cX0_clear : ByteArray := prog_2_method_2_code
def yX0_clear : MethodName := ⟨RX0, "clear", "()V"⟩
abbrev cX0_append : ByteArray := prog_2_method_3_code
def yX0_append : MethodName := ⟨RX0, "append", "(I)Z"⟩
abbrev cX0_firstWrong : ByteArray := prog_2_method_4_code
def yX0_firstWrong : MethodName := ⟨RX0, "firstWrong", "()I"⟩
abbrev cX0_allWrong : ByteArray := prog_2_method_5_code
def yX0_allWrong : MethodName := ⟨RX0, "allWrong", "()I"⟩
abbrev cX0_isWrong : ByteArray := prog_2_method_6_code
def yX0_isWrong : MethodName := ⟨RX0, "isWrong", "(I)Z"⟩
def RX1 : String := "OneTriangle$Lots"
def TX1 : u_T := fun k => match k with
  | _ => ("OneTriangle$Lots", "seed", "I", false)
def tyX1 : Nat → FieldType := fun k => match k with
  | _ => .int
theorem nmX1 : ∀ a, a < 1 → ∀ b, b < 1 → a ≠ b → (TX1 a).2.1 ≠ (TX1 b).2.1 := by decide +kernel
theorem tyX1_ok : ∀ k, k < 1 → parseFieldDescriptor (TX1 k).2.2.1 = some (tyX1 k) := by decide +kernel
abbrev cX1_init : ByteArray := prog_3_method_1_code
def yX1_init : MethodName := ⟨RX1, "<init>", "()V"⟩
abbrev cX1_draw : ByteArray := prog_3_method_2_code
def yX1_draw : MethodName := ⟨RX1, "draw", "()I"⟩
def RX2 : String := "OneTriangle$Notes"
def TX2 : u_T := fun k => match k with
  | 0 => ("OneTriangle$Notes", "numbers", "[I", true)
  | 1 => ("OneTriangle$Notes", "tunes", "[I", true)
  | 2 => ("OneTriangle$Notes", "shownBars", "[I", true)
  | _ => ("OneTriangle$Notes", "size", "I", false)
def tyX2 : Nat → FieldType := fun k => match k with
  | 0 => .array .int
  | 1 => .array .int
  | 2 => .array .int
  | _ => .int
theorem nmX2 : ∀ a, a < 4 → ∀ b, b < 4 → a ≠ b → (TX2 a).2.1 ≠ (TX2 b).2.1 := by decide +kernel
theorem tyX2_ok : ∀ k, k < 4 → parseFieldDescriptor (TX2 k).2.2.1 = some (tyX2 k) := by decide +kernel
abbrev cX2_init : ByteArray := prog_4_method_1_code
def yX2_init : MethodName := ⟨RX2, "<init>", "()V"⟩
abbrev cX2_append : ByteArray := prog_4_method_2_code
def yX2_append : MethodName := ⟨RX2, "append", "(III)Z"⟩
abbrev cX2_weigh : ByteArray := prog_4_method_3_code
def yX2_weigh : MethodName := ⟨RX2, "weigh", "(IIILOneTriangle$Settings;)J"⟩
def RX3 : String := "OneTriangle$Odds"
def TX3 : u_T := fun k => match k with
  | 0 => ("OneTriangle$Odds", "missed", "[I", true)
  | _ => ("OneTriangle$Odds", "doubled", "[I", true)
def tyX3 : Nat → FieldType := fun k => match k with
  | 0 => .array .int
  | _ => .array .int
theorem nmX3 : ∀ a, a < 2 → ∀ b, b < 2 → a ≠ b → (TX3 a).2.1 ≠ (TX3 b).2.1 := by decide +kernel
theorem tyX3_ok : ∀ k, k < 2 → parseFieldDescriptor (TX3 k).2.2.1 = some (tyX3 k) := by decide +kernel
abbrev cX3_init : ByteArray := prog_5_method_1_code
def yX3_init : MethodName := ⟨RX3, "<init>", "()V"⟩
abbrev cX3_missedOf : ByteArray := prog_5_method_2_code
def yX3_missedOf : MethodName := ⟨RX3, "missedOf", "(I)I"⟩
abbrev cX3_doubledOf : ByteArray := prog_5_method_3_code
def yX3_doubledOf : MethodName := ⟨RX3, "doubledOf", "(I)I"⟩
abbrev cX3_become : ByteArray := prog_5_method_4_code
def yX3_become : MethodName := ⟨RX3, "become", "(III)V"⟩
def RX4 : String := "OneTriangle$Piece"
def TX4 : u_T := fun k => match k with
  | 0 => ("OneTriangle$Piece", "bytes", "[I", true)
  | 1 => ("OneTriangle$Piece", "kinds", "[I", true)
  | 2 => ("OneTriangle$Piece", "cueByBar", "[I", true)
  | 3 => ("OneTriangle$Piece", "tunes", "[I", true)
  | 4 => ("OneTriangle$Piece", "barByCue", "[I", true)
  | 5 => ("OneTriangle$Piece", "size", "I", false)
  | 6 => ("OneTriangle$Piece", "bars", "I", false)
  | 7 => ("OneTriangle$Piece", "loose", "I", false)
  | 8 => ("OneTriangle$Piece", "cues", "I", false)
  | _ => ("OneTriangle$Piece", "faultPlace", "I", false)
def tyX4 : Nat → FieldType := fun k => match k with
  | 0 => .array .int
  | 1 => .array .int
  | 2 => .array .int
  | 3 => .array .int
  | 4 => .array .int
  | 5 => .int
  | 6 => .int
  | 7 => .int
  | 8 => .int
  | _ => .int
theorem nmX4 : ∀ a, a < 10 → ∀ b, b < 10 → a ≠ b → (TX4 a).2.1 ≠ (TX4 b).2.1 := by decide +kernel
theorem tyX4_ok : ∀ k, k < 10 → parseFieldDescriptor (TX4 k).2.2.1 = some (tyX4 k) := by decide +kernel
abbrev cX4_init : ByteArray := prog_6_method_1_code
def yX4_init : MethodName := ⟨RX4, "<init>", "()V"⟩
abbrev cX4_append : ByteArray := prog_6_method_2_code
def yX4_append : MethodName := ⟨RX4, "append", "(I)Z"⟩
abbrev cX4_shorten : ByteArray := prog_6_method_3_code
def yX4_shorten : MethodName := ⟨RX4, "shorten", "(I)V"⟩
abbrev cX4_hasBar : ByteArray := prog_6_method_4_code
def yX4_hasBar : MethodName := ⟨RX4, "hasBar", "(I)Z"⟩
abbrev cX4_isLoose : ByteArray := prog_6_method_5_code
def yX4_isLoose : MethodName := ⟨RX4, "isLoose", "(I)Z"⟩
abbrev cX4_kindOf : ByteArray := prog_6_method_6_code
def yX4_kindOf : MethodName := ⟨RX4, "kindOf", "(I)I"⟩
abbrev cX4_cueIn : ByteArray := prog_6_method_7_code
def yX4_cueIn : MethodName := ⟨RX4, "cueIn", "(I)I"⟩
abbrev cX4_tuneOf : ByteArray := prog_6_method_8_code
def yX4_tuneOf : MethodName := ⟨RX4, "tuneOf", "(I)I"⟩
abbrev cX4_barOf : ByteArray := prog_6_method_9_code
def yX4_barOf : MethodName := ⟨RX4, "barOf", "(I)I"⟩
abbrev cX4_understand : ByteArray := prog_6_method_10_code
def yX4_understand : MethodName := ⟨RX4, "understand", "()V"⟩
abbrev cX4_byteAt : ByteArray := prog_6_method_11_code
def yX4_byteAt : MethodName := ⟨RX4, "byteAt", "(I)I"⟩
abbrev cX4_passed : ByteArray := prog_6_method_12_code
def yX4_passed : MethodName := ⟨RX4, "passed", "(I)I"⟩
abbrev cX4_passedPlain : ByteArray := prog_6_method_13_code
def yX4_passedPlain : MethodName := ⟨RX4, "passedPlain", "(I)I"⟩
abbrev cX4_passedLoose : ByteArray := prog_6_method_14_code
def yX4_passedLoose : MethodName := ⟨RX4, "passedLoose", "(II)I"⟩
abbrev cX4_passedCue : ByteArray := prog_6_method_15_code
def yX4_passedCue : MethodName := ⟨RX4, "passedCue", "(I)I"⟩
abbrev cX4_addBars : ByteArray := prog_6_method_16_code
def yX4_addBars : MethodName := ⟨RX4, "addBars", "(II)Z"⟩
abbrev cX4_faultAt : ByteArray := prog_6_method_17_code
def yX4_faultAt : MethodName := ⟨RX4, "faultAt", "(I)I"⟩
def RX5 : String := "OneTriangle$Players"
def TX5 : u_T := fun k => match k with
  | 0 => ("OneTriangle$Players", "bars", "[I", true)
  | 1 => ("OneTriangle$Players", "worths", "[I", true)
  | 2 => ("OneTriangle$Players", "order", "[I", true)
  | 3 => ("OneTriangle$Players", "looks", "[I", true)
  | _ => ("OneTriangle$Players", "size", "I", false)
def tyX5 : Nat → FieldType := fun k => match k with
  | 0 => .array .int
  | 1 => .array .int
  | 2 => .array .int
  | 3 => .array .int
  | _ => .int
theorem nmX5 : ∀ a, a < 5 → ∀ b, b < 5 → a ≠ b → (TX5 a).2.1 ≠ (TX5 b).2.1 := by decide +kernel
theorem tyX5_ok : ∀ k, k < 5 → parseFieldDescriptor (TX5 k).2.2.1 = some (tyX5 k) := by decide +kernel
abbrev cX5_init : ByteArray := prog_7_method_1_code
def yX5_init : MethodName := ⟨RX5, "<init>", "()V"⟩
abbrev cX5_append : ByteArray := prog_7_method_2_code
def yX5_append : MethodName := ⟨RX5, "append", "(II)Z"⟩
abbrev cX5_bestBits : ByteArray := prog_7_method_3_code
def yX5_bestBits : MethodName := ⟨RX5, "bestBits", "()I"⟩
abbrev cX5_plan : ByteArray := prog_7_method_4_code
def yX5_plan : MethodName := ⟨RX5, "plan", "(I)I"⟩
abbrev cX5_lookedAtIn : ByteArray := prog_7_method_5_code
def yX5_lookedAtIn : MethodName := ⟨RX5, "lookedAtIn", "(I)I"⟩
def RX6 : String := "OneTriangle$Settings"
def TX6 : u_T := fun k => match k with
  | _ => ("OneTriangle$Settings", "values", "[I", true)
def tyX6 : Nat → FieldType := fun k => match k with
  | _ => .array .int
theorem nmX6 : ∀ a, a < 1 → ∀ b, b < 1 → a ≠ b → (TX6 a).2.1 ≠ (TX6 b).2.1 := by decide +kernel
theorem tyX6_ok : ∀ k, k < 1 → parseFieldDescriptor (TX6 k).2.2.1 = some (tyX6 k) := by decide +kernel
abbrev cX6_init : ByteArray := prog_8_method_1_code
def yX6_init : MethodName := ⟨RX6, "<init>", "()V"⟩
abbrev cX6_most : ByteArray := prog_8_method_2_code
def yX6_most : MethodName := ⟨RX6, "most", "(I)I"⟩
abbrev cX6_valueOf : ByteArray := prog_8_method_3_code
def yX6_valueOf : MethodName := ⟨RX6, "valueOf", "(I)I"⟩
abbrev cX6_become : ByteArray := prog_8_method_4_code
def yX6_become : MethodName := ⟨RX6, "become", "(II)V"⟩
def RX7 : String := "OneTriangle$Sheet"
def TX7 : u_T := fun k => match k with
  | 0 => ("OneTriangle$Sheet", "items", "[I", true)
  | 1 => ("OneTriangle$Sheet", "lost", "Z", false)
  | 2 => ("OneTriangle$Sheet", "form", "I", false)
  | _ => ("OneTriangle$Sheet", "size", "I", false)
def tyX7 : Nat → FieldType := fun k => match k with
  | 0 => .array .int
  | 1 => .boolean
  | 2 => .int
  | _ => .int
theorem nmX7 : ∀ a, a < 4 → ∀ b, b < 4 → a ≠ b → (TX7 a).2.1 ≠ (TX7 b).2.1 := by decide +kernel
theorem tyX7_ok : ∀ k, k < 4 → parseFieldDescriptor (TX7 k).2.2.1 = some (tyX7 k) := by decide +kernel
abbrev cX7_init : ByteArray := prog_9_method_1_code
def yX7_init : MethodName := ⟨RX7, "<init>", "()V"⟩
abbrev cX7_renew : ByteArray := prog_9_method_2_code
def yX7_renew : MethodName := ⟨RX7, "renew", "(II)V"⟩
abbrev cX7_findingAt : ByteArray := prog_9_method_3_code
def yX7_findingAt : MethodName := ⟨RX7, "findingAt", "(II)I"⟩
abbrev cX7_hasItems : ByteArray := prog_9_method_4_code
def yX7_hasItems : MethodName := ⟨RX7, "hasItems", "(II)Z"⟩
abbrev cX7_itemOf : ByteArray := prog_9_method_5_code
def yX7_itemOf : MethodName := ⟨RX7, "itemOf", "(I)I"⟩
abbrev cX7_become : ByteArray := prog_9_method_6_code
def yX7_become : MethodName := ⟨RX7, "become", "(II)V"⟩
def RX8 : String := "OneTriangle$Spread"
def TX8 : u_T := fun k => match k with
  | 0 => ("OneTriangle$Spread", "piece", "LOneTriangle$Piece;", true)
  | 1 => ("OneTriangle$Spread", "now", "[J", true)
  | _ => ("OneTriangle$Spread", "next", "[J", true)
def tyX8 : Nat → FieldType := fun k => match k with
  | 0 => .object "OneTriangle$Piece"
  | 1 => .array .long
  | _ => .array .long
theorem nmX8 : ∀ a, a < 3 → ∀ b, b < 3 → a ≠ b → (TX8 a).2.1 ≠ (TX8 b).2.1 := by decide +kernel
theorem tyX8_ok : ∀ k, k < 3 → parseFieldDescriptor (TX8 k).2.2.1 = some (tyX8 k) := by decide +kernel
abbrev cX8_init : ByteArray := prog_10_method_1_code
def yX8_init : MethodName := ⟨RX8, "<init>", "(LOneTriangle$Piece;)V"⟩
abbrev cX8_chanceOf : ByteArray := prog_10_method_2_code
def yX8_chanceOf : MethodName := ⟨RX8, "chanceOf", "(I)J"⟩
abbrev cX8_walk : ByteArray := prog_10_method_3_code
def yX8_walk : MethodName := ⟨RX8, "walk", "(LOneTriangle$Odds;III)V"⟩
abbrev cX8_drift : ByteArray := prog_10_method_4_code
def yX8_drift : MethodName := ⟨RX8, "drift", "(III)V"⟩
abbrev cX8_gather : ByteArray := prog_10_method_5_code
def yX8_gather : MethodName := ⟨RX8, "gather", "(I)V"⟩
def RX9 : String := "OneTriangle$Ways"
def TX9 : u_T := fun k => match k with
  | 0 => ("OneTriangle$Ways", "piece", "LOneTriangle$Piece;", true)
  | 1 => ("OneTriangle$Ways", "odds", "LOneTriangle$Odds;", true)
  | 2 => ("OneTriangle$Ways", "notes", "LOneTriangle$Notes;", true)
  | 3 => ("OneTriangle$Ways", "settings", "LOneTriangle$Settings;", true)
  | 4 => ("OneTriangle$Ways", "said", "[J", true)
  | 5 => ("OneTriangle$Ways", "all", "[J", true)
  | 6 => ("OneTriangle$Ways", "now", "[J", true)
  | _ => ("OneTriangle$Ways", "next", "[J", true)
def tyX9 : Nat → FieldType := fun k => match k with
  | 0 => .object "OneTriangle$Piece"
  | 1 => .object "OneTriangle$Odds"
  | 2 => .object "OneTriangle$Notes"
  | 3 => .object "OneTriangle$Settings"
  | 4 => .array .long
  | 5 => .array .long
  | 6 => .array .long
  | _ => .array .long
theorem nmX9 : ∀ a, a < 8 → ∀ b, b < 8 → a ≠ b → (TX9 a).2.1 ≠ (TX9 b).2.1 := by decide +kernel
theorem tyX9_ok : ∀ k, k < 8 → parseFieldDescriptor (TX9 k).2.2.1 = some (tyX9 k) := by decide +kernel
abbrev cX9_init : ByteArray := prog_11_method_1_code
def yX9_init : MethodName := ⟨RX9, "<init>", "(LOneTriangle$Piece;LOneTriangle$Odds;LOneTriangle$Notes;LOneTriangle$Settings;)V"⟩
abbrev cX9_ofAll : ByteArray := prog_11_method_2_code
def yX9_ofAll : MethodName := ⟨RX9, "ofAll", "(I)J"⟩
abbrev cX9_saidIn : ByteArray := prog_11_method_3_code
def yX9_saidIn : MethodName := ⟨RX9, "saidIn", "(II)J"⟩
abbrev cX9_find : ByteArray := prog_11_method_4_code
def yX9_find : MethodName := ⟨RX9, "find", "()V"⟩
abbrev cX9_pass : ByteArray := prog_11_method_5_code
def yX9_pass : MethodName := ⟨RX9, "pass", "(II)V"⟩
abbrev cX9_addSaid : ByteArray := prog_11_method_6_code
def yX9_addSaid : MethodName := ⟨RX9, "addSaid", "(IIJ)V"⟩
def RX10 : String := "OneTriangle"
def TX10 : u_T := fun k => match k with
  | 0 => ("OneTriangle", "piece", "LOneTriangle$Piece;", true)
  | 1 => ("OneTriangle", "settings", "LOneTriangle$Settings;", true)
  | 2 => ("OneTriangle", "usual", "LOneTriangle$Odds;", true)
  | 3 => ("OneTriangle", "later", "LOneTriangle$Odds;", true)
  | 4 => ("OneTriangle", "notes", "LOneTriangle$Notes;", true)
  | 5 => ("OneTriangle", "ways", "LOneTriangle$Ways;", true)
  | 6 => ("OneTriangle", "spread", "LOneTriangle$Spread;", true)
  | 7 => ("OneTriangle", "players", "LOneTriangle$Players;", true)
  | 8 => ("OneTriangle", "diary", "LOneTriangle$Diary;", true)
  | 9 => ("OneTriangle", "lots", "LOneTriangle$Lots;", true)
  | 10 => ("OneTriangle", "sheets", "[LOneTriangle$Sheet;", true)
  | 11 => ("OneTriangle", "waysAreOld", "Z", false)
  | _ => ("OneTriangle", "latestFinding", "I", false)
def tyX10 : Nat → FieldType := fun k => match k with
  | 0 => .object "OneTriangle$Piece"
  | 1 => .object "OneTriangle$Settings"
  | 2 => .object "OneTriangle$Odds"
  | 3 => .object "OneTriangle$Odds"
  | 4 => .object "OneTriangle$Notes"
  | 5 => .object "OneTriangle$Ways"
  | 6 => .object "OneTriangle$Spread"
  | 7 => .object "OneTriangle$Players"
  | 8 => .object "OneTriangle$Diary"
  | 9 => .object "OneTriangle$Lots"
  | 10 => .array (.object "OneTriangle$Sheet")
  | 11 => .boolean
  | _ => .int
theorem nmX10 : ∀ a, a < 13 → ∀ b, b < 13 → a ≠ b → (TX10 a).2.1 ≠ (TX10 b).2.1 := by decide +kernel
theorem tyX10_ok : ∀ k, k < 13 → parseFieldDescriptor (TX10 k).2.2.1 = some (tyX10 k) := by decide +kernel
abbrev cX10_init : ByteArray := prog_1_method_1_code
def yX10_init : MethodName := ⟨RX10, "<init>", "()V"⟩
abbrev cX10_type : ByteArray := prog_1_method_2_code
def yX10_type : MethodName := ⟨RX10, "type", "(I)I"⟩
abbrev cX10_wipe : ByteArray := prog_1_method_3_code
def yX10_wipe : MethodName := ⟨RX10, "wipe", "()I"⟩
abbrev cX10_undo : ByteArray := prog_1_method_4_code
def yX10_undo : MethodName := ⟨RX10, "undo", "()I"⟩
abbrev cX10_fault : ByteArray := prog_1_method_5_code
def yX10_fault : MethodName := ⟨RX10, "fault", "()I"⟩
abbrev cX10_bar : ByteArray := prog_1_method_6_code
def yX10_bar : MethodName := ⟨RX10, "bar", "(II)I"⟩
abbrev cX10_odds : ByteArray := prog_1_method_7_code
def yX10_odds : MethodName := ⟨RX10, "odds", "(III)I"⟩
abbrev cX10_set : ByteArray := prog_1_method_8_code
def yX10_set : MethodName := ⟨RX10, "set", "(II)I"⟩
abbrev cX10_read : ByteArray := prog_1_method_9_code
def yX10_read : MethodName := ⟨RX10, "read", "(I)I"⟩
abbrev cX10_hear : ByteArray := prog_1_method_10_code
def yX10_hear : MethodName := ⟨RX10, "hear", "(II)I"⟩
abbrev cX10_shown : ByteArray := prog_1_method_11_code
def yX10_shown : MethodName := ⟨RX10, "shown", "(II)I"⟩
abbrev cX10_forget : ByteArray := prog_1_method_12_code
def yX10_forget : MethodName := ⟨RX10, "forget", "()I"⟩
abbrev cX10_where : ByteArray := prog_1_method_13_code
def yX10_where : MethodName := ⟨RX10, "where", "(III)J"⟩
abbrev cX10_likeliest : ByteArray := prog_1_method_14_code
def yX10_likeliest : MethodName := ⟨RX10, "likeliest", "(I)I"⟩
abbrev cX10_strike : ByteArray := prog_1_method_15_code
def yX10_strike : MethodName := ⟨RX10, "strike", "(II)J"⟩
abbrev cX10_line : ByteArray := prog_1_method_16_code
def yX10_line : MethodName := ⟨RX10, "line", "()I"⟩
abbrev cX10_slips : ByteArray := prog_1_method_17_code
def yX10_slips : MethodName := ⟨RX10, "slips", "(III)J"⟩
abbrev cX10_safe : ByteArray := prog_1_method_18_code
def yX10_safe : MethodName := ⟨RX10, "safe", "(II)J"⟩
abbrev cX10_write : ByteArray := prog_1_method_19_code
def yX10_write : MethodName := ⟨RX10, "write", "(I)I"⟩
abbrev cX10_few : ByteArray := prog_1_method_20_code
def yX10_few : MethodName := ⟨RX10, "few", "(I)I"⟩
abbrev cX10_anew : ByteArray := prog_1_method_21_code
def yX10_anew : MethodName := ⟨RX10, "anew", "(I)I"⟩
abbrev cX10_joint : ByteArray := prog_1_method_22_code
def yX10_joint : MethodName := ⟨RX10, "joint", "(III)J"⟩
abbrev cX10_evening : ByteArray := prog_1_method_23_code
def yX10_evening : MethodName := ⟨RX10, "evening", "(II)J"⟩
abbrev cX10_prime : ByteArray := prog_1_method_24_code
def yX10_prime : MethodName := ⟨RX10, "prime", "(I)I"⟩
abbrev cX10_player : ByteArray := prog_1_method_25_code
def yX10_player : MethodName := ⟨RX10, "player", "(II)I"⟩
abbrev cX10_leave : ByteArray := prog_1_method_26_code
def yX10_leave : MethodName := ⟨RX10, "leave", "()I"⟩
abbrev cX10_worth : ByteArray := prog_1_method_27_code
def yX10_worth : MethodName := ⟨RX10, "worth", "(I)I"⟩
abbrev cX10_look : ByteArray := prog_1_method_28_code
def yX10_look : MethodName := ⟨RX10, "look", "(I)I"⟩
abbrev cX10_from : ByteArray := prog_1_method_29_code
def yX10_from : MethodName := ⟨RX10, "from", "(I)I"⟩
abbrev cX10_said : ByteArray := prog_1_method_30_code
def yX10_said : MethodName := ⟨RX10, "said", "(I)I"⟩
abbrev cX10_wrong : ByteArray := prog_1_method_31_code
def yX10_wrong : MethodName := ⟨RX10, "wrong", "(I)I"⟩
abbrev cX10_blame : ByteArray := prog_1_method_32_code
def yX10_blame : MethodName := ⟨RX10, "blame", "()I"⟩
abbrev cX10_night : ByteArray := prog_1_method_33_code
def yX10_night : MethodName := ⟨RX10, "night", "(II)I"⟩
abbrev cX10_sheet : ByteArray := prog_1_method_34_code
def yX10_sheet : MethodName := ⟨RX10, "sheet", "(III)I"⟩
abbrev cX10_lose : ByteArray := prog_1_method_35_code
def yX10_lose : MethodName := ⟨RX10, "lose", "(I)I"⟩
abbrev cX10_put : ByteArray := prog_1_method_36_code
def yX10_put : MethodName := ⟨RX10, "put", "(IIII)I"⟩
abbrev cX10_get : ByteArray := prog_1_method_37_code
def yX10_get : MethodName := ⟨RX10, "get", "(III)I"⟩
abbrev cX10_copy : ByteArray := prog_1_method_38_code
def yX10_copy : MethodName := ⟨RX10, "copy", "(IIIII)I"⟩
abbrev cX10_tell : ByteArray := prog_1_method_39_code
def yX10_tell : MethodName := ⟨RX10, "tell", "(I)I"⟩
abbrev cX10_count : ByteArray := prog_1_method_40_code
def yX10_count : MethodName := ⟨RX10, "count", "(I)I"⟩
abbrev cX10_digest : ByteArray := prog_1_method_41_code
def yX10_digest : MethodName := ⟨RX10, "digest", "()J"⟩
abbrev cX10_within : ByteArray := prog_1_method_42_code
def yX10_within : MethodName := ⟨RX10, "within", "(III)Z"⟩
abbrev cX10_isNumber : ByteArray := prog_1_method_43_code
def yX10_isNumber : MethodName := ⟨RX10, "isNumber", "(I)Z"⟩
abbrev cX10_isPart : ByteArray := prog_1_method_44_code
def yX10_isPart : MethodName := ⟨RX10, "isPart", "(I)Z"⟩
abbrev cX10_refusal : ByteArray := prog_1_method_45_code
def yX10_refusal : MethodName := ⟨RX10, "refusal", "(I)J"⟩
abbrev cX10_found : ByteArray := prog_1_method_46_code
def yX10_found : MethodName := ⟨RX10, "found", "(I)I"⟩
abbrev cX10_sheetAt : ByteArray := prog_1_method_47_code
def yX10_sheetAt : MethodName := ⟨RX10, "sheetAt", "(I)LOneTriangle$Sheet;"⟩
abbrev cX10_addNote : ByteArray := prog_1_method_48_code
def yX10_addNote : MethodName := ⟨RX10, "addNote", "(III)I"⟩
abbrev cX10_refreshWays : ByteArray := prog_1_method_49_code
def yX10_refreshWays : MethodName := ⟨RX10, "refreshWays", "()V"⟩
abbrev cX10_costAbove : ByteArray := prog_1_method_50_code
def yX10_costAbove : MethodName := ⟨RX10, "costAbove", "(I)J"⟩
abbrev cX10_safety : ByteArray := prog_1_method_51_code
def yX10_safety : MethodName := ⟨RX10, "safety", "(I)J"⟩
abbrev cX10_comeTo : ByteArray := prog_1_method_52_code
def yX10_comeTo : MethodName := ⟨RX10, "comeTo", "(I)Z"⟩
abbrev cX10_trueLater : ByteArray := prog_1_method_53_code
def yX10_trueLater : MethodName := ⟨RX10, "trueLater", "()J"⟩
abbrev cX10_slipOfNight : ByteArray := prog_1_method_54_code
def yX10_slipOfNight : MethodName := ⟨RX10, "slipOfNight", "()I"⟩
abbrev cX10_mixed : ByteArray := prog_1_method_55_code
def yX10_mixed : MethodName := ⟨RX10, "mixed", "(JJ)J"⟩
abbrev cX10_told : ByteArray := prog_1_method_56_code
def yX10_told : MethodName := ⟨RX10, "told", "(JJI)J"⟩
abbrev cX10_greatestCommon : ByteArray := prog_1_method_57_code
def yX10_greatestCommon : MethodName := ⟨RX10, "greatestCommon", "(JJ)J"⟩
abbrev cX10_isLess : ByteArray := prog_1_method_58_code
def yX10_isLess : MethodName := ⟨RX10, "isLess", "(JJJJ)Z"⟩
abbrev cX10_itemAt : ByteArray := prog_1_method_59_code
def yX10_itemAt : MethodName := ⟨RX10, "itemAt", "([II)I"⟩
abbrev cX10_longAt : ByteArray := prog_1_method_60_code
def yX10_longAt : MethodName := ⟨RX10, "longAt", "([JI)J"⟩
abbrev cX10_addTo : ByteArray := prog_1_method_61_code
def yX10_addTo : MethodName := ⟨RX10, "addTo", "([JIJ)V"⟩
def RX11 : String := "OneTriangleModel"
def TX11 : u_T := fun k => match k with
  | 0 => ("OneTriangleModel", "text", "[I", true)
  | 1 => ("OneTriangleModel", "typed", "I", false)
  | 2 => ("OneTriangleModel", "bars", "I", false)
  | 3 => ("OneTriangleModel", "kinds", "[I", true)
  | 4 => ("OneTriangleModel", "tunes", "[I", true)
  | 5 => ("OneTriangleModel", "cueOf", "[I", true)
  | 6 => ("OneTriangleModel", "loose", "I", false)
  | 7 => ("OneTriangleModel", "cues", "I", false)
  | 8 => ("OneTriangleModel", "cueBar", "[I", true)
  | 9 => ("OneTriangleModel", "missed", "[I", true)
  | 10 => ("OneTriangleModel", "doubled", "[I", true)
  | 11 => ("OneTriangleModel", "settings", "[I", true)
  | 12 => ("OneTriangleModel", "records", "I", false)
  | 13 => ("OneTriangleModel", "record", "[I", true)
  | 14 => ("OneTriangleModel", "recordFrom", "I", false)
  | 15 => ("OneTriangleModel", "notes", "I", false)
  | 16 => ("OneTriangleModel", "noteNumber", "[I", true)
  | 17 => ("OneTriangleModel", "noteTune", "[I", true)
  | 18 => ("OneTriangleModel", "noteBar", "[I", true)
  | 19 => ("OneTriangleModel", "ways", "[J", true)
  | 20 => ("OneTriangleModel", "waysNext", "[J", true)
  | 21 => ("OneTriangleModel", "whereWeighs", "[J", true)
  | 22 => ("OneTriangleModel", "whereAll", "J", false)
  | 23 => ("OneTriangleModel", "slipWays", "[J", true)
  | 24 => ("OneTriangleModel", "slipNext", "[J", true)
  | 25 => ("OneTriangleModel", "slipAll", "J", false)
  | 26 => ("OneTriangleModel", "players", "I", false)
  | 27 => ("OneTriangleModel", "playerBar", "[I", true)
  | 28 => ("OneTriangleModel", "playerWorth", "[I", true)
  | 29 => ("OneTriangleModel", "looks", "[I", true)
  | 30 => ("OneTriangleModel", "isThere", "[Z", true)
  | 31 => ("OneTriangleModel", "forms", "[I", true)
  | 32 => ("OneTriangleModel", "sizes", "[I", true)
  | 33 => ("OneTriangleModel", "items", "[I", true)
  | 34 => ("OneTriangleModel", "moved", "[I", true)
  | _ => ("OneTriangleModel", "finding", "I", false)
def tyX11 : Nat → FieldType := fun k => match k with
  | 0 => .array .int
  | 1 => .int
  | 2 => .int
  | 3 => .array .int
  | 4 => .array .int
  | 5 => .array .int
  | 6 => .int
  | 7 => .int
  | 8 => .array .int
  | 9 => .array .int
  | 10 => .array .int
  | 11 => .array .int
  | 12 => .int
  | 13 => .array .int
  | 14 => .int
  | 15 => .int
  | 16 => .array .int
  | 17 => .array .int
  | 18 => .array .int
  | 19 => .array .long
  | 20 => .array .long
  | 21 => .array .long
  | 22 => .long
  | 23 => .array .long
  | 24 => .array .long
  | 25 => .long
  | 26 => .int
  | 27 => .array .int
  | 28 => .array .int
  | 29 => .array .int
  | 30 => .array .boolean
  | 31 => .array .int
  | 32 => .array .int
  | 33 => .array .int
  | 34 => .array .int
  | _ => .int
theorem nmX11 : ∀ a, a < 36 → ∀ b, b < 36 → a ≠ b → (TX11 a).2.1 ≠ (TX11 b).2.1 := by decide +kernel
theorem tyX11_ok : ∀ k, k < 36 → parseFieldDescriptor (TX11 k).2.2.1 = some (tyX11 k) := by decide +kernel
abbrev cX11_init : ByteArray := prog_13_method_1_code
def yX11_init : MethodName := ⟨RX11, "<init>", "()V"⟩
abbrev cX11_in : ByteArray := prog_13_method_3_code
def yX11_in : MethodName := ⟨RX11, "in", "(III)Z"⟩
abbrev cX11_isIn : ByteArray := prog_13_method_4_code
def yX11_isIn : MethodName := ⟨RX11, "isIn", "(II)Z"⟩
abbrev cX11_ones : ByteArray := prog_13_method_5_code
def yX11_ones : MethodName := ⟨RX11, "ones", "(I)I"⟩
abbrev cX11_no : ByteArray := prog_13_method_6_code
def yX11_no : MethodName := ⟨RX11, "no", "(I)J"⟩
abbrev cX11_lowest : ByteArray := prog_13_method_7_code
def yX11_lowest : MethodName := ⟨RX11, "lowest", "(JJI)J"⟩
abbrev cX11_type : ByteArray := prog_13_method_8_code
def yX11_type : MethodName := ⟨RX11, "type", "(I)I"⟩
abbrev cX11_wipe : ByteArray := prog_13_method_9_code
def yX11_wipe : MethodName := ⟨RX11, "wipe", "()I"⟩
abbrev cX11_undo : ByteArray := prog_13_method_10_code
def yX11_undo : MethodName := ⟨RX11, "undo", "()I"⟩
abbrev cX11_adds : ByteArray := prog_13_method_11_code
def yX11_adds : MethodName := ⟨RX11, "adds", "(II)V"⟩
abbrev cX11_figureAt : ByteArray := prog_13_method_12_code
def yX11_figureAt : MethodName := ⟨RX11, "figureAt", "(I)I"⟩
abbrev cX11_readsPiece : ByteArray := prog_13_method_13_code
def yX11_readsPiece : MethodName := ⟨RX11, "readsPiece", "()I"⟩
abbrev cX11_faultNow : ByteArray := prog_13_method_14_code
def yX11_faultNow : MethodName := ⟨RX11, "faultNow", "()I"⟩
abbrev cX11_fault : ByteArray := prog_13_method_15_code
def yX11_fault : MethodName := ⟨RX11, "fault", "()I"⟩
abbrev cX11_reads : ByteArray := prog_13_method_16_code
def yX11_reads : MethodName := ⟨RX11, "reads", "()V"⟩
abbrev cX11_isBar : ByteArray := prog_13_method_17_code
def yX11_isBar : MethodName := ⟨RX11, "isBar", "(I)Z"⟩
abbrev cX11_barOf : ByteArray := prog_13_method_18_code
def yX11_barOf : MethodName := ⟨RX11, "barOf", "(II)I"⟩
abbrev cX11_bar : ByteArray := prog_13_method_19_code
def yX11_bar : MethodName := ⟨RX11, "bar", "(II)I"⟩
abbrev cX11_odds : ByteArray := prog_13_method_20_code
def yX11_odds : MethodName := ⟨RX11, "odds", "(III)I"⟩
abbrev cX11_set : ByteArray := prog_13_method_21_code
def yX11_set : MethodName := ⟨RX11, "set", "(II)I"⟩
abbrev cX11_isNumber : ByteArray := prog_13_method_22_code
def yX11_isNumber : MethodName := ⟨RX11, "isNumber", "(I)Z"⟩
abbrev cX11_read : ByteArray := prog_13_method_23_code
def yX11_read : MethodName := ⟨RX11, "read", "(I)I"⟩
abbrev cX11_notesMore : ByteArray := prog_13_method_24_code
def yX11_notesMore : MethodName := ⟨RX11, "notesMore", "(III)I"⟩
abbrev cX11_hear : ByteArray := prog_13_method_25_code
def yX11_hear : MethodName := ⟨RX11, "hear", "(II)I"⟩
abbrev cX11_shown : ByteArray := prog_13_method_26_code
def yX11_shown : MethodName := ⟨RX11, "shown", "(II)I"⟩
abbrev cX11_forget : ByteArray := prog_13_method_27_code
def yX11_forget : MethodName := ⟨RX11, "forget", "()I"⟩
abbrev cX11_notesWeigh : ByteArray := prog_13_method_28_code
def yX11_notesWeigh : MethodName := ⟨RX11, "notesWeigh", "(II)J"⟩
abbrev cX11_saysOdds : ByteArray := prog_13_method_29_code
def yX11_saysOdds : MethodName := ⟨RX11, "saysOdds", "(II)I"⟩
abbrev cX11_findsWhere : ByteArray := prog_13_method_30_code
def yX11_findsWhere : MethodName := ⟨RX11, "findsWhere", "(I)V"⟩
abbrev cX11_whereOf : ByteArray := prog_13_method_31_code
def yX11_whereOf : MethodName := ⟨RX11, "whereOf", "(III)J"⟩
abbrev cX11_where : ByteArray := prog_13_method_32_code
def yX11_where : MethodName := ⟨RX11, "where", "(III)J"⟩
abbrev cX11_likeliestOf : ByteArray := prog_13_method_33_code
def yX11_likeliestOf : MethodName := ⟨RX11, "likeliestOf", "(I)I"⟩
abbrev cX11_likeliest : ByteArray := prog_13_method_34_code
def yX11_likeliest : MethodName := ⟨RX11, "likeliest", "(I)I"⟩
abbrev cX11_strikeOf : ByteArray := prog_13_method_35_code
def yX11_strikeOf : MethodName := ⟨RX11, "strikeOf", "(II)J"⟩
abbrev cX11_strike : ByteArray := prog_13_method_36_code
def yX11_strike : MethodName := ⟨RX11, "strike", "(II)J"⟩
abbrev cX11_isLess : ByteArray := prog_13_method_37_code
def yX11_isLess : MethodName := ⟨RX11, "isLess", "(JJJJ)Z"⟩
abbrev cX11_lineNow : ByteArray := prog_13_method_38_code
def yX11_lineNow : MethodName := ⟨RX11, "lineNow", "()I"⟩
abbrev cX11_line : ByteArray := prog_13_method_39_code
def yX11_line : MethodName := ⟨RX11, "line", "()I"⟩
abbrev cX11_findsSlips : ByteArray := prog_13_method_40_code
def yX11_findsSlips : MethodName := ⟨RX11, "findsSlips", "(III)V"⟩
abbrev cX11_missedIn : ByteArray := prog_13_method_41_code
def yX11_missedIn : MethodName := ⟨RX11, "missedIn", "(II)I"⟩
abbrev cX11_slipLoose : ByteArray := prog_13_method_42_code
def yX11_slipLoose : MethodName := ⟨RX11, "slipLoose", "(II)V"⟩
abbrev cX11_slipsOf : ByteArray := prog_13_method_43_code
def yX11_slipsOf : MethodName := ⟨RX11, "slipsOf", "(III)J"⟩
abbrev cX11_slips : ByteArray := prog_13_method_44_code
def yX11_slips : MethodName := ⟨RX11, "slips", "(III)J"⟩
abbrev cX11_isSome : ByteArray := prog_13_method_45_code
def yX11_isSome : MethodName := ⟨RX11, "isSome", "(I)Z"⟩
abbrev cX11_safeBy : ByteArray := prog_13_method_46_code
def yX11_safeBy : MethodName := ⟨RX11, "safeBy", "(I)J"⟩
abbrev cX11_safeOf : ByteArray := prog_13_method_47_code
def yX11_safeOf : MethodName := ⟨RX11, "safeOf", "(II)J"⟩
abbrev cX11_safe : ByteArray := prog_13_method_48_code
def yX11_safe : MethodName := ⟨RX11, "safe", "(II)J"⟩
abbrev cX11_writeOf : ByteArray := prog_13_method_49_code
def yX11_writeOf : MethodName := ⟨RX11, "writeOf", "(I)I"⟩
abbrev cX11_cuesNow : ByteArray := prog_13_method_50_code
def yX11_cuesNow : MethodName := ⟨RX11, "cuesNow", "()I"⟩
abbrev cX11_write : ByteArray := prog_13_method_51_code
def yX11_write : MethodName := ⟨RX11, "write", "(I)I"⟩
abbrev cX11_fewOf : ByteArray := prog_13_method_52_code
def yX11_fewOf : MethodName := ⟨RX11, "fewOf", "(I)I"⟩
abbrev cX11_few : ByteArray := prog_13_method_53_code
def yX11_few : MethodName := ⟨RX11, "few", "(I)I"⟩
abbrev cX11_anewOf : ByteArray := prog_13_method_54_code
def yX11_anewOf : MethodName := ⟨RX11, "anewOf", "(I)I"⟩
abbrev cX11_anew : ByteArray := prog_13_method_55_code
def yX11_anew : MethodName := ⟨RX11, "anew", "(I)I"⟩
abbrev cX11_joint : ByteArray := prog_13_method_56_code
def yX11_joint : MethodName := ⟨RX11, "joint", "(III)J"⟩
abbrev cX11_eveningBy : ByteArray := prog_13_method_57_code
def yX11_eveningBy : MethodName := ⟨RX11, "eveningBy", "(I)J"⟩
abbrev cX11_eveningOf : ByteArray := prog_13_method_58_code
def yX11_eveningOf : MethodName := ⟨RX11, "eveningOf", "(II)J"⟩
abbrev cX11_evening : ByteArray := prog_13_method_59_code
def yX11_evening : MethodName := ⟨RX11, "evening", "(II)J"⟩
abbrev cX11_primeOf : ByteArray := prog_13_method_60_code
def yX11_primeOf : MethodName := ⟨RX11, "primeOf", "(I)I"⟩
abbrev cX11_prime : ByteArray := prog_13_method_61_code
def yX11_prime : MethodName := ⟨RX11, "prime", "(I)I"⟩
abbrev cX11_player : ByteArray := prog_13_method_62_code
def yX11_player : MethodName := ⟨RX11, "player", "(II)I"⟩
abbrev cX11_leave : ByteArray := prog_13_method_63_code
def yX11_leave : MethodName := ⟨RX11, "leave", "()I"⟩
abbrev cX11_looksBy : ByteArray := prog_13_method_64_code
def yX11_looksBy : MethodName := ⟨RX11, "looksBy", "(I)I"⟩
abbrev cX11_worthOf : ByteArray := prog_13_method_65_code
def yX11_worthOf : MethodName := ⟨RX11, "worthOf", "(I)I"⟩
abbrev cX11_worth : ByteArray := prog_13_method_66_code
def yX11_worth : MethodName := ⟨RX11, "worth", "(I)I"⟩
abbrev cX11_lookOf : ByteArray := prog_13_method_67_code
def yX11_lookOf : MethodName := ⟨RX11, "lookOf", "(I)I"⟩
abbrev cX11_look : ByteArray := prog_13_method_68_code
def yX11_look : MethodName := ⟨RX11, "look", "(I)I"⟩
abbrev cX11_from : ByteArray := prog_13_method_69_code
def yX11_from : MethodName := ⟨RX11, "from", "(I)I"⟩
abbrev cX11_said : ByteArray := prog_13_method_70_code
def yX11_said : MethodName := ⟨RX11, "said", "(I)I"⟩
abbrev cX11_wrongOf : ByteArray := prog_13_method_71_code
def yX11_wrongOf : MethodName := ⟨RX11, "wrongOf", "(I)I"⟩
abbrev cX11_wrong : ByteArray := prog_13_method_72_code
def yX11_wrong : MethodName := ⟨RX11, "wrong", "(I)I"⟩
abbrev cX11_blameNow : ByteArray := prog_13_method_73_code
def yX11_blameNow : MethodName := ⟨RX11, "blameNow", "()I"⟩
abbrev cX11_blame : ByteArray := prog_13_method_74_code
def yX11_blame : MethodName := ⟨RX11, "blame", "()I"⟩
abbrev cX11_nightOf : ByteArray := prog_13_method_75_code
def yX11_nightOf : MethodName := ⟨RX11, "nightOf", "(II)I"⟩
abbrev cX11_night : ByteArray := prog_13_method_76_code
def yX11_night : MethodName := ⟨RX11, "night", "(II)I"⟩
abbrev cX11_meets : ByteArray := prog_13_method_77_code
def yX11_meets : MethodName := ⟨RX11, "meets", "(I)I"⟩
abbrev cX11_isSheet : ByteArray := prog_13_method_78_code
def yX11_isSheet : MethodName := ⟨RX11, "isSheet", "(I)Z"⟩
abbrev cX11_sheet : ByteArray := prog_13_method_79_code
def yX11_sheet : MethodName := ⟨RX11, "sheet", "(III)I"⟩
abbrev cX11_lose : ByteArray := prog_13_method_80_code
def yX11_lose : MethodName := ⟨RX11, "lose", "(I)I"⟩
abbrev cX11_lacks : ByteArray := prog_13_method_81_code
def yX11_lacks : MethodName := ⟨RX11, "lacks", "(III)I"⟩
abbrev cX11_keep : ByteArray := prog_13_method_82_code
def yX11_keep : MethodName := ⟨RX11, "keep", "(III)V"⟩
abbrev cX11_put : ByteArray := prog_13_method_83_code
def yX11_put : MethodName := ⟨RX11, "put", "(IIII)I"⟩
abbrev cX11_get : ByteArray := prog_13_method_84_code
def yX11_get : MethodName := ⟨RX11, "get", "(III)I"⟩
abbrev cX11_copy : ByteArray := prog_13_method_85_code
def yX11_copy : MethodName := ⟨RX11, "copy", "(IIIII)I"⟩
abbrev cX11_tell : ByteArray := prog_13_method_86_code
def yX11_tell : MethodName := ⟨RX11, "tell", "(I)I"⟩
abbrev cX11_readsMany : ByteArray := prog_13_method_87_code
def yX11_readsMany : MethodName := ⟨RX11, "readsMany", "(I)I"⟩
abbrev cX11_count : ByteArray := prog_13_method_88_code
def yX11_count : MethodName := ⟨RX11, "count", "(I)I"⟩
abbrev cX11_numberDigest : ByteArray := prog_13_method_89_code
def yX11_numberDigest : MethodName := ⟨RX11, "numberDigest", "(JI)J"⟩
abbrev cX11_digest : ByteArray := prog_13_method_90_code
def yX11_digest : MethodName := ⟨RX11, "digest", "()J"⟩
def RJ6 : String := "java/lang/Integer"
abbrev cJ6_bitCount_0f7a4 : ByteArray := prog_14_method_49_code
def yJ6_bitCount_0f7a4 : MethodName := ⟨RJ6, "bitCount", "(I)I"⟩
def RJ9 : String := "java/lang/Math"
abbrev cJ9_max_7cf53 : ByteArray := prog_15_method_65_code
def yJ9_max_7cf53 : MethodName := ⟨RJ9, "max", "(II)I"⟩
abbrev cJ9_min_7cf53 : ByteArray := prog_15_method_69_code
def yJ9_min_7cf53 : MethodName := ⟨RJ9, "min", "(II)I"⟩
def RJ10 : String := "java/lang/System"
def RJ7 : String := "java/util/Arrays"
abbrev cJ7_fill_d0a16 : ByteArray := prog_17_method_101_code
def yJ7_fill_d0a16 : MethodName := ⟨RJ7, "fill", "([JJ)V"⟩
abbrev cJ7_fill_53178 : ByteArray := prog_17_method_103_code
def yJ7_fill_53178 : MethodName := ⟨RJ7, "fill", "([II)V"⟩
def RL : String := "OneTriangleLaw"
abbrev cL_law : ByteArray := code
def yL_law : MethodName := ⟨RL, "law", "([I)Z"⟩
abbrev classes : List vw_C := [(RX0, TX0, 3), (RX1, TX1, 1), (RX2, TX2, 4), (RX3, TX3, 2), (RX4, TX4, 10), (RX5, TX5, 5), (RX6, TX6, 1), (RX7, TX7, 4), (RX8, TX8, 3), (RX9, TX9, 8), (RX10, TX10, 13), (RX11, TX11, 36)]
def lw_gd : List Cond := lw_tbl.filter goodWord
def lw_isN : Cond → Bool
  | .fieldLinkNest .. => true
  | .methodLinkNest .. => true
  | _ => false
def lw_nw : List Cond := lw_tbl.filter lw_isN
theorem lw_gd_t {i : Nat} {w : Cond} (h : tables_1[i]? = some w) (hg : goodWord w = true) : w ∈ lw_gd := List.mem_filter.mpr ⟨List.mem_append_right _ (List.mem_of_getElem? h), hg⟩
theorem lw_nw_t {i : Nat} {w : Cond} (h : tables_1[i]? = some w) (hg : lw_isN w = true) : w ∈ lw_nw := List.mem_filter.mpr ⟨List.mem_append_right _ (List.mem_of_getElem? h), hg⟩
theorem lw_gd_p {i : Nat} {w : Cond} (h : (k2_sels lw_privs)[i]? = some w) (hg : goodWord w = true) : w ∈ lw_gd := List.mem_filter.mpr ⟨List.mem_append_left _ (List.mem_of_getElem? h), hg⟩
theorem lw_gd_in {w : Cond} (h : w ∈ lw_gd) : w ∈ lw_tbl := (List.mem_filter.mp h).1
theorem lw_nw_in {w : Cond} (h : w ∈ lw_nw) : w ∈ lw_tbl := (List.mem_filter.mp h).1
theorem lw_gd_good {w : Cond} (h : w ∈ lw_gd) : (w.onTables && w.keeps) = true ∨ ∃ ty, w = .arrayClass ty := good_of_word (List.mem_filter.mp h).2
theorem lw_gd_gi : GoodIn lw_gd lw_gd := fun _ h => ⟨h, lw_gd_good h⟩
theorem giX0 : ∀ w ∈ u_ws RX0 TX0 3, w ∈ lw_gd := by decide +kernel
theorem giX1 : ∀ w ∈ u_ws RX1 TX1 1, w ∈ lw_gd := by decide +kernel
theorem giX2 : ∀ w ∈ u_ws RX2 TX2 4, w ∈ lw_gd := by decide +kernel
theorem giX3 : ∀ w ∈ u_ws RX3 TX3 2, w ∈ lw_gd := by decide +kernel
theorem giX4 : ∀ w ∈ u_ws RX4 TX4 10, w ∈ lw_gd := by decide +kernel
theorem giX5 : ∀ w ∈ u_ws RX5 TX5 5, w ∈ lw_gd := by decide +kernel
theorem giX6 : ∀ w ∈ u_ws RX6 TX6 1, w ∈ lw_gd := by decide +kernel
theorem giX7 : ∀ w ∈ u_ws RX7 TX7 4, w ∈ lw_gd := by decide +kernel
theorem giX8 : ∀ w ∈ u_ws RX8 TX8 3, w ∈ lw_gd := by decide +kernel
theorem giX9 : ∀ w ∈ u_ws RX9 TX9 8, w ∈ lw_gd := by decide +kernel
theorem giX10 : ∀ w ∈ u_ws RX10 TX10 13, w ∈ lw_gd := by decide +kernel
theorem giX11 : ∀ w ∈ u_ws RX11 TX11 36, w ∈ lw_gd := by decide +kernel
