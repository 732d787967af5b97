section
-- ===== PART A: goes FIRST, ahead of the names: the tables' words, and 'selects' of the private methods out of them =====
/-- a private method of a class that the tables say can be made, by its rows of tables_1 -/
def lw_okq (q : MethodName × Nat) : Prop := (q.1.cls ≠ "java/lang/invoke/MethodHandle" ∧ q.1.cls ≠ "java/lang/invoke/VarHandle") ∧ Cond.instantiable q.1.cls q.2 ∈ tables_1 ∧ Cond.privateMethod q.1 ∈ tables_1 ∧ Cond.instanceMethod q.1 ∈ tables_1
theorem lw_p0 : lw_okq (⟨"OneTriangle$Piece", "understand", "()V"⟩, 10) := ⟨⟨by decide +kernel, by decide +kernel⟩, List.mem_of_getElem? (i := 26) (by decide +kernel), List.mem_of_getElem? (i := 288) (by decide +kernel), List.mem_of_getElem? (i := 289) (by decide +kernel)⟩
theorem lw_p1 : lw_okq (⟨"OneTriangle$Piece", "byteAt", "(I)I"⟩, 10) := ⟨⟨by decide +kernel, by decide +kernel⟩, List.mem_of_getElem? (i := 26) (by decide +kernel), List.mem_of_getElem? (i := 292) (by decide +kernel), List.mem_of_getElem? (i := 293) (by decide +kernel)⟩
theorem lw_p2 : lw_okq (⟨"OneTriangle$Piece", "passed", "(I)I"⟩, 10) := ⟨⟨by decide +kernel, by decide +kernel⟩, List.mem_of_getElem? (i := 26) (by decide +kernel), List.mem_of_getElem? (i := 299) (by decide +kernel), List.mem_of_getElem? (i := 300) (by decide +kernel)⟩
theorem lw_p3 : lw_okq (⟨"OneTriangle$Piece", "passedPlain", "(I)I"⟩, 10) := ⟨⟨by decide +kernel, by decide +kernel⟩, List.mem_of_getElem? (i := 26) (by decide +kernel), List.mem_of_getElem? (i := 303) (by decide +kernel), List.mem_of_getElem? (i := 304) (by decide +kernel)⟩
theorem lw_p4 : lw_okq (⟨"OneTriangle$Piece", "faultAt", "(I)I"⟩, 10) := ⟨⟨by decide +kernel, by decide +kernel⟩, List.mem_of_getElem? (i := 26) (by decide +kernel), List.mem_of_getElem? (i := 308) (by decide +kernel), List.mem_of_getElem? (i := 309) (by decide +kernel)⟩
theorem lw_p5 : lw_okq (⟨"OneTriangle$Piece", "addBars", "(II)Z"⟩, 10) := ⟨⟨by decide +kernel, by decide +kernel⟩, List.mem_of_getElem? (i := 26) (by decide +kernel), List.mem_of_getElem? (i := 312) (by decide +kernel), List.mem_of_getElem? (i := 313) (by decide +kernel)⟩
theorem lw_p6 : lw_okq (⟨"OneTriangle$Piece", "passedLoose", "(II)I"⟩, 10) := ⟨⟨by decide +kernel, by decide +kernel⟩, List.mem_of_getElem? (i := 26) (by decide +kernel), List.mem_of_getElem? (i := 319) (by decide +kernel), List.mem_of_getElem? (i := 320) (by decide +kernel)⟩
theorem lw_p7 : lw_okq (⟨"OneTriangle$Piece", "passedCue", "(I)I"⟩, 10) := ⟨⟨by decide +kernel, by decide +kernel⟩, List.mem_of_getElem? (i := 26) (by decide +kernel), List.mem_of_getElem? (i := 323) (by decide +kernel), List.mem_of_getElem? (i := 324) (by decide +kernel)⟩
theorem lw_p8 : lw_okq (⟨"OneTriangle", "sheetAt", "(I)LOneTriangle$Sheet;"⟩, 13) := ⟨⟨by decide +kernel, by decide +kernel⟩, List.mem_of_getElem? (i := 18) (by decide +kernel), List.mem_of_getElem? (i := 403) (by decide +kernel), List.mem_of_getElem? (i := 404) (by decide +kernel)⟩
theorem lw_p9 : lw_okq (⟨"OneTriangle", "found", "(I)I"⟩, 13) := ⟨⟨by decide +kernel, by decide +kernel⟩, List.mem_of_getElem? (i := 18) (by decide +kernel), List.mem_of_getElem? (i := 407) (by decide +kernel), List.mem_of_getElem? (i := 408) (by decide +kernel)⟩
theorem lw_p10 : lw_okq (⟨"OneTriangle", "addNote", "(III)I"⟩, 13) := ⟨⟨by decide +kernel, by decide +kernel⟩, List.mem_of_getElem? (i := 18) (by decide +kernel), List.mem_of_getElem? (i := 431) (by decide +kernel), List.mem_of_getElem? (i := 432) (by decide +kernel)⟩
theorem lw_p11 : lw_okq (⟨"OneTriangle", "refreshWays", "()V"⟩, 13) := ⟨⟨by decide +kernel, by decide +kernel⟩, List.mem_of_getElem? (i := 18) (by decide +kernel), List.mem_of_getElem? (i := 458) (by decide +kernel), List.mem_of_getElem? (i := 459) (by decide +kernel)⟩
theorem lw_p12 : lw_okq (⟨"OneTriangle$Ways", "pass", "(II)V"⟩, 8) := ⟨⟨by decide +kernel, by decide +kernel⟩, List.mem_of_getElem? (i := 113) (by decide +kernel), List.mem_of_getElem? (i := 476) (by decide +kernel), List.mem_of_getElem? (i := 477) (by decide +kernel)⟩
theorem lw_p13 : lw_okq (⟨"OneTriangle$Ways", "addSaid", "(IIJ)V"⟩, 8) := ⟨⟨by decide +kernel, by decide +kernel⟩, List.mem_of_getElem? (i := 113) (by decide +kernel), List.mem_of_getElem? (i := 490) (by decide +kernel), List.mem_of_getElem? (i := 491) (by decide +kernel)⟩
theorem lw_p14 : lw_okq (⟨"OneTriangle", "costAbove", "(I)J"⟩, 13) := ⟨⟨by decide +kernel, by decide +kernel⟩, List.mem_of_getElem? (i := 18) (by decide +kernel), List.mem_of_getElem? (i := 528) (by decide +kernel), List.mem_of_getElem? (i := 529) (by decide +kernel)⟩
theorem lw_p15 : lw_okq (⟨"OneTriangle$Spread", "drift", "(III)V"⟩, 3) := ⟨⟨by decide +kernel, by decide +kernel⟩, List.mem_of_getElem? (i := 145) (by decide +kernel), List.mem_of_getElem? (i := 555) (by decide +kernel), List.mem_of_getElem? (i := 556) (by decide +kernel)⟩
def lw_privs_1 : List (MethodName × Nat) := [(⟨"OneTriangle$Piece", "understand", "()V"⟩, 10), (⟨"OneTriangle$Piece", "byteAt", "(I)I"⟩, 10), (⟨"OneTriangle$Piece", "passed", "(I)I"⟩, 10), (⟨"OneTriangle$Piece", "passedPlain", "(I)I"⟩, 10), (⟨"OneTriangle$Piece", "faultAt", "(I)I"⟩, 10), (⟨"OneTriangle$Piece", "addBars", "(II)Z"⟩, 10), (⟨"OneTriangle$Piece", "passedLoose", "(II)I"⟩, 10), (⟨"OneTriangle$Piece", "passedCue", "(I)I"⟩, 10), (⟨"OneTriangle", "sheetAt", "(I)LOneTriangle$Sheet;"⟩, 13), (⟨"OneTriangle", "found", "(I)I"⟩, 13), (⟨"OneTriangle", "addNote", "(III)I"⟩, 13), (⟨"OneTriangle", "refreshWays", "()V"⟩, 13), (⟨"OneTriangle$Ways", "pass", "(II)V"⟩, 8), (⟨"OneTriangle$Ways", "addSaid", "(IIJ)V"⟩, 8), (⟨"OneTriangle", "costAbove", "(I)J"⟩, 13), (⟨"OneTriangle$Spread", "drift", "(III)V"⟩, 3)]
theorem lw_r1 : ∀ q ∈ lw_privs_1, lw_okq q := List.forall_mem_cons.mpr ⟨lw_p0, List.forall_mem_cons.mpr ⟨lw_p1, List.forall_mem_cons.mpr ⟨lw_p2, List.forall_mem_cons.mpr ⟨lw_p3, List.forall_mem_cons.mpr ⟨lw_p4, List.forall_mem_cons.mpr ⟨lw_p5, List.forall_mem_cons.mpr ⟨lw_p6, List.forall_mem_cons.mpr ⟨lw_p7, List.forall_mem_cons.mpr ⟨lw_p8, List.forall_mem_cons.mpr ⟨lw_p9, List.forall_mem_cons.mpr ⟨lw_p10, List.forall_mem_cons.mpr ⟨lw_p11, List.forall_mem_cons.mpr ⟨lw_p12, List.forall_mem_cons.mpr ⟨lw_p13, List.forall_mem_cons.mpr ⟨lw_p14, List.forall_mem_cons.mpr ⟨lw_p15, fun _ h => absurd h List.not_mem_nil⟩⟩⟩⟩⟩⟩⟩⟩⟩⟩⟩⟩⟩⟩⟩⟩
theorem lw_p16 : lw_okq (⟨"OneTriangle$Spread", "gather", "(I)V"⟩, 3) := ⟨⟨by decide +kernel, by decide +kernel⟩, List.mem_of_getElem? (i := 145) (by decide +kernel), List.mem_of_getElem? (i := 564) (by decide +kernel), List.mem_of_getElem? (i := 565) (by decide +kernel)⟩
theorem lw_p17 : lw_okq (⟨"OneTriangle", "safety", "(I)J"⟩, 13) := ⟨⟨by decide +kernel, by decide +kernel⟩, List.mem_of_getElem? (i := 18) (by decide +kernel), List.mem_of_getElem? (i := 584) (by decide +kernel), List.mem_of_getElem? (i := 585) (by decide +kernel)⟩
theorem lw_p18 : lw_okq (⟨"OneTriangle", "comeTo", "(I)Z"⟩, 13) := ⟨⟨by decide +kernel, by decide +kernel⟩, List.mem_of_getElem? (i := 18) (by decide +kernel), List.mem_of_getElem? (i := 615) (by decide +kernel), List.mem_of_getElem? (i := 616) (by decide +kernel)⟩
theorem lw_p19 : lw_okq (⟨"OneTriangle", "trueLater", "()J"⟩, 13) := ⟨⟨by decide +kernel, by decide +kernel⟩, List.mem_of_getElem? (i := 18) (by decide +kernel), List.mem_of_getElem? (i := 620) (by decide +kernel), List.mem_of_getElem? (i := 621) (by decide +kernel)⟩
theorem lw_p20 : lw_okq (⟨"OneTriangle$Diary", "isWrong", "(I)Z"⟩, 3) := ⟨⟨by decide +kernel, by decide +kernel⟩, List.mem_of_getElem? (i := 184) (by decide +kernel), List.mem_of_getElem? (i := 683) (by decide +kernel), List.mem_of_getElem? (i := 684) (by decide +kernel)⟩
theorem lw_p21 : lw_okq (⟨"OneTriangle", "slipOfNight", "()I"⟩, 13) := ⟨⟨by decide +kernel, by decide +kernel⟩, List.mem_of_getElem? (i := 18) (by decide +kernel), List.mem_of_getElem? (i := 701) (by decide +kernel), List.mem_of_getElem? (i := 702) (by decide +kernel)⟩
theorem lw_p22 : lw_okq (⟨"OneTriangleModel", "faultNow", "()I"⟩, 36) := ⟨⟨by decide +kernel, by decide +kernel⟩, List.mem_of_getElem? (i := 788) (by decide +kernel), List.mem_of_getElem? (i := 923) (by decide +kernel), List.mem_of_getElem? (i := 924) (by decide +kernel)⟩
theorem lw_p23 : lw_okq (⟨"OneTriangleModel", "readsPiece", "()I"⟩, 36) := ⟨⟨by decide +kernel, by decide +kernel⟩, List.mem_of_getElem? (i := 788) (by decide +kernel), List.mem_of_getElem? (i := 927) (by decide +kernel), List.mem_of_getElem? (i := 928) (by decide +kernel)⟩
theorem lw_p24 : lw_okq (⟨"OneTriangleModel", "figureAt", "(I)I"⟩, 36) := ⟨⟨by decide +kernel, by decide +kernel⟩, List.mem_of_getElem? (i := 788) (by decide +kernel), List.mem_of_getElem? (i := 931) (by decide +kernel), List.mem_of_getElem? (i := 932) (by decide +kernel)⟩
theorem lw_p25 : lw_okq (⟨"OneTriangleModel", "adds", "(II)V"⟩, 36) := ⟨⟨by decide +kernel, by decide +kernel⟩, List.mem_of_getElem? (i := 788) (by decide +kernel), List.mem_of_getElem? (i := 935) (by decide +kernel), List.mem_of_getElem? (i := 936) (by decide +kernel)⟩
theorem lw_p26 : lw_okq (⟨"OneTriangleModel", "isBar", "(I)Z"⟩, 36) := ⟨⟨by decide +kernel, by decide +kernel⟩, List.mem_of_getElem? (i := 788) (by decide +kernel), List.mem_of_getElem? (i := 943) (by decide +kernel), List.mem_of_getElem? (i := 944) (by decide +kernel)⟩
theorem lw_p27 : lw_okq (⟨"OneTriangleModel", "reads", "()V"⟩, 36) := ⟨⟨by decide +kernel, by decide +kernel⟩, List.mem_of_getElem? (i := 788) (by decide +kernel), List.mem_of_getElem? (i := 947) (by decide +kernel), List.mem_of_getElem? (i := 948) (by decide +kernel)⟩
theorem lw_p28 : lw_okq (⟨"OneTriangleModel", "barOf", "(II)I"⟩, 36) := ⟨⟨by decide +kernel, by decide +kernel⟩, List.mem_of_getElem? (i := 788) (by decide +kernel), List.mem_of_getElem? (i := 951) (by decide +kernel), List.mem_of_getElem? (i := 952) (by decide +kernel)⟩
theorem lw_p29 : lw_okq (⟨"OneTriangleModel", "meets", "(I)I"⟩, 36) := ⟨⟨by decide +kernel, by decide +kernel⟩, List.mem_of_getElem? (i := 788) (by decide +kernel), List.mem_of_getElem? (i := 970) (by decide +kernel), List.mem_of_getElem? (i := 971) (by decide +kernel)⟩
theorem lw_p30 : lw_okq (⟨"OneTriangleModel", "notesMore", "(III)I"⟩, 36) := ⟨⟨by decide +kernel, by decide +kernel⟩, List.mem_of_getElem? (i := 788) (by decide +kernel), List.mem_of_getElem? (i := 981) (by decide +kernel), List.mem_of_getElem? (i := 982) (by decide +kernel)⟩
theorem lw_p31 : lw_okq (⟨"OneTriangleModel", "whereOf", "(III)J"⟩, 36) := ⟨⟨by decide +kernel, by decide +kernel⟩, List.mem_of_getElem? (i := 788) (by decide +kernel), List.mem_of_getElem? (i := 997) (by decide +kernel), List.mem_of_getElem? (i := 998) (by decide +kernel)⟩
def lw_privs_2 : List (MethodName × Nat) := [(⟨"OneTriangle$Spread", "gather", "(I)V"⟩, 3), (⟨"OneTriangle", "safety", "(I)J"⟩, 13), (⟨"OneTriangle", "comeTo", "(I)Z"⟩, 13), (⟨"OneTriangle", "trueLater", "()J"⟩, 13), (⟨"OneTriangle$Diary", "isWrong", "(I)Z"⟩, 3), (⟨"OneTriangle", "slipOfNight", "()I"⟩, 13), (⟨"OneTriangleModel", "faultNow", "()I"⟩, 36), (⟨"OneTriangleModel", "readsPiece", "()I"⟩, 36), (⟨"OneTriangleModel", "figureAt", "(I)I"⟩, 36), (⟨"OneTriangleModel", "adds", "(II)V"⟩, 36), (⟨"OneTriangleModel", "isBar", "(I)Z"⟩, 36), (⟨"OneTriangleModel", "reads", "()V"⟩, 36), (⟨"OneTriangleModel", "barOf", "(II)I"⟩, 36), (⟨"OneTriangleModel", "meets", "(I)I"⟩, 36), (⟨"OneTriangleModel", "notesMore", "(III)I"⟩, 36), (⟨"OneTriangleModel", "whereOf", "(III)J"⟩, 36)]
theorem lw_r2 : ∀ q ∈ lw_privs_2, lw_okq q := List.forall_mem_cons.mpr ⟨lw_p16, List.forall_mem_cons.mpr ⟨lw_p17, List.forall_mem_cons.mpr ⟨lw_p18, List.forall_mem_cons.mpr ⟨lw_p19, List.forall_mem_cons.mpr ⟨lw_p20, List.forall_mem_cons.mpr ⟨lw_p21, List.forall_mem_cons.mpr ⟨lw_p22, List.forall_mem_cons.mpr ⟨lw_p23, List.forall_mem_cons.mpr ⟨lw_p24, List.forall_mem_cons.mpr ⟨lw_p25, List.forall_mem_cons.mpr ⟨lw_p26, List.forall_mem_cons.mpr ⟨lw_p27, List.forall_mem_cons.mpr ⟨lw_p28, List.forall_mem_cons.mpr ⟨lw_p29, List.forall_mem_cons.mpr ⟨lw_p30, List.forall_mem_cons.mpr ⟨lw_p31, fun _ h => absurd h List.not_mem_nil⟩⟩⟩⟩⟩⟩⟩⟩⟩⟩⟩⟩⟩⟩⟩⟩
theorem lw_p32 : lw_okq (⟨"OneTriangleModel", "findsWhere", "(I)V"⟩, 36) := ⟨⟨by decide +kernel, by decide +kernel⟩, List.mem_of_getElem? (i := 788) (by decide +kernel), List.mem_of_getElem? (i := 1001) (by decide +kernel), List.mem_of_getElem? (i := 1002) (by decide +kernel)⟩
theorem lw_p33 : lw_okq (⟨"OneTriangleModel", "saysOdds", "(II)I"⟩, 36) := ⟨⟨by decide +kernel, by decide +kernel⟩, List.mem_of_getElem? (i := 788) (by decide +kernel), List.mem_of_getElem? (i := 1006) (by decide +kernel), List.mem_of_getElem? (i := 1007) (by decide +kernel)⟩
theorem lw_p34 : lw_okq (⟨"OneTriangleModel", "notesWeigh", "(II)J"⟩, 36) := ⟨⟨by decide +kernel, by decide +kernel⟩, List.mem_of_getElem? (i := 788) (by decide +kernel), List.mem_of_getElem? (i := 1010) (by decide +kernel), List.mem_of_getElem? (i := 1011) (by decide +kernel)⟩
theorem lw_p35 : lw_okq (⟨"OneTriangleModel", "likeliestOf", "(I)I"⟩, 36) := ⟨⟨by decide +kernel, by decide +kernel⟩, List.mem_of_getElem? (i := 788) (by decide +kernel), List.mem_of_getElem? (i := 1025) (by decide +kernel), List.mem_of_getElem? (i := 1026) (by decide +kernel)⟩
theorem lw_p36 : lw_okq (⟨"OneTriangleModel", "strikeOf", "(II)J"⟩, 36) := ⟨⟨by decide +kernel, by decide +kernel⟩, List.mem_of_getElem? (i := 788) (by decide +kernel), List.mem_of_getElem? (i := 1033) (by decide +kernel), List.mem_of_getElem? (i := 1034) (by decide +kernel)⟩
theorem lw_p37 : lw_okq (⟨"OneTriangleModel", "lineNow", "()I"⟩, 36) := ⟨⟨by decide +kernel, by decide +kernel⟩, List.mem_of_getElem? (i := 788) (by decide +kernel), List.mem_of_getElem? (i := 1041) (by decide +kernel), List.mem_of_getElem? (i := 1042) (by decide +kernel)⟩
theorem lw_p38 : lw_okq (⟨"OneTriangleModel", "slipsOf", "(III)J"⟩, 36) := ⟨⟨by decide +kernel, by decide +kernel⟩, List.mem_of_getElem? (i := 788) (by decide +kernel), List.mem_of_getElem? (i := 1052) (by decide +kernel), List.mem_of_getElem? (i := 1053) (by decide +kernel)⟩
theorem lw_p39 : lw_okq (⟨"OneTriangleModel", "findsSlips", "(III)V"⟩, 36) := ⟨⟨by decide +kernel, by decide +kernel⟩, List.mem_of_getElem? (i := 788) (by decide +kernel), List.mem_of_getElem? (i := 1056) (by decide +kernel), List.mem_of_getElem? (i := 1057) (by decide +kernel)⟩
theorem lw_p40 : lw_okq (⟨"OneTriangleModel", "slipLoose", "(II)V"⟩, 36) := ⟨⟨by decide +kernel, by decide +kernel⟩, List.mem_of_getElem? (i := 788) (by decide +kernel), List.mem_of_getElem? (i := 1060) (by decide +kernel), List.mem_of_getElem? (i := 1061) (by decide +kernel)⟩
theorem lw_p41 : lw_okq (⟨"OneTriangleModel", "missedIn", "(II)I"⟩, 36) := ⟨⟨by decide +kernel, by decide +kernel⟩, List.mem_of_getElem? (i := 788) (by decide +kernel), List.mem_of_getElem? (i := 1064) (by decide +kernel), List.mem_of_getElem? (i := 1065) (by decide +kernel)⟩
theorem lw_p42 : lw_okq (⟨"OneTriangleModel", "isSome", "(I)Z"⟩, 36) := ⟨⟨by decide +kernel, by decide +kernel⟩, List.mem_of_getElem? (i := 788) (by decide +kernel), List.mem_of_getElem? (i := 1075) (by decide +kernel), List.mem_of_getElem? (i := 1076) (by decide +kernel)⟩
theorem lw_p43 : lw_okq (⟨"OneTriangleModel", "safeOf", "(II)J"⟩, 36) := ⟨⟨by decide +kernel, by decide +kernel⟩, List.mem_of_getElem? (i := 788) (by decide +kernel), List.mem_of_getElem? (i := 1082) (by decide +kernel), List.mem_of_getElem? (i := 1083) (by decide +kernel)⟩
theorem lw_p44 : lw_okq (⟨"OneTriangleModel", "safeBy", "(I)J"⟩, 36) := ⟨⟨by decide +kernel, by decide +kernel⟩, List.mem_of_getElem? (i := 788) (by decide +kernel), List.mem_of_getElem? (i := 1086) (by decide +kernel), List.mem_of_getElem? (i := 1087) (by decide +kernel)⟩
theorem lw_p45 : lw_okq (⟨"OneTriangleModel", "cuesNow", "()I"⟩, 36) := ⟨⟨by decide +kernel, by decide +kernel⟩, List.mem_of_getElem? (i := 788) (by decide +kernel), List.mem_of_getElem? (i := 1094) (by decide +kernel), List.mem_of_getElem? (i := 1095) (by decide +kernel)⟩
theorem lw_p46 : lw_okq (⟨"OneTriangleModel", "writeOf", "(I)I"⟩, 36) := ⟨⟨by decide +kernel, by decide +kernel⟩, List.mem_of_getElem? (i := 788) (by decide +kernel), List.mem_of_getElem? (i := 1098) (by decide +kernel), List.mem_of_getElem? (i := 1099) (by decide +kernel)⟩
theorem lw_p47 : lw_okq (⟨"OneTriangleModel", "fewOf", "(I)I"⟩, 36) := ⟨⟨by decide +kernel, by decide +kernel⟩, List.mem_of_getElem? (i := 788) (by decide +kernel), List.mem_of_getElem? (i := 1107) (by decide +kernel), List.mem_of_getElem? (i := 1108) (by decide +kernel)⟩
def lw_privs_3 : List (MethodName × Nat) := [(⟨"OneTriangleModel", "findsWhere", "(I)V"⟩, 36), (⟨"OneTriangleModel", "saysOdds", "(II)I"⟩, 36), (⟨"OneTriangleModel", "notesWeigh", "(II)J"⟩, 36), (⟨"OneTriangleModel", "likeliestOf", "(I)I"⟩, 36), (⟨"OneTriangleModel", "strikeOf", "(II)J"⟩, 36), (⟨"OneTriangleModel", "lineNow", "()I"⟩, 36), (⟨"OneTriangleModel", "slipsOf", "(III)J"⟩, 36), (⟨"OneTriangleModel", "findsSlips", "(III)V"⟩, 36), (⟨"OneTriangleModel", "slipLoose", "(II)V"⟩, 36), (⟨"OneTriangleModel", "missedIn", "(II)I"⟩, 36), (⟨"OneTriangleModel", "isSome", "(I)Z"⟩, 36), (⟨"OneTriangleModel", "safeOf", "(II)J"⟩, 36), (⟨"OneTriangleModel", "safeBy", "(I)J"⟩, 36), (⟨"OneTriangleModel", "cuesNow", "()I"⟩, 36), (⟨"OneTriangleModel", "writeOf", "(I)I"⟩, 36), (⟨"OneTriangleModel", "fewOf", "(I)I"⟩, 36)]
theorem lw_r3 : ∀ q ∈ lw_privs_3, lw_okq q := List.forall_mem_cons.mpr ⟨lw_p32, List.forall_mem_cons.mpr ⟨lw_p33, List.forall_mem_cons.mpr ⟨lw_p34, List.forall_mem_cons.mpr ⟨lw_p35, List.forall_mem_cons.mpr ⟨lw_p36, List.forall_mem_cons.mpr ⟨lw_p37, List.forall_mem_cons.mpr ⟨lw_p38, List.forall_mem_cons.mpr ⟨lw_p39, List.forall_mem_cons.mpr ⟨lw_p40, List.forall_mem_cons.mpr ⟨lw_p41, List.forall_mem_cons.mpr ⟨lw_p42, List.forall_mem_cons.mpr ⟨lw_p43, List.forall_mem_cons.mpr ⟨lw_p44, List.forall_mem_cons.mpr ⟨lw_p45, List.forall_mem_cons.mpr ⟨lw_p46, List.forall_mem_cons.mpr ⟨lw_p47, fun _ h => absurd h List.not_mem_nil⟩⟩⟩⟩⟩⟩⟩⟩⟩⟩⟩⟩⟩⟩⟩⟩
theorem lw_p48 : lw_okq (⟨"OneTriangleModel", "anewOf", "(I)I"⟩, 36) := ⟨⟨by decide +kernel, by decide +kernel⟩, List.mem_of_getElem? (i := 788) (by decide +kernel), List.mem_of_getElem? (i := 1115) (by decide +kernel), List.mem_of_getElem? (i := 1116) (by decide +kernel)⟩
theorem lw_p49 : lw_okq (⟨"OneTriangleModel", "eveningOf", "(II)J"⟩, 36) := ⟨⟨by decide +kernel, by decide +kernel⟩, List.mem_of_getElem? (i := 788) (by decide +kernel), List.mem_of_getElem? (i := 1127) (by decide +kernel), List.mem_of_getElem? (i := 1128) (by decide +kernel)⟩
theorem lw_p50 : lw_okq (⟨"OneTriangleModel", "eveningBy", "(I)J"⟩, 36) := ⟨⟨by decide +kernel, by decide +kernel⟩, List.mem_of_getElem? (i := 788) (by decide +kernel), List.mem_of_getElem? (i := 1131) (by decide +kernel), List.mem_of_getElem? (i := 1132) (by decide +kernel)⟩
theorem lw_p51 : lw_okq (⟨"OneTriangleModel", "primeOf", "(I)I"⟩, 36) := ⟨⟨by decide +kernel, by decide +kernel⟩, List.mem_of_getElem? (i := 788) (by decide +kernel), List.mem_of_getElem? (i := 1139) (by decide +kernel), List.mem_of_getElem? (i := 1140) (by decide +kernel)⟩
theorem lw_p52 : lw_okq (⟨"OneTriangleModel", "worthOf", "(I)I"⟩, 36) := ⟨⟨by decide +kernel, by decide +kernel⟩, List.mem_of_getElem? (i := 788) (by decide +kernel), List.mem_of_getElem? (i := 1155) (by decide +kernel), List.mem_of_getElem? (i := 1156) (by decide +kernel)⟩
theorem lw_p53 : lw_okq (⟨"OneTriangleModel", "looksBy", "(I)I"⟩, 36) := ⟨⟨by decide +kernel, by decide +kernel⟩, List.mem_of_getElem? (i := 788) (by decide +kernel), List.mem_of_getElem? (i := 1159) (by decide +kernel), List.mem_of_getElem? (i := 1160) (by decide +kernel)⟩
theorem lw_p54 : lw_okq (⟨"OneTriangleModel", "lookOf", "(I)I"⟩, 36) := ⟨⟨by decide +kernel, by decide +kernel⟩, List.mem_of_getElem? (i := 788) (by decide +kernel), List.mem_of_getElem? (i := 1167) (by decide +kernel), List.mem_of_getElem? (i := 1168) (by decide +kernel)⟩
theorem lw_p55 : lw_okq (⟨"OneTriangleModel", "wrongOf", "(I)I"⟩, 36) := ⟨⟨by decide +kernel, by decide +kernel⟩, List.mem_of_getElem? (i := 788) (by decide +kernel), List.mem_of_getElem? (i := 1183) (by decide +kernel), List.mem_of_getElem? (i := 1184) (by decide +kernel)⟩
theorem lw_p56 : lw_okq (⟨"OneTriangleModel", "blameNow", "()I"⟩, 36) := ⟨⟨by decide +kernel, by decide +kernel⟩, List.mem_of_getElem? (i := 788) (by decide +kernel), List.mem_of_getElem? (i := 1191) (by decide +kernel), List.mem_of_getElem? (i := 1192) (by decide +kernel)⟩
theorem lw_p57 : lw_okq (⟨"OneTriangleModel", "nightOf", "(II)I"⟩, 36) := ⟨⟨by decide +kernel, by decide +kernel⟩, List.mem_of_getElem? (i := 788) (by decide +kernel), List.mem_of_getElem? (i := 1199) (by decide +kernel), List.mem_of_getElem? (i := 1200) (by decide +kernel)⟩
theorem lw_p58 : lw_okq (⟨"OneTriangleModel", "lacks", "(III)I"⟩, 36) := ⟨⟨by decide +kernel, by decide +kernel⟩, List.mem_of_getElem? (i := 788) (by decide +kernel), List.mem_of_getElem? (i := 1216) (by decide +kernel), List.mem_of_getElem? (i := 1217) (by decide +kernel)⟩
theorem lw_p59 : lw_okq (⟨"OneTriangleModel", "keep", "(III)V"⟩, 36) := ⟨⟨by decide +kernel, by decide +kernel⟩, List.mem_of_getElem? (i := 788) (by decide +kernel), List.mem_of_getElem? (i := 1220) (by decide +kernel), List.mem_of_getElem? (i := 1221) (by decide +kernel)⟩
theorem lw_p60 : lw_okq (⟨"OneTriangleModel", "readsMany", "(I)I"⟩, 36) := ⟨⟨by decide +kernel, by decide +kernel⟩, List.mem_of_getElem? (i := 788) (by decide +kernel), List.mem_of_getElem? (i := 1241) (by decide +kernel), List.mem_of_getElem? (i := 1242) (by decide +kernel)⟩
theorem lw_p61 : lw_okq (⟨"OneTriangleModel", "numberDigest", "(JI)J"⟩, 36) := ⟨⟨by decide +kernel, by decide +kernel⟩, List.mem_of_getElem? (i := 788) (by decide +kernel), List.mem_of_getElem? (i := 1252) (by decide +kernel), List.mem_of_getElem? (i := 1253) (by decide +kernel)⟩
def lw_privs_4 : List (MethodName × Nat) := [(⟨"OneTriangleModel", "anewOf", "(I)I"⟩, 36), (⟨"OneTriangleModel", "eveningOf", "(II)J"⟩, 36), (⟨"OneTriangleModel", "eveningBy", "(I)J"⟩, 36), (⟨"OneTriangleModel", "primeOf", "(I)I"⟩, 36), (⟨"OneTriangleModel", "worthOf", "(I)I"⟩, 36), (⟨"OneTriangleModel", "looksBy", "(I)I"⟩, 36), (⟨"OneTriangleModel", "lookOf", "(I)I"⟩, 36), (⟨"OneTriangleModel", "wrongOf", "(I)I"⟩, 36), (⟨"OneTriangleModel", "blameNow", "()I"⟩, 36), (⟨"OneTriangleModel", "nightOf", "(II)I"⟩, 36), (⟨"OneTriangleModel", "lacks", "(III)I"⟩, 36), (⟨"OneTriangleModel", "keep", "(III)V"⟩, 36), (⟨"OneTriangleModel", "readsMany", "(I)I"⟩, 36), (⟨"OneTriangleModel", "numberDigest", "(JI)J"⟩, 36)]
theorem lw_r4 : ∀ q ∈ lw_privs_4, lw_okq q := List.forall_mem_cons.mpr ⟨lw_p48, List.forall_mem_cons.mpr ⟨lw_p49, List.forall_mem_cons.mpr ⟨lw_p50, List.forall_mem_cons.mpr ⟨lw_p51, List.forall_mem_cons.mpr ⟨lw_p52, List.forall_mem_cons.mpr ⟨lw_p53, List.forall_mem_cons.mpr ⟨lw_p54, List.forall_mem_cons.mpr ⟨lw_p55, List.forall_mem_cons.mpr ⟨lw_p56, List.forall_mem_cons.mpr ⟨lw_p57, List.forall_mem_cons.mpr ⟨lw_p58, List.forall_mem_cons.mpr ⟨lw_p59, List.forall_mem_cons.mpr ⟨lw_p60, List.forall_mem_cons.mpr ⟨lw_p61, fun _ h => absurd h List.not_mem_nil⟩⟩⟩⟩⟩⟩⟩⟩⟩⟩⟩⟩⟩⟩
def lw_privs : List (MethodName × Nat) := lw_privs_1 ++ (lw_privs_2 ++ (lw_privs_3 ++ (lw_privs_4)))
def lw_tbl : List Cond := k2_sels lw_privs ++ tables_1
theorem lw_privs_ok : ∀ q ∈ lw_privs, lw_okq q := by
  show ∀ q ∈ lw_privs_1 ++ (lw_privs_2 ++ (lw_privs_3 ++ (lw_privs_4))), lw_okq q
  exact List.forall_mem_append.mpr ⟨lw_r1, List.forall_mem_append.mpr ⟨lw_r2, List.forall_mem_append.mpr ⟨lw_r3, lw_r4⟩⟩⟩
def RX0 : String := "OneTriangle$Diary"
def TX0 : u_T := fun k => match k with
  | 0 => ("OneTriangle$Diary", "numbers", "[I", true)
  | 1 => ("OneTriangle$Diary", "size", "I", false)
  | _ => ("OneTriangle$Diary", "firstBar", "I", false)
def tyX0 : Nat → FieldType := fun k => match k with
  | 0 => .array .int
  | 1 => .int
  | _ => .int
theorem nmX0 : ∀ a, a < 3 → ∀ b, b < 3 → a ≠ b → (TX0 a).2.1 ≠ (TX0 b).2.1 := by decide +kernel
theorem tyX0_ok : ∀ k, k < 3 → parseFieldDescriptor (TX0 k).2.2.1 = some (tyX0 k) := by decide +kernel
abbrev cX0_init : ByteArray := prog_2_method_1_code
def yX0_init : MethodName := ⟨RX0, "<init>", "()V"⟩
abbrev cX0_clear : ByteArray := prog_2_method_2_code
def yX0_clear : MethodName := ⟨RX0, "clear", "()V"⟩
abbrev cX0_append : ByteArray := prog_2_method_3_code
def yX0_append : MethodName := ⟨RX0, "append", "(I)Z"⟩
abbrev cX0_firstWrong : ByteArray := prog_2_method_4_code
def yX0_firstWrong : MethodName := ⟨RX0, "firstWrong", "()I"⟩
abbrev cX0_allWrong : ByteArray := prog_2_method_5_code
def yX0_allWrong : MethodName := ⟨RX0, "allWrong", "()I"⟩
abbrev cX0_isWrong : ByteArray := prog_2_method_6_code
def yX0_isWrong : MethodName := ⟨RX0, "isWrong", "(I)Z"⟩
def RX1 : String := "OneTriangle$Lots"
def TX1 : u_T := fun k => match k with
  | _ => ("OneTriangle$Lots", "seed", "I", false)
def tyX1 : Nat → FieldType := fun k => match k with
  | _ => .int
theorem nmX1 : ∀ a, a < 1 → ∀ b, b < 1 → a ≠ b → (TX1 a).2.1 ≠ (TX1 b).2.1 := by decide +kernel
theorem tyX1_ok : ∀ k, k < 1 → parseFieldDescriptor (TX1 k).2.2.1 = some (tyX1 k) := by decide +kernel
abbrev cX1_init : ByteArray := prog_3_method_1_code
def yX1_init : MethodName := ⟨RX1, "<init>", "()V"⟩
abbrev cX1_draw : ByteArray := prog_3_method_2_code
def yX1_draw : MethodName := ⟨RX1, "draw", "()I"⟩
def RX2 : String := "OneTriangle$Notes"
def TX2 : u_T := fun k => match k with
  | 0 => ("OneTriangle$Notes", "numbers", "[I", true)
  | 1 => ("OneTriangle$Notes", "tunes", "[I", true)
  | 2 => ("OneTriangle$Notes", "shownBars", "[I", true)
  | _ => ("OneTriangle$Notes", "size", "I", false)
def tyX2 : Nat → FieldType := fun k => match k with
  | 0 => .array .int
  | 1 => .array .int
  | 2 => .array .int
  | _ => .int
theorem nmX2 : ∀ a, a < 4 → ∀ b, b < 4 → a ≠ b → (TX2 a).2.1 ≠ (TX2 b).2.1 := by decide +kernel
theorem tyX2_ok : ∀ k, k < 4 → parseFieldDescriptor (TX2 k).2.2.1 = some (tyX2 k) := by decide +kernel
abbrev cX2_init : ByteArray := prog_4_method_1_code
def yX2_init : MethodName := ⟨RX2, "<init>", "()V"⟩
abbrev cX2_append : ByteArray := prog_4_method_2_code
def yX2_append : MethodName := ⟨RX2, "append", "(III)Z"⟩
abbrev cX2_weigh : ByteArray := prog_4_method_3_code
def yX2_weigh : MethodName := ⟨RX2, "weigh", "(IIILOneTriangle$Settings;)J"⟩
def RX3 : String := "OneTriangle$Odds"
def TX3 : u_T := fun k => match k with
  | 0 => ("OneTriangle$Odds", "missed", "[I", true)
  | _ => ("OneTriangle$Odds", "doubled", "[I", true)
def tyX3 : Nat → FieldType := fun k => match k with
  | 0 => .array .int
  | _ => .array .int
theorem nmX3 : ∀ a, a < 2 → ∀ b, b < 2 → a ≠ b → (TX3 a).2.1 ≠ (TX3 b).2.1 := by decide +kernel
theorem tyX3_ok : ∀ k, k < 2 → parseFieldDescriptor (TX3 k).2.2.1 = some (tyX3 k) := by decide +kernel
abbrev cX3_init : ByteArray := prog_5_method_1_code
def yX3_init : MethodName := ⟨RX3, "<init>", "()V"⟩
abbrev cX3_missedOf : ByteArray := prog_5_method_2_code
def yX3_missedOf : MethodName := ⟨RX3, "missedOf", "(I)I"⟩
abbrev cX3_doubledOf : ByteArray := prog_5_method_3_code
def yX3_doubledOf : MethodName := ⟨RX3, "doubledOf", "(I)I"⟩
abbrev cX3_become : ByteArray := prog_5_method_4_code
def yX3_become : MethodName := ⟨RX3, "become", "(III)V"⟩
def RX4 : String := "OneTriangle$Piece"
def TX4 : u_T := fun k => match k with
  | 0 => ("OneTriangle$Piece", "bytes", "[I", true)
  | 1 => ("OneTriangle$Piece", "kinds", "[I", true)
  | 2 => ("OneTriangle$Piece", "cueByBar", "[I", true)
  | 3 => ("OneTriangle$Piece", "tunes", "[I", true)
  | 4 => ("OneTriangle$Piece", "barByCue", "[I", true)
  | 5 => ("OneTriangle$Piece", "size", "I", false)
  | 6 => ("OneTriangle$Piece", "bars", "I", false)
  | 7 => ("OneTriangle$Piece", "loose", "I", false)
  | 8 => ("OneTriangle$Piece", "cues", "I", false)
  | _ => ("OneTriangle$Piece", "faultPlace", "I", false)
def tyX4 : Nat → FieldType := fun k => match k with
  | 0 => .array .int
  | 1 => .array .int
  | 2 => .array .int
  | 3 => .array .int
  | 4 => .array .int
  | 5 => .int
  | 6 => .int
  | 7 => .int
  | 8 => .int
  | _ => .int
theorem nmX4 : ∀ a, a < 10 → ∀ b, b < 10 → a ≠ b → (TX4 a).2.1 ≠ (TX4 b).2.1 := by decide +kernel
theorem tyX4_ok : ∀ k, k < 10 → parseFieldDescriptor (TX4 k).2.2.1 = some (tyX4 k) := by decide +kernel
abbrev cX4_init : ByteArray := prog_6_method_1_code
def yX4_init : MethodName := ⟨RX4, "<init>", "()V"⟩
abbrev cX4_append : ByteArray := prog_6_method_2_code
def yX4_append : MethodName := ⟨RX4, "append", "(I)Z"⟩
abbrev cX4_shorten : ByteArray := prog_6_method_3_code
def yX4_shorten : MethodName := ⟨RX4, "shorten", "(I)V"⟩
abbrev cX4_hasBar : ByteArray := prog_6_method_4_code
def yX4_hasBar : MethodName := ⟨RX4, "hasBar", "(I)Z"⟩
abbrev cX4_isLoose : ByteArray := prog_6_method_5_code
def yX4_isLoose : MethodName := ⟨RX4, "isLoose", "(I)Z"⟩
abbrev cX4_kindOf : ByteArray := prog_6_method_6_code
def yX4_kindOf : MethodName := ⟨RX4, "kindOf", "(I)I"⟩
abbrev cX4_cueIn : ByteArray := prog_6_method_7_code
def yX4_cueIn : MethodName := ⟨RX4, "cueIn", "(I)I"⟩
abbrev cX4_tuneOf : ByteArray := prog_6_method_8_code
def yX4_tuneOf : MethodName := ⟨RX4, "tuneOf", "(I)I"⟩
abbrev cX4_barOf : ByteArray := prog_6_method_9_code
def yX4_barOf : MethodName := ⟨RX4, "barOf", "(I)I"⟩
abbrev cX4_understand : ByteArray := prog_6_method_10_code
def yX4_understand : MethodName := ⟨RX4, "understand", "()V"⟩
abbrev cX4_byteAt : ByteArray := prog_6_method_11_code
def yX4_byteAt : MethodName := ⟨RX4, "byteAt", "(I)I"⟩
abbrev cX4_passed : ByteArray := prog_6_method_12_code
def yX4_passed : MethodName := ⟨RX4, "passed", "(I)I"⟩
abbrev cX4_passedPlain : ByteArray := prog_6_method_13_code
def yX4_passedPlain : MethodName := ⟨RX4, "passedPlain", "(I)I"⟩
abbrev cX4_passedLoose : ByteArray := prog_6_method_14_code
def yX4_passedLoose : MethodName := ⟨RX4, "passedLoose", "(II)I"⟩
abbrev cX4_passedCue : ByteArray := prog_6_method_15_code
def yX4_passedCue : MethodName := ⟨RX4, "passedCue", "(I)I"⟩
abbrev cX4_addBars : ByteArray := prog_6_method_16_code
def yX4_addBars : MethodName := ⟨RX4, "addBars", "(II)Z"⟩
abbrev cX4_faultAt : ByteArray := prog_6_method_17_code
def yX4_faultAt : MethodName := ⟨RX4, "faultAt", "(I)I"⟩
def RX5 : String := "OneTriangle$Players"
def TX5 : u_T := fun k => match k with
  | 0 => ("OneTriangle$Players", "bars", "[I", true)
  | 1 => ("OneTriangle$Players", "worths", "[I", true)
  | 2 => ("OneTriangle$Players", "order", "[I", true)
  | 3 => ("OneTriangle$Players", "looks", "[I", true)
  | _ => ("OneTriangle$Players", "size", "I", false)
def tyX5 : Nat → FieldType := fun k => match k with
  | 0 => .array .int
  | 1 => .array .int
  | 2 => .array .int
  | 3 => .array .int
  | _ => .int
theorem nmX5 : ∀ a, a < 5 → ∀ b, b < 5 → a ≠ b → (TX5 a).2.1 ≠ (TX5 b).2.1 := by decide +kernel
theorem tyX5_ok : ∀ k, k < 5 → parseFieldDescriptor (TX5 k).2.2.1 = some (tyX5 k) := by decide +kernel
abbrev cX5_init : ByteArray := prog_7_method_1_code
def yX5_init : MethodName := ⟨RX5, "<init>", "()V"⟩
abbrev cX5_append : ByteArray := prog_7_method_2_code
def yX5_append : MethodName := ⟨RX5, "append", "(II)Z"⟩
abbrev cX5_bestBits : ByteArray := prog_7_method_3_code
def yX5_bestBits : MethodName := ⟨RX5, "bestBits", "()I"⟩
abbrev cX5_plan : ByteArray := prog_7_method_4_code
def yX5_plan : MethodName := ⟨RX5, "plan", "(I)I"⟩
abbrev cX5_lookedAtIn : ByteArray := prog_7_method_5_code
def yX5_lookedAtIn : MethodName := ⟨RX5, "lookedAtIn", "(I)I"⟩
def RX6 : String := "OneTriangle$Settings"
def TX6 : u_T := fun k => match k with
  | _ => ("OneTriangle$Settings", "values", "[I", true)
def tyX6 : Nat → FieldType := fun k => match k with
  | _ => .array .int
theorem nmX6 : ∀ a, a < 1 → ∀ b, b < 1 → a ≠ b → (TX6 a).2.1 ≠ (TX6 b).2.1 := by decide +kernel
theorem tyX6_ok : ∀ k, k < 1 → parseFieldDescriptor (TX6 k).2.2.1 = some (tyX6 k) := by decide +kernel
abbrev cX6_init : ByteArray := prog_8_method_1_code
def yX6_init : MethodName := ⟨RX6, "<init>", "()V"⟩
abbrev cX6_most : ByteArray := prog_8_method_2_code
def yX6_most : MethodName := ⟨RX6, "most", "(I)I"⟩
abbrev cX6_valueOf : ByteArray := prog_8_method_3_code
def yX6_valueOf : MethodName := ⟨RX6, "valueOf", "(I)I"⟩
abbrev cX6_become : ByteArray := prog_8_method_4_code
def yX6_become : MethodName := ⟨RX6, "become", "(II)V"⟩
def RX7 : String := "OneTriangle$Sheet"
def TX7 : u_T := fun k => match k with
  | 0 => ("OneTriangle$Sheet", "items", "[I", true)
  | 1 => ("OneTriangle$Sheet", "lost", "Z", false)
  | 2 => ("OneTriangle$Sheet", "form", "I", false)
  | _ => ("OneTriangle$Sheet", "size", "I", false)
def tyX7 : Nat → FieldType := fun k => match k with
  | 0 => .array .int
  | 1 => .boolean
  | 2 => .int
  | _ => .int
theorem nmX7 : ∀ a, a < 4 → ∀ b, b < 4 → a ≠ b → (TX7 a).2.1 ≠ (TX7 b).2.1 := by decide +kernel
theorem tyX7_ok : ∀ k, k < 4 → parseFieldDescriptor (TX7 k).2.2.1 = some (tyX7 k) := by decide +kernel
abbrev cX7_init : ByteArray := prog_9_method_1_code
def yX7_init : MethodName := ⟨RX7, "<init>", "()V"⟩
abbrev cX7_renew : ByteArray := prog_9_method_2_code
def yX7_renew : MethodName := ⟨RX7, "renew", "(II)V"⟩
abbrev cX7_findingAt : ByteArray := prog_9_method_3_code
def yX7_findingAt : MethodName := ⟨RX7, "findingAt", "(II)I"⟩
abbrev cX7_hasItems : ByteArray := prog_9_method_4_code
def yX7_hasItems : MethodName := ⟨RX7, "hasItems", "(II)Z"⟩
abbrev cX7_itemOf : ByteArray := prog_9_method_5_code
def yX7_itemOf : MethodName := ⟨RX7, "itemOf", "(I)I"⟩
abbrev cX7_become : ByteArray := prog_9_method_6_code
def yX7_become : MethodName := ⟨RX7, "become", "(II)V"⟩
def RX8 : String := "OneTriangle$Spread"
def TX8 : u_T := fun k => match k with
  | 0 => ("OneTriangle$Spread", "piece", "LOneTriangle$Piece;", true)
  | 1 => ("OneTriangle$Spread", "now", "[J", true)
  | _ => ("OneTriangle$Spread", "next", "[J", true)
def tyX8 : Nat → FieldType := fun k => match k with
  | 0 => .object "OneTriangle$Piece"
  | 1 => .array .long
  | _ => .array .long
theorem nmX8 : ∀ a, a < 3 → ∀ b, b < 3 → a ≠ b → (TX8 a).2.1 ≠ (TX8 b).2.1 := by decide +kernel
theorem tyX8_ok : ∀ k, k < 3 → parseFieldDescriptor (TX8 k).2.2.1 = some (tyX8 k) := by decide +kernel
abbrev cX8_init : ByteArray := prog_10_method_1_code
def yX8_init : MethodName := ⟨RX8, "<init>", "(LOneTriangle$Piece;)V"⟩
abbrev cX8_chanceOf : ByteArray := prog_10_method_2_code
def yX8_chanceOf : MethodName := ⟨RX8, "chanceOf", "(I)J"⟩
abbrev cX8_walk : ByteArray := prog_10_method_3_code
def yX8_walk : MethodName := ⟨RX8, "walk", "(LOneTriangle$Odds;III)V"⟩
abbrev cX8_drift : ByteArray := prog_10_method_4_code
def yX8_drift : MethodName := ⟨RX8, "drift", "(III)V"⟩
abbrev cX8_gather : ByteArray := prog_10_method_5_code
def yX8_gather : MethodName := ⟨RX8, "gather", "(I)V"⟩
def RX9 : String := "OneTriangle$Ways"
def TX9 : u_T := fun k => match k with
  | 0 => ("OneTriangle$Ways", "piece", "LOneTriangle$Piece;", true)
  | 1 => ("OneTriangle$Ways", "odds", "LOneTriangle$Odds;", true)
  | 2 => ("OneTriangle$Ways", "notes", "LOneTriangle$Notes;", true)
  | 3 => ("OneTriangle$Ways", "settings", "LOneTriangle$Settings;", true)
  | 4 => ("OneTriangle$Ways", "said", "[J", true)
  | 5 => ("OneTriangle$Ways", "all", "[J", true)
  | 6 => ("OneTriangle$Ways", "now", "[J", true)
  | _ => ("OneTriangle$Ways", "next", "[J", true)
def tyX9 : Nat → FieldType := fun k => match k with
  | 0 => .object "OneTriangle$Piece"
  | 1 => .object "OneTriangle$Odds"
  | 2 => .object "OneTriangle$Notes"
  | 3 => .object "OneTriangle$Settings"
  | 4 => .array .long
  | 5 => .array .long
  | 6 => .array .long
  | _ => .array .long
theorem nmX9 : ∀ a, a < 8 → ∀ b, b < 8 → a ≠ b → (TX9 a).2.1 ≠ (TX9 b).2.1 := by decide +kernel
theorem tyX9_ok : ∀ k, k < 8 → parseFieldDescriptor (TX9 k).2.2.1 = some (tyX9 k) := by decide +kernel
abbrev cX9_init : ByteArray := prog_11_method_1_code
def yX9_init : MethodName := ⟨RX9, "<init>", "(LOneTriangle$Piece;LOneTriangle$Odds;LOneTriangle$Notes;LOneTriangle$Settings;)V"⟩
abbrev cX9_ofAll : ByteArray := prog_11_method_2_code
def yX9_ofAll : MethodName := ⟨RX9, "ofAll", "(I)J"⟩
abbrev cX9_saidIn : ByteArray := prog_11_method_3_code
def yX9_saidIn : MethodName := ⟨RX9, "saidIn", "(II)J"⟩
abbrev cX9_find : ByteArray := prog_11_method_4_code
def yX9_find : MethodName := ⟨RX9, "find", "()V"⟩
abbrev cX9_pass : ByteArray := prog_11_method_5_code
def yX9_pass : MethodName := ⟨RX9, "pass", "(II)V"⟩
abbrev cX9_addSaid : ByteArray := prog_11_method_6_code
def yX9_addSaid : MethodName := ⟨RX9, "addSaid", "(IIJ)V"⟩
def RX10 : String := "OneTriangle"
def TX10 : u_T := fun k => match k with
  | 0 => ("OneTriangle", "piece", "LOneTriangle$Piece;", true)
  | 1 => ("OneTriangle", "settings", "LOneTriangle$Settings;", true)
  | 2 => ("OneTriangle", "usual", "LOneTriangle$Odds;", true)
  | 3 => ("OneTriangle", "later", "LOneTriangle$Odds;", true)
  | 4 => ("OneTriangle", "notes", "LOneTriangle$Notes;", true)
  | 5 => ("OneTriangle", "ways", "LOneTriangle$Ways;", true)
  | 6 => ("OneTriangle", "spread", "LOneTriangle$Spread;", true)
  | 7 => ("OneTriangle", "players", "LOneTriangle$Players;", true)
  | 8 => ("OneTriangle", "diary", "LOneTriangle$Diary;", true)
  | 9 => ("OneTriangle", "lots", "LOneTriangle$Lots;", true)
  | 10 => ("OneTriangle", "sheets", "[LOneTriangle$Sheet;", true)
  | 11 => ("OneTriangle", "waysAreOld", "Z", false)
  | _ => ("OneTriangle", "latestFinding", "I", false)
def tyX10 : Nat → FieldType := fun k => match k with
  | 0 => .object "OneTriangle$Piece"
  | 1 => .object "OneTriangle$Settings"
  | 2 => .object "OneTriangle$Odds"
  | 3 => .object "OneTriangle$Odds"
  | 4 => .object "OneTriangle$Notes"
  | 5 => .object "OneTriangle$Ways"
  | 6 => .object "OneTriangle$Spread"
  | 7 => .object "OneTriangle$Players"
  | 8 => .object "OneTriangle$Diary"
  | 9 => .object "OneTriangle$Lots"
  | 10 => .array (.object "OneTriangle$Sheet")
  | 11 => .boolean
  | _ => .int
theorem nmX10 : ∀ a, a < 13 → ∀ b, b < 13 → a ≠ b → (TX10 a).2.1 ≠ (TX10 b).2.1 := by decide +kernel
theorem tyX10_ok : ∀ k, k < 13 → parseFieldDescriptor (TX10 k).2.2.1 = some (tyX10 k) := by decide +kernel
abbrev cX10_init : ByteArray := prog_1_method_1_code
def yX10_init : MethodName := ⟨RX10, "<init>", "()V"⟩
abbrev cX10_type : ByteArray := prog_1_method_2_code
def yX10_type : MethodName := ⟨RX10, "type", "(I)I"⟩
abbrev cX10_wipe : ByteArray := prog_1_method_3_code
def yX10_wipe : MethodName := ⟨RX10, "wipe", "()I"⟩
abbrev cX10_undo : ByteArray := prog_1_method_4_code
def yX10_undo : MethodName := ⟨RX10, "undo", "()I"⟩
abbrev cX10_fault : ByteArray := prog_1_method_5_code
def yX10_fault : MethodName := ⟨RX10, "fault", "()I"⟩
abbrev cX10_bar : ByteArray := prog_1_method_6_code
def yX10_bar : MethodName := ⟨RX10, "bar", "(II)I"⟩
abbrev cX10_odds : ByteArray := prog_1_method_7_code
def yX10_odds : MethodName := ⟨RX10, "odds", "(III)I"⟩
abbrev cX10_set : ByteArray := prog_1_method_8_code
def yX10_set : MethodName := ⟨RX10, "set", "(II)I"⟩
abbrev cX10_read : ByteArray := prog_1_method_9_code
def yX10_read : MethodName := ⟨RX10, "read", "(I)I"⟩
abbrev cX10_hear : ByteArray := prog_1_method_10_code
def yX10_hear : MethodName := ⟨RX10, "hear", "(II)I"⟩
abbrev cX10_shown : ByteArray := prog_1_method_11_code
def yX10_shown : MethodName := ⟨RX10, "shown", "(II)I"⟩
abbrev cX10_forget : ByteArray := prog_1_method_12_code
def yX10_forget : MethodName := ⟨RX10, "forget", "()I"⟩
abbrev cX10_where : ByteArray := prog_1_method_13_code
def yX10_where : MethodName := ⟨RX10, "where", "(III)J"⟩
abbrev cX10_likeliest : ByteArray := prog_1_method_14_code
def yX10_likeliest : MethodName := ⟨RX10, "likeliest", "(I)I"⟩
abbrev cX10_strike : ByteArray := prog_1_method_15_code
def yX10_strike : MethodName := ⟨RX10, "strike", "(II)J"⟩
abbrev cX10_line : ByteArray := prog_1_method_16_code
def yX10_line : MethodName := ⟨RX10, "line", "()I"⟩
abbrev cX10_slips : ByteArray := prog_1_method_17_code
def yX10_slips : MethodName := ⟨RX10, "slips", "(III)J"⟩
abbrev cX10_safe : ByteArray := prog_1_method_18_code
def yX10_safe : MethodName := ⟨RX10, "safe", "(II)J"⟩
abbrev cX10_write : ByteArray := prog_1_method_19_code
def yX10_write : MethodName := ⟨RX10, "write", "(I)I"⟩
abbrev cX10_few : ByteArray := prog_1_method_20_code
def yX10_few : MethodName := ⟨RX10, "few", "(I)I"⟩
abbrev cX10_anew : ByteArray := prog_1_method_21_code
def yX10_anew : MethodName := ⟨RX10, "anew", "(I)I"⟩
abbrev cX10_joint : ByteArray := prog_1_method_22_code
def yX10_joint : MethodName := ⟨RX10, "joint", "(III)J"⟩
abbrev cX10_evening : ByteArray := prog_1_method_23_code
def yX10_evening : MethodName := ⟨RX10, "evening", "(II)J"⟩
abbrev cX10_prime : ByteArray := prog_1_method_24_code
def yX10_prime : MethodName := ⟨RX10, "prime", "(I)I"⟩
abbrev cX10_player : ByteArray := prog_1_method_25_code
def yX10_player : MethodName := ⟨RX10, "player", "(II)I"⟩
abbrev cX10_leave : ByteArray := prog_1_method_26_code
def yX10_leave : MethodName := ⟨RX10, "leave", "()I"⟩
abbrev cX10_worth : ByteArray := prog_1_method_27_code
def yX10_worth : MethodName := ⟨RX10, "worth", "(I)I"⟩
abbrev cX10_look : ByteArray := prog_1_method_28_code
def yX10_look : MethodName := ⟨RX10, "look", "(I)I"⟩
abbrev cX10_from : ByteArray := prog_1_method_29_code
def yX10_from : MethodName := ⟨RX10, "from", "(I)I"⟩
abbrev cX10_said : ByteArray := prog_1_method_30_code
def yX10_said : MethodName := ⟨RX10, "said", "(I)I"⟩
abbrev cX10_wrong : ByteArray := prog_1_method_31_code
def yX10_wrong : MethodName := ⟨RX10, "wrong", "(I)I"⟩
abbrev cX10_blame : ByteArray := prog_1_method_32_code
def yX10_blame : MethodName := ⟨RX10, "blame", "()I"⟩
abbrev cX10_night : ByteArray := prog_1_method_33_code
def yX10_night : MethodName := ⟨RX10, "night", "(II)I"⟩
abbrev cX10_sheet : ByteArray := prog_1_method_34_code
def yX10_sheet : MethodName := ⟨RX10, "sheet", "(III)I"⟩
abbrev cX10_lose : ByteArray := prog_1_method_35_code
def yX10_lose : MethodName := ⟨RX10, "lose", "(I)I"⟩
abbrev cX10_put : ByteArray := prog_1_method_36_code
def yX10_put : MethodName := ⟨RX10, "put", "(IIII)I"⟩
abbrev cX10_get : ByteArray := prog_1_method_37_code
def yX10_get : MethodName := ⟨RX10, "get", "(III)I"⟩
abbrev cX10_copy : ByteArray := prog_1_method_38_code
def yX10_copy : MethodName := ⟨RX10, "copy", "(IIIII)I"⟩
abbrev cX10_tell : ByteArray := prog_1_method_39_code
def yX10_tell : MethodName := ⟨RX10, "tell", "(I)I"⟩
abbrev cX10_count : ByteArray := prog_1_method_40_code
def yX10_count : MethodName := ⟨RX10, "count", "(I)I"⟩
abbrev cX10_digest : ByteArray := prog_1_method_41_code
def yX10_digest : MethodName := ⟨RX10, "digest", "()J"⟩
abbrev cX10_within : ByteArray := prog_1_method_42_code
def yX10_within : MethodName := ⟨RX10, "within", "(III)Z"⟩
abbrev cX10_isNumber : ByteArray := prog_1_method_43_code
def yX10_isNumber : MethodName := ⟨RX10, "isNumber", "(I)Z"⟩
abbrev cX10_isPart : ByteArray := prog_1_method_44_code
def yX10_isPart : MethodName := ⟨RX10, "isPart", "(I)Z"⟩
abbrev cX10_refusal : ByteArray := prog_1_method_45_code
def yX10_refusal : MethodName := ⟨RX10, "refusal", "(I)J"⟩
abbrev cX10_found : ByteArray := prog_1_method_46_code
def yX10_found : MethodName := ⟨RX10, "found", "(I)I"⟩
abbrev cX10_sheetAt : ByteArray := prog_1_method_47_code
def yX10_sheetAt : MethodName := ⟨RX10, "sheetAt", "(I)LOneTriangle$Sheet;"⟩
abbrev cX10_addNote : ByteArray := prog_1_method_48_code
def yX10_addNote : MethodName := ⟨RX10, "addNote", "(III)I"⟩
abbrev cX10_refreshWays : ByteArray := prog_1_method_49_code
def yX10_refreshWays : MethodName := ⟨RX10, "refreshWays", "()V"⟩
abbrev cX10_costAbove : ByteArray := prog_1_method_50_code
def yX10_costAbove : MethodName := ⟨RX10, "costAbove", "(I)J"⟩
abbrev cX10_safety : ByteArray := prog_1_method_51_code
def yX10_safety : MethodName := ⟨RX10, "safety", "(I)J"⟩
abbrev cX10_comeTo : ByteArray := prog_1_method_52_code
def yX10_comeTo : MethodName := ⟨RX10, "comeTo", "(I)Z"⟩
abbrev cX10_trueLater : ByteArray := prog_1_method_53_code
def yX10_trueLater : MethodName := ⟨RX10, "trueLater", "()J"⟩
abbrev cX10_slipOfNight : ByteArray := prog_1_method_54_code
def yX10_slipOfNight : MethodName := ⟨RX10, "slipOfNight", "()I"⟩
abbrev cX10_mixed : ByteArray := prog_1_method_55_code
def yX10_mixed : MethodName := ⟨RX10, "mixed", "(JJ)J"⟩
abbrev cX10_told : ByteArray := prog_1_method_56_code
def yX10_told : MethodName := ⟨RX10, "told", "(JJI)J"⟩
abbrev cX10_greatestCommon : ByteArray := prog_1_method_57_code
def yX10_greatestCommon : MethodName := ⟨RX10, "greatestCommon", "(JJ)J"⟩
abbrev cX10_isLess : ByteArray := prog_1_method_58_code
def yX10_isLess : MethodName := ⟨RX10, "isLess", "(JJJJ)Z"⟩
abbrev cX10_itemAt : ByteArray := prog_1_method_59_code
def yX10_itemAt : MethodName := ⟨RX10, "itemAt", "([II)I"⟩
abbrev cX10_longAt : ByteArray := prog_1_method_60_code
def yX10_longAt : MethodName := ⟨RX10, "longAt", "([JI)J"⟩
abbrev cX10_addTo : ByteArray := prog_1_method_61_code
def yX10_addTo : MethodName := ⟨RX10, "addTo", "([JIJ)V"⟩
def RX11 : String := "OneTriangleModel"
def TX11 : u_T := fun k => match k with
  | 0 => ("OneTriangleModel", "text", "[I", true)
  | 1 => ("OneTriangleModel", "typed", "I", false)
  | 2 => ("OneTriangleModel", "bars", "I", false)
  | 3 => ("OneTriangleModel", "kinds", "[I", true)
  | 4 => ("OneTriangleModel", "tunes", "[I", true)
  | 5 => ("OneTriangleModel", "cueOf", "[I", true)
  | 6 => ("OneTriangleModel", "loose", "I", false)
  | 7 => ("OneTriangleModel", "cues", "I", false)
  | 8 => ("OneTriangleModel", "cueBar", "[I", true)
  | 9 => ("OneTriangleModel", "missed", "[I", true)
  | 10 => ("OneTriangleModel", "doubled", "[I", true)
  | 11 => ("OneTriangleModel", "settings", "[I", true)
  | 12 => ("OneTriangleModel", "records", "I", false)
  | 13 => ("OneTriangleModel", "record", "[I", true)
  | 14 => ("OneTriangleModel", "recordFrom", "I", false)
  | 15 => ("OneTriangleModel", "notes", "I", false)
  | 16 => ("OneTriangleModel", "noteNumber", "[I", true)
  | 17 => ("OneTriangleModel", "noteTune", "[I", true)
  | 18 => ("OneTriangleModel", "noteBar", "[I", true)
  | 19 => ("OneTriangleModel", "ways", "[J", true)
  | 20 => ("OneTriangleModel", "waysNext", "[J", true)
  | 21 => ("OneTriangleModel", "whereWeighs", "[J", true)
  | 22 => ("OneTriangleModel", "whereAll", "J", false)
  | 23 => ("OneTriangleModel", "slipWays", "[J", true)
  | 24 => ("OneTriangleModel", "slipNext", "[J", true)
  | 25 => ("OneTriangleModel", "slipAll", "J", false)
  | 26 => ("OneTriangleModel", "players", "I", false)
  | 27 => ("OneTriangleModel", "playerBar", "[I", true)
  | 28 => ("OneTriangleModel", "playerWorth", "[I", true)
  | 29 => ("OneTriangleModel", "looks", "[I", true)
  | 30 => ("OneTriangleModel", "isThere", "[Z", true)
  | 31 => ("OneTriangleModel", "forms", "[I", true)
  | 32 => ("OneTriangleModel", "sizes", "[I", true)
  | 33 => ("OneTriangleModel", "items", "[I", true)
  | 34 => ("OneTriangleModel", "moved", "[I", true)
  | _ => ("OneTriangleModel", "finding", "I", false)
def tyX11 : Nat → FieldType := fun k => match k with
  | 0 => .array .int
  | 1 => .int
  | 2 => .int
  | 3 => .array .int
  | 4 => .array .int
  | 5 => .array .int
  | 6 => .int
  | 7 => .int
  | 8 => .array .int
  | 9 => .array .int
  | 10 => .array .int
  | 11 => .array .int
  | 12 => .int
  | 13 => .array .int
  | 14 => .int
  | 15 => .int
  | 16 => .array .int
  | 17 => .array .int
  | 18 => .array .int
  | 19 => .array .long
  | 20 => .array .long
  | 21 => .array .long
  | 22 => .long
  | 23 => .array .long
  | 24 => .array .long
  | 25 => .long
  | 26 => .int
  | 27 => .array .int
  | 28 => .array .int
  | 29 => .array .int
  | 30 => .array .boolean
  | 31 => .array .int
  | 32 => .array .int
  | 33 => .array .int
  | 34 => .array .int
  | _ => .int
theorem nmX11 : ∀ a, a < 36 → ∀ b, b < 36 → a ≠ b → (TX11 a).2.1 ≠ (TX11 b).2.1 := by decide +kernel
theorem tyX11_ok : ∀ k, k < 36 → parseFieldDescriptor (TX11 k).2.2.1 = some (tyX11 k) := by decide +kernel
abbrev cX11_init : ByteArray := prog_13_method_1_code
def yX11_init : MethodName := ⟨RX11, "<init>", "()V"⟩
abbrev cX11_in : ByteArray := prog_13_method_3_code
def yX11_in : MethodName := ⟨RX11, "in", "(III)Z"⟩
abbrev cX11_isIn : ByteArray := prog_13_method_4_code
def yX11_isIn : MethodName := ⟨RX11, "isIn", "(II)Z"⟩
abbrev cX11_ones : ByteArray := prog_13_method_5_code
def yX11_ones : MethodName := ⟨RX11, "ones", "(I)I"⟩
abbrev cX11_no : ByteArray := prog_13_method_6_code
def yX11_no : MethodName := ⟨RX11, "no", "(I)J"⟩
abbrev cX11_lowest : ByteArray := prog_13_method_7_code
def yX11_lowest : MethodName := ⟨RX11, "lowest", "(JJI)J"⟩
abbrev cX11_type : ByteArray := prog_13_method_8_code
def yX11_type : MethodName := ⟨RX11, "type", "(I)I"⟩
abbrev cX11_wipe : ByteArray := prog_13_method_9_code
def yX11_wipe : MethodName := ⟨RX11, "wipe", "()I"⟩
abbrev cX11_undo : ByteArray := prog_13_method_10_code
def yX11_undo : MethodName := ⟨RX11, "undo", "()I"⟩
abbrev cX11_adds : ByteArray := prog_13_method_11_code
def yX11_adds : MethodName := ⟨RX11, "adds", "(II)V"⟩
abbrev cX11_figureAt : ByteArray := prog_13_method_12_code
def yX11_figureAt : MethodName := ⟨RX11, "figureAt", "(I)I"⟩
abbrev cX11_readsPiece : ByteArray := prog_13_method_13_code
def yX11_readsPiece : MethodName := ⟨RX11, "readsPiece", "()I"⟩
abbrev cX11_faultNow : ByteArray := prog_13_method_14_code
def yX11_faultNow : MethodName := ⟨RX11, "faultNow", "()I"⟩
abbrev cX11_fault : ByteArray := prog_13_method_15_code
def yX11_fault : MethodName := ⟨RX11, "fault", "()I"⟩
abbrev cX11_reads : ByteArray := prog_13_method_16_code
def yX11_reads : MethodName := ⟨RX11, "reads", "()V"⟩
abbrev cX11_isBar : ByteArray := prog_13_method_17_code
def yX11_isBar : MethodName := ⟨RX11, "isBar", "(I)Z"⟩
abbrev cX11_barOf : ByteArray := prog_13_method_18_code
def yX11_barOf : MethodName := ⟨RX11, "barOf", "(II)I"⟩
abbrev cX11_bar : ByteArray := prog_13_method_19_code
def yX11_bar : MethodName := ⟨RX11, "bar", "(II)I"⟩
abbrev cX11_odds : ByteArray := prog_13_method_20_code
def yX11_odds : MethodName := ⟨RX11, "odds", "(III)I"⟩
abbrev cX11_set : ByteArray := prog_13_method_21_code
def yX11_set : MethodName := ⟨RX11, "set", "(II)I"⟩
abbrev cX11_isNumber : ByteArray := prog_13_method_22_code
def yX11_isNumber : MethodName := ⟨RX11, "isNumber", "(I)Z"⟩
abbrev cX11_read : ByteArray := prog_13_method_23_code
def yX11_read : MethodName := ⟨RX11, "read", "(I)I"⟩
abbrev cX11_notesMore : ByteArray := prog_13_method_24_code
def yX11_notesMore : MethodName := ⟨RX11, "notesMore", "(III)I"⟩
abbrev cX11_hear : ByteArray := prog_13_method_25_code
def yX11_hear : MethodName := ⟨RX11, "hear", "(II)I"⟩
abbrev cX11_shown : ByteArray := prog_13_method_26_code
def yX11_shown : MethodName := ⟨RX11, "shown", "(II)I"⟩
abbrev cX11_forget : ByteArray := prog_13_method_27_code
def yX11_forget : MethodName := ⟨RX11, "forget", "()I"⟩
abbrev cX11_notesWeigh : ByteArray := prog_13_method_28_code
def yX11_notesWeigh : MethodName := ⟨RX11, "notesWeigh", "(II)J"⟩
abbrev cX11_saysOdds : ByteArray := prog_13_method_29_code
def yX11_saysOdds : MethodName := ⟨RX11, "saysOdds", "(II)I"⟩
abbrev cX11_findsWhere : ByteArray := prog_13_method_30_code
def yX11_findsWhere : MethodName := ⟨RX11, "findsWhere", "(I)V"⟩
abbrev cX11_whereOf : ByteArray := prog_13_method_31_code
def yX11_whereOf : MethodName := ⟨RX11, "whereOf", "(III)J"⟩
abbrev cX11_where : ByteArray := prog_13_method_32_code
def yX11_where : MethodName := ⟨RX11, "where", "(III)J"⟩
abbrev cX11_likeliestOf : ByteArray := prog_13_method_33_code
def yX11_likeliestOf : MethodName := ⟨RX11, "likeliestOf", "(I)I"⟩
abbrev cX11_likeliest : ByteArray := prog_13_method_34_code
def yX11_likeliest : MethodName := ⟨RX11, "likeliest", "(I)I"⟩
abbrev cX11_strikeOf : ByteArray := prog_13_method_35_code
def yX11_strikeOf : MethodName := ⟨RX11, "strikeOf", "(II)J"⟩
abbrev cX11_strike : ByteArray := prog_13_method_36_code
def yX11_strike : MethodName := ⟨RX11, "strike", "(II)J"⟩
abbrev cX11_isLess : ByteArray := prog_13_method_37_code
def yX11_isLess : MethodName := ⟨RX11, "isLess", "(JJJJ)Z"⟩
abbrev cX11_lineNow : ByteArray := prog_13_method_38_code
def yX11_lineNow : MethodName := ⟨RX11, "lineNow", "()I"⟩
abbrev cX11_line : ByteArray := prog_13_method_39_code
def yX11_line : MethodName := ⟨RX11, "line", "()I"⟩
abbrev cX11_findsSlips : ByteArray := prog_13_method_40_code
def yX11_findsSlips : MethodName := ⟨RX11, "findsSlips", "(III)V"⟩
abbrev cX11_missedIn : ByteArray := prog_13_method_41_code
def yX11_missedIn : MethodName := ⟨RX11, "missedIn", "(II)I"⟩
abbrev cX11_slipLoose : ByteArray := prog_13_method_42_code
def yX11_slipLoose : MethodName := ⟨RX11, "slipLoose", "(II)V"⟩
abbrev cX11_slipsOf : ByteArray := prog_13_method_43_code
def yX11_slipsOf : MethodName := ⟨RX11, "slipsOf", "(III)J"⟩
abbrev cX11_slips : ByteArray := prog_13_method_44_code
def yX11_slips : MethodName := ⟨RX11, "slips", "(III)J"⟩
abbrev cX11_isSome : ByteArray := prog_13_method_45_code
def yX11_isSome : MethodName := ⟨RX11, "isSome", "(I)Z"⟩
abbrev cX11_safeBy : ByteArray := prog_13_method_46_code
def yX11_safeBy : MethodName := ⟨RX11, "safeBy", "(I)J"⟩
abbrev cX11_safeOf : ByteArray := prog_13_method_47_code
def yX11_safeOf : MethodName := ⟨RX11, "safeOf", "(II)J"⟩
abbrev cX11_safe : ByteArray := prog_13_method_48_code
def yX11_safe : MethodName := ⟨RX11, "safe", "(II)J"⟩
abbrev cX11_writeOf : ByteArray := prog_13_method_49_code
def yX11_writeOf : MethodName := ⟨RX11, "writeOf", "(I)I"⟩
abbrev cX11_cuesNow : ByteArray := prog_13_method_50_code
def yX11_cuesNow : MethodName := ⟨RX11, "cuesNow", "()I"⟩
abbrev cX11_write : ByteArray := prog_13_method_51_code
def yX11_write : MethodName := ⟨RX11, "write", "(I)I"⟩
abbrev cX11_fewOf : ByteArray := prog_13_method_52_code
def yX11_fewOf : MethodName := ⟨RX11, "fewOf", "(I)I"⟩
abbrev cX11_few : ByteArray := prog_13_method_53_code
def yX11_few : MethodName := ⟨RX11, "few", "(I)I"⟩
abbrev cX11_anewOf : ByteArray := prog_13_method_54_code
def yX11_anewOf : MethodName := ⟨RX11, "anewOf", "(I)I"⟩
abbrev cX11_anew : ByteArray := prog_13_method_55_code
def yX11_anew : MethodName := ⟨RX11, "anew", "(I)I"⟩
abbrev cX11_joint : ByteArray := prog_13_method_56_code
def yX11_joint : MethodName := ⟨RX11, "joint", "(III)J"⟩
abbrev cX11_eveningBy : ByteArray := prog_13_method_57_code
def yX11_eveningBy : MethodName := ⟨RX11, "eveningBy", "(I)J"⟩
abbrev cX11_eveningOf : ByteArray := prog_13_method_58_code
def yX11_eveningOf : MethodName := ⟨RX11, "eveningOf", "(II)J"⟩
abbrev cX11_evening : ByteArray := prog_13_method_59_code
def yX11_evening : MethodName := ⟨RX11, "evening", "(II)J"⟩
abbrev cX11_primeOf : ByteArray := prog_13_method_60_code
def yX11_primeOf : MethodName := ⟨RX11, "primeOf", "(I)I"⟩
abbrev cX11_prime : ByteArray := prog_13_method_61_code
def yX11_prime : MethodName := ⟨RX11, "prime", "(I)I"⟩
abbrev cX11_player : ByteArray := prog_13_method_62_code
def yX11_player : MethodName := ⟨RX11, "player", "(II)I"⟩
abbrev cX11_leave : ByteArray := prog_13_method_63_code
def yX11_leave : MethodName := ⟨RX11, "leave", "()I"⟩
abbrev cX11_looksBy : ByteArray := prog_13_method_64_code
def yX11_looksBy : MethodName := ⟨RX11, "looksBy", "(I)I"⟩
abbrev cX11_worthOf : ByteArray := prog_13_method_65_code
def yX11_worthOf : MethodName := ⟨RX11, "worthOf", "(I)I"⟩
abbrev cX11_worth : ByteArray := prog_13_method_66_code
def yX11_worth : MethodName := ⟨RX11, "worth", "(I)I"⟩
abbrev cX11_lookOf : ByteArray := prog_13_method_67_code
def yX11_lookOf : MethodName := ⟨RX11, "lookOf", "(I)I"⟩
abbrev cX11_look : ByteArray := prog_13_method_68_code
def yX11_look : MethodName := ⟨RX11, "look", "(I)I"⟩
abbrev cX11_from : ByteArray := prog_13_method_69_code
def yX11_from : MethodName := ⟨RX11, "from", "(I)I"⟩
abbrev cX11_said : ByteArray := prog_13_method_70_code
def yX11_said : MethodName := ⟨RX11, "said", "(I)I"⟩
abbrev cX11_wrongOf : ByteArray := prog_13_method_71_code
def yX11_wrongOf : MethodName := ⟨RX11, "wrongOf", "(I)I"⟩
abbrev cX11_wrong : ByteArray := prog_13_method_72_code
def yX11_wrong : MethodName := ⟨RX11, "wrong", "(I)I"⟩
abbrev cX11_blameNow : ByteArray := prog_13_method_73_code
def yX11_blameNow : MethodName := ⟨RX11, "blameNow", "()I"⟩
abbrev cX11_blame : ByteArray := prog_13_method_74_code
def yX11_blame : MethodName := ⟨RX11, "blame", "()I"⟩
abbrev cX11_nightOf : ByteArray := prog_13_method_75_code
def yX11_nightOf : MethodName := ⟨RX11, "nightOf", "(II)I"⟩
abbrev cX11_night : ByteArray := prog_13_method_76_code
def yX11_night : MethodName := ⟨RX11, "night", "(II)I"⟩
abbrev cX11_meets : ByteArray := prog_13_method_77_code
def yX11_meets : MethodName := ⟨RX11, "meets", "(I)I"⟩
abbrev cX11_isSheet : ByteArray := prog_13_method_78_code
def yX11_isSheet : MethodName := ⟨RX11, "isSheet", "(I)Z"⟩
abbrev cX11_sheet : ByteArray := prog_13_method_79_code
def yX11_sheet : MethodName := ⟨RX11, "sheet", "(III)I"⟩
abbrev cX11_lose : ByteArray := prog_13_method_80_code
def yX11_lose : MethodName := ⟨RX11, "lose", "(I)I"⟩
abbrev cX11_lacks : ByteArray := prog_13_method_81_code
def yX11_lacks : MethodName := ⟨RX11, "lacks", "(III)I"⟩
abbrev cX11_keep : ByteArray := prog_13_method_82_code
def yX11_keep : MethodName := ⟨RX11, "keep", "(III)V"⟩
abbrev cX11_put : ByteArray := prog_13_method_83_code
def yX11_put : MethodName := ⟨RX11, "put", "(IIII)I"⟩
abbrev cX11_get : ByteArray := prog_13_method_84_code
def yX11_get : MethodName := ⟨RX11, "get", "(III)I"⟩
abbrev cX11_copy : ByteArray := prog_13_method_85_code
def yX11_copy : MethodName := ⟨RX11, "copy", "(IIIII)I"⟩
abbrev cX11_tell : ByteArray := prog_13_method_86_code
def yX11_tell : MethodName := ⟨RX11, "tell", "(I)I"⟩
abbrev cX11_readsMany : ByteArray := prog_13_method_87_code
def yX11_readsMany : MethodName := ⟨RX11, "readsMany", "(I)I"⟩
abbrev cX11_count : ByteArray := prog_13_method_88_code
def yX11_count : MethodName := ⟨RX11, "count", "(I)I"⟩
abbrev cX11_numberDigest : ByteArray := prog_13_method_89_code
def yX11_numberDigest : MethodName := ⟨RX11, "numberDigest", "(JI)J"⟩
abbrev cX11_digest : ByteArray := prog_13_method_90_code
def yX11_digest : MethodName := ⟨RX11, "digest", "()J"⟩
def RJ6 : String := "java/lang/Integer"
abbrev cJ6_bitCount_0f7a4 : ByteArray := prog_14_method_49_code
def yJ6_bitCount_0f7a4 : MethodName := ⟨RJ6, "bitCount", "(I)I"⟩
def RJ9 : String := "java/lang/Math"
abbrev cJ9_max_7cf53 : ByteArray := prog_15_method_65_code
def yJ9_max_7cf53 : MethodName := ⟨RJ9, "max", "(II)I"⟩
abbrev cJ9_min_7cf53 : ByteArray := prog_15_method_69_code
def yJ9_min_7cf53 : MethodName := ⟨RJ9, "min", "(II)I"⟩
def RJ10 : String := "java/lang/System"
def RJ7 : String := "java/util/Arrays"
abbrev cJ7_fill_d0a16 : ByteArray := prog_17_method_101_code
def yJ7_fill_d0a16 : MethodName := ⟨RJ7, "fill", "([JJ)V"⟩
abbrev cJ7_fill_53178 : ByteArray := prog_17_method_103_code
def yJ7_fill_53178 : MethodName := ⟨RJ7, "fill", "([II)V"⟩
def RL : String := "OneTriangleLaw"
abbrev cL_law : ByteArray := code
def yL_law : MethodName := ⟨RL, "law", "([I)Z"⟩
abbrev classes : List vw_C := [(RX0, TX0, 3), (RX1, TX1, 1), (RX2, TX2, 4), (RX3, TX3, 2), (RX4, TX4, 10), (RX5, TX5, 5), (RX6, TX6, 1), (RX7, TX7, 4), (RX8, TX8, 3), (RX9, TX9, 8), (RX10, TX10, 13), (RX11, TX11, 36)]
def lw_gd : List Cond := lw_tbl.filter goodWord
def lw_isN : Cond → Bool
  | .fieldLinkNest .. => true
  | .methodLinkNest .. => true
  | _ => false
def lw_nw : List Cond := lw_tbl.filter lw_isN
theorem lw_gd_t {i : Nat} {w : Cond} (h : tables_1[i]? = some w) (hg : goodWord w = true) : w ∈ lw_gd := List.mem_filter.mpr ⟨List.mem_append_right _ (List.mem_of_getElem? h), hg⟩
theorem lw_nw_t {i : Nat} {w : Cond} (h : tables_1[i]? = some w) (hg : lw_isN w = true) : w ∈ lw_nw := List.mem_filter.mpr ⟨List.mem_append_right _ (List.mem_of_getElem? h), hg⟩
theorem lw_gd_p {i : Nat} {w : Cond} (h : (k2_sels lw_privs)[i]? = some w) (hg : goodWord w = true) : w ∈ lw_gd := List.mem_filter.mpr ⟨List.mem_append_left _ (List.mem_of_getElem? h), hg⟩
theorem lw_gd_in {w : Cond} (h : w ∈ lw_gd) : w ∈ lw_tbl := (List.mem_filter.mp h).1
theorem lw_nw_in {w : Cond} (h : w ∈ lw_nw) : w ∈ lw_tbl := (List.mem_filter.mp h).1
theorem lw_gd_good {w : Cond} (h : w ∈ lw_gd) : (w.onTables && w.keeps) = true ∨ ∃ ty, w = .arrayClass ty := good_of_word (List.mem_filter.mp h).2
theorem lw_gd_gi : GoodIn lw_gd lw_gd := fun _ h => ⟨h, lw_gd_good h⟩
theorem giX0 : ∀ w ∈ u_ws RX0 TX0 3, w ∈ lw_gd := by decide +kernel
theorem giX1 : ∀ w ∈ u_ws RX1 TX1 1, w ∈ lw_gd := by decide +kernel
theorem giX2 : ∀ w ∈ u_ws RX2 TX2 4, w ∈ lw_gd := by decide +kernel
theorem giX3 : ∀ w ∈ u_ws RX3 TX3 2, w ∈ lw_gd := by decide +kernel
theorem giX4 : ∀ w ∈ u_ws RX4 TX4 10, w ∈ lw_gd := by decide +kernel
theorem giX5 : ∀ w ∈ u_ws RX5 TX5 5, w ∈ lw_gd := by decide +kernel
theorem giX6 : ∀ w ∈ u_ws RX6 TX6 1, w ∈ lw_gd := by decide +kernel
theorem giX7 : ∀ w ∈ u_ws RX7 TX7 4, w ∈ lw_gd := by decide +kernel
theorem giX8 : ∀ w ∈ u_ws RX8 TX8 3, w ∈ lw_gd := by decide +kernel
theorem giX9 : ∀ w ∈ u_ws RX9 TX9 8, w ∈ lw_gd := by decide +kernel
theorem giX10 : ∀ w ∈ u_ws RX10 TX10 13, w ∈ lw_gd := by decide +kernel
theorem giX11 : ∀ w ∈ u_ws RX11 TX11 36, w ∈ lw_gd := by decide +kernel
end
section
theorem dX0_init_0 : decode cX0_init 0 = .ok (.aload_n 0, 1) := by decide +kernel
theorem dX0_init_1 : decode cX0_init 1 = .ok (.invokespecial 3, 3) := by decide +kernel
theorem dX0_init_4 : decode cX0_init 4 = .ok (.aload_n 0, 1) := by decide +kernel
theorem dX0_init_5 : decode cX0_init 5 = .ok (.bipush 20, 2) := by decide +kernel
theorem dX0_init_7 : decode cX0_init 7 = .ok (.newarray .int, 2) := by decide +kernel
theorem dX0_init_9 : decode cX0_init 9 = .ok (.putfield 11, 3) := by decide +kernel
theorem dX0_init_12 : decode cX0_init 12 = .ok (.aload_n 0, 1) := by decide +kernel
theorem dX0_init_13 : decode cX0_init 13 = .ok (.iconst 0, 1) := by decide +kernel
theorem dX0_init_14 : decode cX0_init 14 = .ok (.putfield 15, 3) := by decide +kernel
theorem dX0_init_17 : decode cX0_init 17 = .ok (.aload_n 0, 1) := by decide +kernel
theorem dX0_init_18 : decode cX0_init 18 = .ok (.iconst 0, 1) := by decide +kernel
theorem dX0_init_19 : decode cX0_init 19 = .ok (.putfield 19, 3) := by decide +kernel
theorem dX0_init_22 : decode cX0_init 22 = .ok (.return_, 1) := by decide +kernel
theorem dX0_clear_0 : decode cX0_clear 0 = .ok (.aload_n 0, 1) := by decide +kernel
theorem dX0_clear_1 : decode cX0_clear 1 = .ok (.iconst 0, 1) := by decide +kernel
theorem dX0_clear_2 : decode cX0_clear 2 = .ok (.putfield 15, 3) := by decide +kernel
theorem dX0_clear_5 : decode cX0_clear 5 = .ok (.return_, 1) := by decide +kernel
theorem dX0_append_0 : decode cX0_append 0 = .ok (.aload_n 0, 1) := by decide +kernel
theorem dX0_append_1 : decode cX0_append 1 = .ok (.getfield 15, 3) := by decide +kernel
theorem dX0_append_4 : decode cX0_append 4 = .ok (.ifCond .lt 12, 3) := by decide +kernel
theorem dX0_append_7 : decode cX0_append 7 = .ok (.aload_n 0, 1) := by decide +kernel
theorem dX0_append_8 : decode cX0_append 8 = .ok (.getfield 15, 3) := by decide +kernel
theorem dX0_append_11 : decode cX0_append 11 = .ok (.bipush 20, 2) := by decide +kernel
theorem dX0_append_13 : decode cX0_append 13 = .ok (.if_icmp .lt 5, 3) := by decide +kernel
theorem dX0_append_16 : decode cX0_append 16 = .ok (.iconst 0, 1) := by decide +kernel
theorem dX0_append_17 : decode cX0_append 17 = .ok (.ireturn, 1) := by decide +kernel
theorem dX0_append_18 : decode cX0_append 18 = .ok (.aload_n 0, 1) := by decide +kernel
theorem dX0_append_19 : decode cX0_append 19 = .ok (.getfield 11, 3) := by decide +kernel
theorem dX0_append_22 : decode cX0_append 22 = .ok (.aload_n 0, 1) := by decide +kernel
theorem dX0_append_23 : decode cX0_append 23 = .ok (.getfield 15, 3) := by decide +kernel
theorem dX0_append_26 : decode cX0_append 26 = .ok (.iload_n 1, 1) := by decide +kernel
theorem dX0_append_27 : decode cX0_append 27 = .ok (.iastore, 1) := by decide +kernel
theorem dX0_append_28 : decode cX0_append 28 = .ok (.aload_n 0, 1) := by decide +kernel
theorem dX0_append_29 : decode cX0_append 29 = .ok (.dup, 1) := by decide +kernel
theorem dX0_append_30 : decode cX0_append 30 = .ok (.getfield 15, 3) := by decide +kernel
theorem dX0_append_33 : decode cX0_append 33 = .ok (.iconst 1, 1) := by decide +kernel
theorem dX0_append_34 : decode cX0_append 34 = .ok (.iadd, 1) := by decide +kernel
theorem dX0_append_35 : decode cX0_append 35 = .ok (.putfield 15, 3) := by decide +kernel
theorem dX0_append_38 : decode cX0_append 38 = .ok (.iconst 1, 1) := by decide +kernel
theorem dX0_append_39 : decode cX0_append 39 = .ok (.ireturn, 1) := by decide +kernel
theorem dX0_firstWrong_0 : decode cX0_firstWrong 0 = .ok (.iconst 0, 1) := by decide +kernel
theorem dX0_firstWrong_1 : decode cX0_firstWrong 1 = .ok (.istore_n 1, 1) := by decide +kernel
theorem dX0_firstWrong_2 : decode cX0_firstWrong 2 = .ok (.iload_n 1, 1) := by decide +kernel
theorem dX0_firstWrong_3 : decode cX0_firstWrong 3 = .ok (.aload_n 0, 1) := by decide +kernel
theorem dX0_firstWrong_4 : decode cX0_firstWrong 4 = .ok (.getfield 15, 3) := by decide +kernel
theorem dX0_firstWrong_7 : decode cX0_firstWrong 7 = .ok (.if_icmp .ge 19, 3) := by decide +kernel
theorem dX0_firstWrong_10 : decode cX0_firstWrong 10 = .ok (.aload_n 0, 1) := by decide +kernel
theorem dX0_firstWrong_11 : decode cX0_firstWrong 11 = .ok (.iload_n 1, 1) := by decide +kernel
theorem dX0_firstWrong_12 : decode cX0_firstWrong 12 = .ok (.invokevirtual 22, 3) := by decide +kernel
theorem dX0_firstWrong_15 : decode cX0_firstWrong 15 = .ok (.ifCond .eq 5, 3) := by decide +kernel
theorem dX0_firstWrong_18 : decode cX0_firstWrong 18 = .ok (.iload_n 1, 1) := by decide +kernel
theorem dX0_firstWrong_19 : decode cX0_firstWrong 19 = .ok (.ireturn, 1) := by decide +kernel
theorem dX0_firstWrong_20 : decode cX0_firstWrong 20 = .ok (.iinc 1 1, 3) := by decide +kernel
theorem dX0_firstWrong_23 : decode cX0_firstWrong 23 = .ok (.goto (-21), 3) := by decide +kernel
theorem dX0_firstWrong_26 : decode cX0_firstWrong 26 = .ok (.iconst (-1), 1) := by decide +kernel
theorem dX0_firstWrong_27 : decode cX0_firstWrong 27 = .ok (.ireturn, 1) := by decide +kernel
theorem dX0_allWrong_0 : decode cX0_allWrong 0 = .ok (.iconst 0, 1) := by decide +kernel
theorem dX0_allWrong_1 : decode cX0_allWrong 1 = .ok (.istore_n 1, 1) := by decide +kernel
theorem dX0_allWrong_2 : decode cX0_allWrong 2 = .ok (.iconst 0, 1) := by decide +kernel
theorem dX0_allWrong_3 : decode cX0_allWrong 3 = .ok (.istore_n 2, 1) := by decide +kernel
theorem dX0_allWrong_4 : decode cX0_allWrong 4 = .ok (.iload_n 2, 1) := by decide +kernel
theorem dX0_allWrong_5 : decode cX0_allWrong 5 = .ok (.aload_n 0, 1) := by decide +kernel
theorem dX0_allWrong_6 : decode cX0_allWrong 6 = .ok (.getfield 15, 3) := by decide +kernel
theorem dX0_allWrong_9 : decode cX0_allWrong 9 = .ok (.if_icmp .ge 20, 3) := by decide +kernel
theorem dX0_allWrong_12 : decode cX0_allWrong 12 = .ok (.aload_n 0, 1) := by decide +kernel
theorem dX0_allWrong_13 : decode cX0_allWrong 13 = .ok (.iload_n 2, 1) := by decide +kernel
theorem dX0_allWrong_14 : decode cX0_allWrong 14 = .ok (.invokevirtual 22, 3) := by decide +kernel
theorem dX0_allWrong_17 : decode cX0_allWrong 17 = .ok (.ifCond .eq 6, 3) := by decide +kernel
theorem dX0_allWrong_20 : decode cX0_allWrong 20 = .ok (.iinc 1 1, 3) := by decide +kernel
theorem dX0_allWrong_23 : decode cX0_allWrong 23 = .ok (.iinc 2 1, 3) := by decide +kernel
theorem dX0_allWrong_26 : decode cX0_allWrong 26 = .ok (.goto (-22), 3) := by decide +kernel
theorem dX0_allWrong_29 : decode cX0_allWrong 29 = .ok (.iload_n 1, 1) := by decide +kernel
theorem dX0_allWrong_30 : decode cX0_allWrong 30 = .ok (.ireturn, 1) := by decide +kernel
theorem dX0_isWrong_0 : decode cX0_isWrong 0 = .ok (.iload_n 1, 1) := by decide +kernel
theorem dX0_isWrong_1 : decode cX0_isWrong 1 = .ok (.ifCond .ne 10, 3) := by decide +kernel
theorem dX0_isWrong_4 : decode cX0_isWrong 4 = .ok (.aload_n 0, 1) := by decide +kernel
theorem dX0_isWrong_5 : decode cX0_isWrong 5 = .ok (.getfield 19, 3) := by decide +kernel
theorem dX0_isWrong_8 : decode cX0_isWrong 8 = .ok (.goto 13, 3) := by decide +kernel
theorem dX0_isWrong_11 : decode cX0_isWrong 11 = .ok (.aload_n 0, 1) := by decide +kernel
theorem dX0_isWrong_12 : decode cX0_isWrong 12 = .ok (.getfield 11, 3) := by decide +kernel
theorem dX0_isWrong_15 : decode cX0_isWrong 15 = .ok (.iload_n 1, 1) := by decide +kernel
theorem dX0_isWrong_16 : decode cX0_isWrong 16 = .ok (.iconst 1, 1) := by decide +kernel
theorem dX0_isWrong_17 : decode cX0_isWrong 17 = .ok (.isub, 1) := by decide +kernel
theorem dX0_isWrong_18 : decode cX0_isWrong 18 = .ok (.invokestatic 26, 3) := by decide +kernel
theorem dX0_isWrong_21 : decode cX0_isWrong 21 = .ok (.istore_n 2, 1) := by decide +kernel
theorem dX0_isWrong_22 : decode cX0_isWrong 22 = .ok (.aload_n 0, 1) := by decide +kernel
theorem dX0_isWrong_23 : decode cX0_isWrong 23 = .ok (.getfield 11, 3) := by decide +kernel
theorem dX0_isWrong_26 : decode cX0_isWrong 26 = .ok (.iload_n 1, 1) := by decide +kernel
theorem dX0_isWrong_27 : decode cX0_isWrong 27 = .ok (.invokestatic 26, 3) := by decide +kernel
theorem dX0_isWrong_30 : decode cX0_isWrong 30 = .ok (.iload_n 2, 1) := by decide +kernel
theorem dX0_isWrong_31 : decode cX0_isWrong 31 = .ok (.iconst 1, 1) := by decide +kernel
theorem dX0_isWrong_32 : decode cX0_isWrong 32 = .ok (.iadd, 1) := by decide +kernel
theorem dX0_isWrong_33 : decode cX0_isWrong 33 = .ok (.if_icmp .eq 7, 3) := by decide +kernel
theorem dX0_isWrong_36 : decode cX0_isWrong 36 = .ok (.iconst 1, 1) := by decide +kernel
theorem dX0_isWrong_37 : decode cX0_isWrong 37 = .ok (.goto 4, 3) := by decide +kernel
theorem dX0_isWrong_40 : decode cX0_isWrong 40 = .ok (.iconst 0, 1) := by decide +kernel
theorem dX0_isWrong_41 : decode cX0_isWrong 41 = .ok (.ireturn, 1) := by decide +kernel
theorem dX1_init_0 : decode cX1_init 0 = .ok (.aload_n 0, 1) := by decide +kernel
theorem dX1_init_1 : decode cX1_init 1 = .ok (.invokespecial 3, 3) := by decide +kernel
theorem dX1_init_4 : decode cX1_init 4 = .ok (.aload_n 0, 1) := by decide +kernel
theorem dX1_init_5 : decode cX1_init 5 = .ok (.iconst 0, 1) := by decide +kernel
theorem dX1_init_6 : decode cX1_init 6 = .ok (.putfield 9, 3) := by decide +kernel
theorem dX1_init_9 : decode cX1_init 9 = .ok (.return_, 1) := by decide +kernel
theorem dX1_draw_0 : decode cX1_draw 0 = .ok (.aload_n 0, 1) := by decide +kernel
theorem dX1_draw_1 : decode cX1_draw 1 = .ok (.ldc 15, 2) := by decide +kernel
theorem dX1_draw_3 : decode cX1_draw 3 = .ok (.aload_n 0, 1) := by decide +kernel
theorem dX1_draw_4 : decode cX1_draw 4 = .ok (.getfield 9, 3) := by decide +kernel
theorem dX1_draw_7 : decode cX1_draw 7 = .ok (.imul, 1) := by decide +kernel
theorem dX1_draw_8 : decode cX1_draw 8 = .ok (.sipush 12345, 3) := by decide +kernel
theorem dX1_draw_11 : decode cX1_draw 11 = .ok (.iadd, 1) := by decide +kernel
theorem dX1_draw_12 : decode cX1_draw 12 = .ok (.putfield 9, 3) := by decide +kernel
theorem dX1_draw_15 : decode cX1_draw 15 = .ok (.aload_n 0, 1) := by decide +kernel
theorem dX1_draw_16 : decode cX1_draw 16 = .ok (.getfield 9, 3) := by decide +kernel
theorem dX1_draw_19 : decode cX1_draw 19 = .ok (.bipush 16, 2) := by decide +kernel
theorem dX1_draw_21 : decode cX1_draw 21 = .ok (.iushr, 1) := by decide +kernel
theorem dX1_draw_22 : decode cX1_draw 22 = .ok (.bipush 16, 2) := by decide +kernel
theorem dX1_draw_24 : decode cX1_draw 24 = .ok (.irem, 1) := by decide +kernel
theorem dX1_draw_25 : decode cX1_draw 25 = .ok (.ireturn, 1) := by decide +kernel
theorem dX2_init_0 : decode cX2_init 0 = .ok (.aload_n 0, 1) := by decide +kernel
theorem dX2_init_1 : decode cX2_init 1 = .ok (.invokespecial 3, 3) := by decide +kernel
theorem dX2_init_4 : decode cX2_init 4 = .ok (.aload_n 0, 1) := by decide +kernel
theorem dX2_init_5 : decode cX2_init 5 = .ok (.iconst 4, 1) := by decide +kernel
theorem dX2_init_6 : decode cX2_init 6 = .ok (.newarray .int, 2) := by decide +kernel
theorem dX2_init_8 : decode cX2_init 8 = .ok (.putfield 11, 3) := by decide +kernel
theorem dX2_init_11 : decode cX2_init 11 = .ok (.aload_n 0, 1) := by decide +kernel
theorem dX2_init_12 : decode cX2_init 12 = .ok (.iconst 4, 1) := by decide +kernel
theorem dX2_init_13 : decode cX2_init 13 = .ok (.newarray .int, 2) := by decide +kernel
theorem dX2_init_15 : decode cX2_init 15 = .ok (.putfield 15, 3) := by decide +kernel
theorem dX2_init_18 : decode cX2_init 18 = .ok (.aload_n 0, 1) := by decide +kernel
theorem dX2_init_19 : decode cX2_init 19 = .ok (.iconst 4, 1) := by decide +kernel
theorem dX2_init_20 : decode cX2_init 20 = .ok (.newarray .int, 2) := by decide +kernel
theorem dX2_init_22 : decode cX2_init 22 = .ok (.putfield 18, 3) := by decide +kernel
theorem dX2_init_25 : decode cX2_init 25 = .ok (.aload_n 0, 1) := by decide +kernel
theorem dX2_init_26 : decode cX2_init 26 = .ok (.iconst 0, 1) := by decide +kernel
theorem dX2_init_27 : decode cX2_init 27 = .ok (.putfield 21, 3) := by decide +kernel
theorem dX2_init_30 : decode cX2_init 30 = .ok (.return_, 1) := by decide +kernel
theorem dX2_append_0 : decode cX2_append 0 = .ok (.aload_n 0, 1) := by decide +kernel
theorem dX2_append_1 : decode cX2_append 1 = .ok (.getfield 21, 3) := by decide +kernel
theorem dX2_append_4 : decode cX2_append 4 = .ok (.ifCond .lt 11, 3) := by decide +kernel
theorem dX2_append_7 : decode cX2_append 7 = .ok (.aload_n 0, 1) := by decide +kernel
theorem dX2_append_8 : decode cX2_append 8 = .ok (.getfield 21, 3) := by decide +kernel
theorem dX2_append_11 : decode cX2_append 11 = .ok (.iconst 4, 1) := by decide +kernel
theorem dX2_append_12 : decode cX2_append 12 = .ok (.if_icmp .lt 5, 3) := by decide +kernel
theorem dX2_append_15 : decode cX2_append 15 = .ok (.iconst 0, 1) := by decide +kernel
theorem dX2_append_16 : decode cX2_append 16 = .ok (.ireturn, 1) := by decide +kernel
theorem dX2_append_17 : decode cX2_append 17 = .ok (.aload_n 0, 1) := by decide +kernel
theorem dX2_append_18 : decode cX2_append 18 = .ok (.getfield 11, 3) := by decide +kernel
theorem dX2_append_21 : decode cX2_append 21 = .ok (.aload_n 0, 1) := by decide +kernel
theorem dX2_append_22 : decode cX2_append 22 = .ok (.getfield 21, 3) := by decide +kernel
theorem dX2_append_25 : decode cX2_append 25 = .ok (.iload_n 1, 1) := by decide +kernel
theorem dX2_append_26 : decode cX2_append 26 = .ok (.iastore, 1) := by decide +kernel
theorem dX2_append_27 : decode cX2_append 27 = .ok (.aload_n 0, 1) := by decide +kernel
theorem dX2_append_28 : decode cX2_append 28 = .ok (.getfield 15, 3) := by decide +kernel
theorem dX2_append_31 : decode cX2_append 31 = .ok (.aload_n 0, 1) := by decide +kernel
theorem dX2_append_32 : decode cX2_append 32 = .ok (.getfield 21, 3) := by decide +kernel
theorem dX2_append_35 : decode cX2_append 35 = .ok (.iload_n 2, 1) := by decide +kernel
theorem dX2_append_36 : decode cX2_append 36 = .ok (.iastore, 1) := by decide +kernel
theorem dX2_append_37 : decode cX2_append 37 = .ok (.aload_n 0, 1) := by decide +kernel
theorem dX2_append_38 : decode cX2_append 38 = .ok (.getfield 18, 3) := by decide +kernel
theorem dX2_append_41 : decode cX2_append 41 = .ok (.aload_n 0, 1) := by decide +kernel
theorem dX2_append_42 : decode cX2_append 42 = .ok (.getfield 21, 3) := by decide +kernel
theorem dX2_append_45 : decode cX2_append 45 = .ok (.iload_n 3, 1) := by decide +kernel
theorem dX2_append_46 : decode cX2_append 46 = .ok (.iastore, 1) := by decide +kernel
theorem dX2_append_47 : decode cX2_append 47 = .ok (.aload_n 0, 1) := by decide +kernel
theorem dX2_append_48 : decode cX2_append 48 = .ok (.dup, 1) := by decide +kernel
theorem dX2_append_49 : decode cX2_append 49 = .ok (.getfield 21, 3) := by decide +kernel
theorem dX2_append_52 : decode cX2_append 52 = .ok (.iconst 1, 1) := by decide +kernel
theorem dX2_append_53 : decode cX2_append 53 = .ok (.iadd, 1) := by decide +kernel
theorem dX2_append_54 : decode cX2_append 54 = .ok (.putfield 21, 3) := by decide +kernel
theorem dX2_append_57 : decode cX2_append 57 = .ok (.iconst 1, 1) := by decide +kernel
theorem dX2_append_58 : decode cX2_append 58 = .ok (.ireturn, 1) := by decide +kernel
theorem dX2_weigh_0 : decode cX2_weigh 0 = .ok (.lconst 1, 1) := by decide +kernel
theorem dX2_weigh_1 : decode cX2_weigh 1 = .ok (.lstore 5, 2) := by decide +kernel
theorem dX2_weigh_3 : decode cX2_weigh 3 = .ok (.iconst 0, 1) := by decide +kernel
theorem dX2_weigh_4 : decode cX2_weigh 4 = .ok (.istore 7, 2) := by decide +kernel
theorem dX2_weigh_6 : decode cX2_weigh 6 = .ok (.iload 7, 2) := by decide +kernel
theorem dX2_weigh_8 : decode cX2_weigh 8 = .ok (.aload_n 0, 1) := by decide +kernel
theorem dX2_weigh_9 : decode cX2_weigh 9 = .ok (.getfield 21, 3) := by decide +kernel
theorem dX2_weigh_12 : decode cX2_weigh 12 = .ok (.if_icmp .ge 126, 3) := by decide +kernel
theorem dX2_weigh_15 : decode cX2_weigh 15 = .ok (.iload 7, 2) := by decide +kernel
theorem dX2_weigh_17 : decode cX2_weigh 17 = .ok (.iconst 4, 1) := by decide +kernel
theorem dX2_weigh_18 : decode cX2_weigh 18 = .ok (.if_icmp .ge 120, 3) := by decide +kernel
theorem dX2_weigh_21 : decode cX2_weigh 21 = .ok (.aload_n 0, 1) := by decide +kernel
theorem dX2_weigh_22 : decode cX2_weigh 22 = .ok (.getfield 11, 3) := by decide +kernel
theorem dX2_weigh_25 : decode cX2_weigh 25 = .ok (.iload 7, 2) := by decide +kernel
theorem dX2_weigh_27 : decode cX2_weigh 27 = .ok (.iaload, 1) := by decide +kernel
theorem dX2_weigh_28 : decode cX2_weigh 28 = .ok (.iload_n 1, 1) := by decide +kernel
theorem dX2_weigh_29 : decode cX2_weigh 29 = .ok (.if_icmp .eq 6, 3) := by decide +kernel
theorem dX2_weigh_32 : decode cX2_weigh 32 = .ok (.goto 100, 3) := by decide +kernel
theorem dX2_weigh_35 : decode cX2_weigh 35 = .ok (.aload_n 0, 1) := by decide +kernel
theorem dX2_weigh_36 : decode cX2_weigh 36 = .ok (.getfield 15, 3) := by decide +kernel
theorem dX2_weigh_39 : decode cX2_weigh 39 = .ok (.iload 7, 2) := by decide +kernel
theorem dX2_weigh_41 : decode cX2_weigh 41 = .ok (.iaload, 1) := by decide +kernel
theorem dX2_weigh_42 : decode cX2_weigh 42 = .ok (.iconst (-1), 1) := by decide +kernel
theorem dX2_weigh_43 : decode cX2_weigh 43 = .ok (.if_icmp .ne 42, 3) := by decide +kernel
theorem dX2_weigh_46 : decode cX2_weigh 46 = .ok (.aload 4, 2) := by decide +kernel
theorem dX2_weigh_48 : decode cX2_weigh 48 = .ok (.iconst 3, 1) := by decide +kernel
theorem dX2_weigh_49 : decode cX2_weigh 49 = .ok (.invokevirtual 25, 3) := by decide +kernel
theorem dX2_weigh_52 : decode cX2_weigh 52 = .ok (.istore 8, 2) := by decide +kernel
theorem dX2_weigh_54 : decode cX2_weigh 54 = .ok (.lload 5, 2) := by decide +kernel
theorem dX2_weigh_56 : decode cX2_weigh 56 = .ok (.aload_n 0, 1) := by decide +kernel
theorem dX2_weigh_57 : decode cX2_weigh 57 = .ok (.getfield 18, 3) := by decide +kernel
theorem dX2_weigh_60 : decode cX2_weigh 60 = .ok (.iload 7, 2) := by decide +kernel
theorem dX2_weigh_62 : decode cX2_weigh 62 = .ok (.iaload, 1) := by decide +kernel
theorem dX2_weigh_63 : decode cX2_weigh 63 = .ok (.iload_n 2, 1) := by decide +kernel
theorem dX2_weigh_64 : decode cX2_weigh 64 = .ok (.if_icmp .ne 9, 3) := by decide +kernel
theorem dX2_weigh_67 : decode cX2_weigh 67 = .ok (.iload 8, 2) := by decide +kernel
theorem dX2_weigh_69 : decode cX2_weigh 69 = .ok (.i2l, 1) := by decide +kernel
theorem dX2_weigh_70 : decode cX2_weigh 70 = .ok (.goto 9, 3) := by decide +kernel
theorem dX2_weigh_73 : decode cX2_weigh 73 = .ok (.bipush 16, 2) := by decide +kernel
theorem dX2_weigh_75 : decode cX2_weigh 75 = .ok (.iload 8, 2) := by decide +kernel
theorem dX2_weigh_77 : decode cX2_weigh 77 = .ok (.isub, 1) := by decide +kernel
theorem dX2_weigh_78 : decode cX2_weigh 78 = .ok (.i2l, 1) := by decide +kernel
theorem dX2_weigh_79 : decode cX2_weigh 79 = .ok (.lmul, 1) := by decide +kernel
theorem dX2_weigh_80 : decode cX2_weigh 80 = .ok (.lstore 5, 2) := by decide +kernel
theorem dX2_weigh_82 : decode cX2_weigh 82 = .ok (.goto 50, 3) := by decide +kernel
theorem dX2_weigh_85 : decode cX2_weigh 85 = .ok (.iload_n 3, 1) := by decide +kernel
theorem dX2_weigh_86 : decode cX2_weigh 86 = .ok (.iconst (-1), 1) := by decide +kernel
theorem dX2_weigh_87 : decode cX2_weigh 87 = .ok (.if_icmp .ne 18, 3) := by decide +kernel
theorem dX2_weigh_90 : decode cX2_weigh 90 = .ok (.lload 5, 2) := by decide +kernel
theorem dX2_weigh_92 : decode cX2_weigh 92 = .ok (.aload 4, 2) := by decide +kernel
theorem dX2_weigh_94 : decode cX2_weigh 94 = .ok (.iconst 2, 1) := by decide +kernel
theorem dX2_weigh_95 : decode cX2_weigh 95 = .ok (.invokevirtual 25, 3) := by decide +kernel
theorem dX2_weigh_98 : decode cX2_weigh 98 = .ok (.i2l, 1) := by decide +kernel
theorem dX2_weigh_99 : decode cX2_weigh 99 = .ok (.lmul, 1) := by decide +kernel
theorem dX2_weigh_100 : decode cX2_weigh 100 = .ok (.lstore 5, 2) := by decide +kernel
theorem dX2_weigh_102 : decode cX2_weigh 102 = .ok (.goto 30, 3) := by decide +kernel
theorem dX2_weigh_105 : decode cX2_weigh 105 = .ok (.lload 5, 2) := by decide +kernel
theorem dX2_weigh_107 : decode cX2_weigh 107 = .ok (.aload 4, 2) := by decide +kernel
theorem dX2_weigh_109 : decode cX2_weigh 109 = .ok (.iload_n 3, 1) := by decide +kernel
theorem dX2_weigh_110 : decode cX2_weigh 110 = .ok (.aload_n 0, 1) := by decide +kernel
theorem dX2_weigh_111 : decode cX2_weigh 111 = .ok (.getfield 15, 3) := by decide +kernel
theorem dX2_weigh_114 : decode cX2_weigh 114 = .ok (.iload 7, 2) := by decide +kernel
theorem dX2_weigh_116 : decode cX2_weigh 116 = .ok (.iaload, 1) := by decide +kernel
theorem dX2_weigh_117 : decode cX2_weigh 117 = .ok (.if_icmp .ne 7, 3) := by decide +kernel
theorem dX2_weigh_120 : decode cX2_weigh 120 = .ok (.iconst 0, 1) := by decide +kernel
theorem dX2_weigh_121 : decode cX2_weigh 121 = .ok (.goto 4, 3) := by decide +kernel
theorem dX2_weigh_124 : decode cX2_weigh 124 = .ok (.iconst 1, 1) := by decide +kernel
theorem dX2_weigh_125 : decode cX2_weigh 125 = .ok (.invokevirtual 25, 3) := by decide +kernel
theorem dX2_weigh_128 : decode cX2_weigh 128 = .ok (.i2l, 1) := by decide +kernel
theorem dX2_weigh_129 : decode cX2_weigh 129 = .ok (.lmul, 1) := by decide +kernel
theorem dX2_weigh_130 : decode cX2_weigh 130 = .ok (.lstore 5, 2) := by decide +kernel
theorem dX2_weigh_132 : decode cX2_weigh 132 = .ok (.iinc 7 1, 3) := by decide +kernel
theorem dX2_weigh_135 : decode cX2_weigh 135 = .ok (.goto (-129), 3) := by decide +kernel
theorem dX2_weigh_138 : decode cX2_weigh 138 = .ok (.lload 5, 2) := by decide +kernel
theorem dX2_weigh_140 : decode cX2_weigh 140 = .ok (.lreturn, 1) := by decide +kernel
theorem dX3_init_0 : decode cX3_init 0 = .ok (.aload_n 0, 1) := by decide +kernel
theorem dX3_init_1 : decode cX3_init 1 = .ok (.invokespecial 1, 3) := by decide +kernel
theorem dX3_init_4 : decode cX3_init 4 = .ok (.aload_n 0, 1) := by decide +kernel
theorem dX3_init_5 : decode cX3_init 5 = .ok (.iconst 3, 1) := by decide +kernel
theorem dX3_init_6 : decode cX3_init 6 = .ok (.newarray .int, 2) := by decide +kernel
theorem dX3_init_8 : decode cX3_init 8 = .ok (.dup, 1) := by decide +kernel
theorem dX3_init_9 : decode cX3_init 9 = .ok (.iconst 0, 1) := by decide +kernel
theorem dX3_init_10 : decode cX3_init 10 = .ok (.iconst 2, 1) := by decide +kernel
theorem dX3_init_11 : decode cX3_init 11 = .ok (.iastore, 1) := by decide +kernel
theorem dX3_init_12 : decode cX3_init 12 = .ok (.dup, 1) := by decide +kernel
theorem dX3_init_13 : decode cX3_init 13 = .ok (.iconst 1, 1) := by decide +kernel
theorem dX3_init_14 : decode cX3_init 14 = .ok (.iconst 1, 1) := by decide +kernel
theorem dX3_init_15 : decode cX3_init 15 = .ok (.iastore, 1) := by decide +kernel
theorem dX3_init_16 : decode cX3_init 16 = .ok (.dup, 1) := by decide +kernel
theorem dX3_init_17 : decode cX3_init 17 = .ok (.iconst 2, 1) := by decide +kernel
theorem dX3_init_18 : decode cX3_init 18 = .ok (.iconst 3, 1) := by decide +kernel
theorem dX3_init_19 : decode cX3_init 19 = .ok (.iastore, 1) := by decide +kernel
theorem dX3_init_20 : decode cX3_init 20 = .ok (.putfield 7, 3) := by decide +kernel
theorem dX3_init_23 : decode cX3_init 23 = .ok (.aload_n 0, 1) := by decide +kernel
theorem dX3_init_24 : decode cX3_init 24 = .ok (.iconst 3, 1) := by decide +kernel
theorem dX3_init_25 : decode cX3_init 25 = .ok (.newarray .int, 2) := by decide +kernel
theorem dX3_init_27 : decode cX3_init 27 = .ok (.dup, 1) := by decide +kernel
theorem dX3_init_28 : decode cX3_init 28 = .ok (.iconst 0, 1) := by decide +kernel
theorem dX3_init_29 : decode cX3_init 29 = .ok (.iconst 1, 1) := by decide +kernel
theorem dX3_init_30 : decode cX3_init 30 = .ok (.iastore, 1) := by decide +kernel
theorem dX3_init_31 : decode cX3_init 31 = .ok (.dup, 1) := by decide +kernel
theorem dX3_init_32 : decode cX3_init 32 = .ok (.iconst 1, 1) := by decide +kernel
theorem dX3_init_33 : decode cX3_init 33 = .ok (.iconst 3, 1) := by decide +kernel
theorem dX3_init_34 : decode cX3_init 34 = .ok (.iastore, 1) := by decide +kernel
theorem dX3_init_35 : decode cX3_init 35 = .ok (.dup, 1) := by decide +kernel
theorem dX3_init_36 : decode cX3_init 36 = .ok (.iconst 2, 1) := by decide +kernel
theorem dX3_init_37 : decode cX3_init 37 = .ok (.iconst 2, 1) := by decide +kernel
theorem dX3_init_38 : decode cX3_init 38 = .ok (.iastore, 1) := by decide +kernel
theorem dX3_init_39 : decode cX3_init 39 = .ok (.putfield 13, 3) := by decide +kernel
theorem dX3_init_42 : decode cX3_init 42 = .ok (.return_, 1) := by decide +kernel
theorem dX3_missedOf_0 : decode cX3_missedOf 0 = .ok (.aload_n 0, 1) := by decide +kernel
theorem dX3_missedOf_1 : decode cX3_missedOf 1 = .ok (.getfield 7, 3) := by decide +kernel
theorem dX3_missedOf_4 : decode cX3_missedOf 4 = .ok (.iload_n 1, 1) := by decide +kernel
theorem dX3_missedOf_5 : decode cX3_missedOf 5 = .ok (.invokestatic 16, 3) := by decide +kernel
theorem dX3_missedOf_8 : decode cX3_missedOf 8 = .ok (.ireturn, 1) := by decide +kernel
theorem dX3_doubledOf_0 : decode cX3_doubledOf 0 = .ok (.aload_n 0, 1) := by decide +kernel
theorem dX3_doubledOf_1 : decode cX3_doubledOf 1 = .ok (.getfield 13, 3) := by decide +kernel
theorem dX3_doubledOf_4 : decode cX3_doubledOf 4 = .ok (.iload_n 1, 1) := by decide +kernel
theorem dX3_doubledOf_5 : decode cX3_doubledOf 5 = .ok (.invokestatic 16, 3) := by decide +kernel
theorem dX3_doubledOf_8 : decode cX3_doubledOf 8 = .ok (.ireturn, 1) := by decide +kernel
theorem dX3_become_0 : decode cX3_become 0 = .ok (.iload_n 1, 1) := by decide +kernel
theorem dX3_become_1 : decode cX3_become 1 = .ok (.ifCond .lt 35, 3) := by decide +kernel
theorem dX3_become_4 : decode cX3_become 4 = .ok (.iload_n 1, 1) := by decide +kernel
theorem dX3_become_5 : decode cX3_become 5 = .ok (.aload_n 0, 1) := by decide +kernel
theorem dX3_become_6 : decode cX3_become 6 = .ok (.getfield 7, 3) := by decide +kernel
theorem dX3_become_9 : decode cX3_become 9 = .ok (.arraylength, 1) := by decide +kernel
theorem dX3_become_10 : decode cX3_become 10 = .ok (.if_icmp .ge 26, 3) := by decide +kernel
theorem dX3_become_13 : decode cX3_become 13 = .ok (.iload_n 1, 1) := by decide +kernel
theorem dX3_become_14 : decode cX3_become 14 = .ok (.aload_n 0, 1) := by decide +kernel
theorem dX3_become_15 : decode cX3_become 15 = .ok (.getfield 13, 3) := by decide +kernel
theorem dX3_become_18 : decode cX3_become 18 = .ok (.arraylength, 1) := by decide +kernel
theorem dX3_become_19 : decode cX3_become 19 = .ok (.if_icmp .ge 17, 3) := by decide +kernel
theorem dX3_become_22 : decode cX3_become 22 = .ok (.aload_n 0, 1) := by decide +kernel
theorem dX3_become_23 : decode cX3_become 23 = .ok (.getfield 7, 3) := by decide +kernel
theorem dX3_become_26 : decode cX3_become 26 = .ok (.iload_n 1, 1) := by decide +kernel
theorem dX3_become_27 : decode cX3_become 27 = .ok (.iload_n 2, 1) := by decide +kernel
theorem dX3_become_28 : decode cX3_become 28 = .ok (.iastore, 1) := by decide +kernel
theorem dX3_become_29 : decode cX3_become 29 = .ok (.aload_n 0, 1) := by decide +kernel
theorem dX3_become_30 : decode cX3_become 30 = .ok (.getfield 13, 3) := by decide +kernel
theorem dX3_become_33 : decode cX3_become 33 = .ok (.iload_n 1, 1) := by decide +kernel
theorem dX3_become_34 : decode cX3_become 34 = .ok (.iload_n 3, 1) := by decide +kernel
theorem dX3_become_35 : decode cX3_become 35 = .ok (.iastore, 1) := by decide +kernel
theorem dX3_become_36 : decode cX3_become 36 = .ok (.return_, 1) := by decide +kernel
theorem dX4_init_0 : decode cX4_init 0 = .ok (.aload_n 0, 1) := by decide +kernel
theorem dX4_init_1 : decode cX4_init 1 = .ok (.invokespecial 3, 3) := by decide +kernel
theorem dX4_init_4 : decode cX4_init 4 = .ok (.aload_n 0, 1) := by decide +kernel
theorem dX4_init_5 : decode cX4_init 5 = .ok (.bipush 60, 2) := by decide +kernel
theorem dX4_init_7 : decode cX4_init 7 = .ok (.newarray .int, 2) := by decide +kernel
theorem dX4_init_9 : decode cX4_init 9 = .ok (.putfield 11, 3) := by decide +kernel
theorem dX4_init_12 : decode cX4_init 12 = .ok (.aload_n 0, 1) := by decide +kernel
theorem dX4_init_13 : decode cX4_init 13 = .ok (.bipush 99, 2) := by decide +kernel
theorem dX4_init_15 : decode cX4_init 15 = .ok (.newarray .int, 2) := by decide +kernel
theorem dX4_init_17 : decode cX4_init 17 = .ok (.putfield 15, 3) := by decide +kernel
theorem dX4_init_20 : decode cX4_init 20 = .ok (.aload_n 0, 1) := by decide +kernel
theorem dX4_init_21 : decode cX4_init 21 = .ok (.bipush 99, 2) := by decide +kernel
theorem dX4_init_23 : decode cX4_init 23 = .ok (.newarray .int, 2) := by decide +kernel
theorem dX4_init_25 : decode cX4_init 25 = .ok (.putfield 18, 3) := by decide +kernel
theorem dX4_init_28 : decode cX4_init 28 = .ok (.aload_n 0, 1) := by decide +kernel
theorem dX4_init_29 : decode cX4_init 29 = .ok (.bipush 99, 2) := by decide +kernel
theorem dX4_init_31 : decode cX4_init 31 = .ok (.newarray .int, 2) := by decide +kernel
theorem dX4_init_33 : decode cX4_init 33 = .ok (.putfield 21, 3) := by decide +kernel
theorem dX4_init_36 : decode cX4_init 36 = .ok (.aload_n 0, 1) := by decide +kernel
theorem dX4_init_37 : decode cX4_init 37 = .ok (.bipush 6, 2) := by decide +kernel
theorem dX4_init_39 : decode cX4_init 39 = .ok (.newarray .int, 2) := by decide +kernel
theorem dX4_init_41 : decode cX4_init 41 = .ok (.putfield 24, 3) := by decide +kernel
theorem dX4_init_44 : decode cX4_init 44 = .ok (.aload_n 0, 1) := by decide +kernel
theorem dX4_init_45 : decode cX4_init 45 = .ok (.iconst 0, 1) := by decide +kernel
theorem dX4_init_46 : decode cX4_init 46 = .ok (.putfield 27, 3) := by decide +kernel
theorem dX4_init_49 : decode cX4_init 49 = .ok (.aload_n 0, 1) := by decide +kernel
theorem dX4_init_50 : decode cX4_init 50 = .ok (.iconst 0, 1) := by decide +kernel
theorem dX4_init_51 : decode cX4_init 51 = .ok (.putfield 31, 3) := by decide +kernel
theorem dX4_init_54 : decode cX4_init 54 = .ok (.aload_n 0, 1) := by decide +kernel
theorem dX4_init_55 : decode cX4_init 55 = .ok (.iconst 0, 1) := by decide +kernel
theorem dX4_init_56 : decode cX4_init 56 = .ok (.putfield 34, 3) := by decide +kernel
theorem dX4_init_59 : decode cX4_init 59 = .ok (.aload_n 0, 1) := by decide +kernel
theorem dX4_init_60 : decode cX4_init 60 = .ok (.iconst 0, 1) := by decide +kernel
theorem dX4_init_61 : decode cX4_init 61 = .ok (.putfield 37, 3) := by decide +kernel
theorem dX4_init_64 : decode cX4_init 64 = .ok (.aload_n 0, 1) := by decide +kernel
theorem dX4_init_65 : decode cX4_init 65 = .ok (.iconst (-1), 1) := by decide +kernel
theorem dX4_init_66 : decode cX4_init 66 = .ok (.putfield 40, 3) := by decide +kernel
theorem dX4_init_69 : decode cX4_init 69 = .ok (.return_, 1) := by decide +kernel
theorem dX4_append_0 : decode cX4_append 0 = .ok (.aload_n 0, 1) := by decide +kernel
theorem dX4_append_1 : decode cX4_append 1 = .ok (.getfield 27, 3) := by decide +kernel
theorem dX4_append_4 : decode cX4_append 4 = .ok (.ifCond .lt 12, 3) := by decide +kernel
theorem dX4_append_7 : decode cX4_append 7 = .ok (.aload_n 0, 1) := by decide +kernel
theorem dX4_append_8 : decode cX4_append 8 = .ok (.getfield 27, 3) := by decide +kernel
theorem dX4_append_11 : decode cX4_append 11 = .ok (.bipush 60, 2) := by decide +kernel
theorem dX4_append_13 : decode cX4_append 13 = .ok (.if_icmp .lt 5, 3) := by decide +kernel
theorem dX4_append_16 : decode cX4_append 16 = .ok (.iconst 0, 1) := by decide +kernel
theorem dX4_append_17 : decode cX4_append 17 = .ok (.ireturn, 1) := by decide +kernel
theorem dX4_append_18 : decode cX4_append 18 = .ok (.aload_n 0, 1) := by decide +kernel
theorem dX4_append_19 : decode cX4_append 19 = .ok (.getfield 11, 3) := by decide +kernel
theorem dX4_append_22 : decode cX4_append 22 = .ok (.aload_n 0, 1) := by decide +kernel
theorem dX4_append_23 : decode cX4_append 23 = .ok (.getfield 27, 3) := by decide +kernel
theorem dX4_append_26 : decode cX4_append 26 = .ok (.iload_n 1, 1) := by decide +kernel
theorem dX4_append_27 : decode cX4_append 27 = .ok (.iastore, 1) := by decide +kernel
theorem dX4_append_28 : decode cX4_append 28 = .ok (.aload_n 0, 1) := by decide +kernel
theorem dX4_append_29 : decode cX4_append 29 = .ok (.dup, 1) := by decide +kernel
theorem dX4_append_30 : decode cX4_append 30 = .ok (.getfield 27, 3) := by decide +kernel
theorem dX4_append_33 : decode cX4_append 33 = .ok (.iconst 1, 1) := by decide +kernel
theorem dX4_append_34 : decode cX4_append 34 = .ok (.iadd, 1) := by decide +kernel
theorem dX4_append_35 : decode cX4_append 35 = .ok (.putfield 27, 3) := by decide +kernel
theorem dX4_append_38 : decode cX4_append 38 = .ok (.aload_n 0, 1) := by decide +kernel
theorem dX4_append_39 : decode cX4_append 39 = .ok (.invokevirtual 43, 3) := by decide +kernel
theorem dX4_append_42 : decode cX4_append 42 = .ok (.iconst 1, 1) := by decide +kernel
theorem dX4_append_43 : decode cX4_append 43 = .ok (.ireturn, 1) := by decide +kernel
theorem dX4_shorten_0 : decode cX4_shorten 0 = .ok (.aload_n 0, 1) := by decide +kernel
theorem dX4_shorten_1 : decode cX4_shorten 1 = .ok (.iconst 0, 1) := by decide +kernel
theorem dX4_shorten_2 : decode cX4_shorten 2 = .ok (.aload_n 0, 1) := by decide +kernel
theorem dX4_shorten_3 : decode cX4_shorten 3 = .ok (.getfield 27, 3) := by decide +kernel
theorem dX4_shorten_6 : decode cX4_shorten 6 = .ok (.iload_n 1, 1) := by decide +kernel
theorem dX4_shorten_7 : decode cX4_shorten 7 = .ok (.isub, 1) := by decide +kernel
theorem dX4_shorten_8 : decode cX4_shorten 8 = .ok (.invokestatic 46, 3) := by decide +kernel
theorem dX4_shorten_11 : decode cX4_shorten 11 = .ok (.putfield 27, 3) := by decide +kernel
theorem dX4_shorten_14 : decode cX4_shorten 14 = .ok (.aload_n 0, 1) := by decide +kernel
theorem dX4_shorten_15 : decode cX4_shorten 15 = .ok (.invokevirtual 43, 3) := by decide +kernel
theorem dX4_shorten_18 : decode cX4_shorten 18 = .ok (.return_, 1) := by decide +kernel
theorem dX4_hasBar_0 : decode cX4_hasBar 0 = .ok (.iload_n 1, 1) := by decide +kernel
theorem dX4_hasBar_1 : decode cX4_hasBar 1 = .ok (.ifCond .lt 15, 3) := by decide +kernel
theorem dX4_hasBar_4 : decode cX4_hasBar 4 = .ok (.iload_n 1, 1) := by decide +kernel
theorem dX4_hasBar_5 : decode cX4_hasBar 5 = .ok (.aload_n 0, 1) := by decide +kernel
theorem dX4_hasBar_6 : decode cX4_hasBar 6 = .ok (.getfield 31, 3) := by decide +kernel
theorem dX4_hasBar_9 : decode cX4_hasBar 9 = .ok (.if_icmp .ge 7, 3) := by decide +kernel
theorem dX4_hasBar_12 : decode cX4_hasBar 12 = .ok (.iconst 1, 1) := by decide +kernel
theorem dX4_hasBar_13 : decode cX4_hasBar 13 = .ok (.goto 4, 3) := by decide +kernel
theorem dX4_hasBar_16 : decode cX4_hasBar 16 = .ok (.iconst 0, 1) := by decide +kernel
theorem dX4_hasBar_17 : decode cX4_hasBar 17 = .ok (.ireturn, 1) := by decide +kernel
theorem dX4_isLoose_0 : decode cX4_isLoose 0 = .ok (.aload_n 0, 1) := by decide +kernel
theorem dX4_isLoose_1 : decode cX4_isLoose 1 = .ok (.iload_n 1, 1) := by decide +kernel
theorem dX4_isLoose_2 : decode cX4_isLoose 2 = .ok (.invokevirtual 52, 3) := by decide +kernel
theorem dX4_isLoose_5 : decode cX4_isLoose 5 = .ok (.ifCond .eq 19, 3) := by decide +kernel
theorem dX4_isLoose_8 : decode cX4_isLoose 8 = .ok (.aload_n 0, 1) := by decide +kernel
theorem dX4_isLoose_9 : decode cX4_isLoose 9 = .ok (.getfield 15, 3) := by decide +kernel
theorem dX4_isLoose_12 : decode cX4_isLoose 12 = .ok (.iload_n 1, 1) := by decide +kernel
theorem dX4_isLoose_13 : decode cX4_isLoose 13 = .ok (.invokestatic 56, 3) := by decide +kernel
theorem dX4_isLoose_16 : decode cX4_isLoose 16 = .ok (.iconst 2, 1) := by decide +kernel
theorem dX4_isLoose_17 : decode cX4_isLoose 17 = .ok (.if_icmp .gt 7, 3) := by decide +kernel
theorem dX4_isLoose_20 : decode cX4_isLoose 20 = .ok (.iconst 1, 1) := by decide +kernel
theorem dX4_isLoose_21 : decode cX4_isLoose 21 = .ok (.goto 4, 3) := by decide +kernel
theorem dX4_isLoose_24 : decode cX4_isLoose 24 = .ok (.iconst 0, 1) := by decide +kernel
theorem dX4_isLoose_25 : decode cX4_isLoose 25 = .ok (.ireturn, 1) := by decide +kernel
theorem dX4_kindOf_0 : decode cX4_kindOf 0 = .ok (.aload_n 0, 1) := by decide +kernel
theorem dX4_kindOf_1 : decode cX4_kindOf 1 = .ok (.getfield 15, 3) := by decide +kernel
theorem dX4_kindOf_4 : decode cX4_kindOf 4 = .ok (.iload_n 1, 1) := by decide +kernel
theorem dX4_kindOf_5 : decode cX4_kindOf 5 = .ok (.invokestatic 56, 3) := by decide +kernel
theorem dX4_kindOf_8 : decode cX4_kindOf 8 = .ok (.ireturn, 1) := by decide +kernel
theorem dX4_cueIn_0 : decode cX4_cueIn 0 = .ok (.aload_n 0, 1) := by decide +kernel
theorem dX4_cueIn_1 : decode cX4_cueIn 1 = .ok (.iload_n 1, 1) := by decide +kernel
theorem dX4_cueIn_2 : decode cX4_cueIn 2 = .ok (.invokevirtual 52, 3) := by decide +kernel
theorem dX4_cueIn_5 : decode cX4_cueIn 5 = .ok (.ifCond .eq 14, 3) := by decide +kernel
theorem dX4_cueIn_8 : decode cX4_cueIn 8 = .ok (.aload_n 0, 1) := by decide +kernel
theorem dX4_cueIn_9 : decode cX4_cueIn 9 = .ok (.getfield 18, 3) := by decide +kernel
theorem dX4_cueIn_12 : decode cX4_cueIn 12 = .ok (.iload_n 1, 1) := by decide +kernel
theorem dX4_cueIn_13 : decode cX4_cueIn 13 = .ok (.invokestatic 56, 3) := by decide +kernel
theorem dX4_cueIn_16 : decode cX4_cueIn 16 = .ok (.goto 4, 3) := by decide +kernel
theorem dX4_cueIn_19 : decode cX4_cueIn 19 = .ok (.iconst (-1), 1) := by decide +kernel
theorem dX4_cueIn_20 : decode cX4_cueIn 20 = .ok (.ireturn, 1) := by decide +kernel
theorem dX4_tuneOf_0 : decode cX4_tuneOf 0 = .ok (.aload_n 0, 1) := by decide +kernel
theorem dX4_tuneOf_1 : decode cX4_tuneOf 1 = .ok (.iload_n 1, 1) := by decide +kernel
theorem dX4_tuneOf_2 : decode cX4_tuneOf 2 = .ok (.invokevirtual 52, 3) := by decide +kernel
theorem dX4_tuneOf_5 : decode cX4_tuneOf 5 = .ok (.ifCond .eq 14, 3) := by decide +kernel
theorem dX4_tuneOf_8 : decode cX4_tuneOf 8 = .ok (.aload_n 0, 1) := by decide +kernel
theorem dX4_tuneOf_9 : decode cX4_tuneOf 9 = .ok (.getfield 21, 3) := by decide +kernel
theorem dX4_tuneOf_12 : decode cX4_tuneOf 12 = .ok (.iload_n 1, 1) := by decide +kernel
theorem dX4_tuneOf_13 : decode cX4_tuneOf 13 = .ok (.invokestatic 56, 3) := by decide +kernel
theorem dX4_tuneOf_16 : decode cX4_tuneOf 16 = .ok (.goto 4, 3) := by decide +kernel
theorem dX4_tuneOf_19 : decode cX4_tuneOf 19 = .ok (.iconst (-1), 1) := by decide +kernel
theorem dX4_tuneOf_20 : decode cX4_tuneOf 20 = .ok (.ireturn, 1) := by decide +kernel
theorem dX4_barOf_0 : decode cX4_barOf 0 = .ok (.aload_n 0, 1) := by decide +kernel
theorem dX4_barOf_1 : decode cX4_barOf 1 = .ok (.getfield 24, 3) := by decide +kernel
theorem dX4_barOf_4 : decode cX4_barOf 4 = .ok (.iload_n 1, 1) := by decide +kernel
theorem dX4_barOf_5 : decode cX4_barOf 5 = .ok (.invokestatic 56, 3) := by decide +kernel
theorem dX4_barOf_8 : decode cX4_barOf 8 = .ok (.ireturn, 1) := by decide +kernel
theorem dX4_understand_0 : decode cX4_understand 0 = .ok (.aload_n 0, 1) := by decide +kernel
theorem dX4_understand_1 : decode cX4_understand 1 = .ok (.iconst 0, 1) := by decide +kernel
theorem dX4_understand_2 : decode cX4_understand 2 = .ok (.putfield 31, 3) := by decide +kernel
theorem dX4_understand_5 : decode cX4_understand 5 = .ok (.aload_n 0, 1) := by decide +kernel
theorem dX4_understand_6 : decode cX4_understand 6 = .ok (.iconst 0, 1) := by decide +kernel
theorem dX4_understand_7 : decode cX4_understand 7 = .ok (.putfield 34, 3) := by decide +kernel
theorem dX4_understand_10 : decode cX4_understand 10 = .ok (.aload_n 0, 1) := by decide +kernel
theorem dX4_understand_11 : decode cX4_understand 11 = .ok (.iconst 0, 1) := by decide +kernel
theorem dX4_understand_12 : decode cX4_understand 12 = .ok (.putfield 37, 3) := by decide +kernel
theorem dX4_understand_15 : decode cX4_understand 15 = .ok (.aload_n 0, 1) := by decide +kernel
theorem dX4_understand_16 : decode cX4_understand 16 = .ok (.iconst (-1), 1) := by decide +kernel
theorem dX4_understand_17 : decode cX4_understand 17 = .ok (.putfield 40, 3) := by decide +kernel
theorem dX4_understand_20 : decode cX4_understand 20 = .ok (.iconst 0, 1) := by decide +kernel
theorem dX4_understand_21 : decode cX4_understand 21 = .ok (.istore_n 1, 1) := by decide +kernel
theorem dX4_understand_22 : decode cX4_understand 22 = .ok (.aload_n 0, 1) := by decide +kernel
theorem dX4_understand_23 : decode cX4_understand 23 = .ok (.getfield 27, 3) := by decide +kernel
theorem dX4_understand_26 : decode cX4_understand 26 = .ok (.ifCond .le 7, 3) := by decide +kernel
theorem dX4_understand_29 : decode cX4_understand 29 = .ok (.iconst 1, 1) := by decide +kernel
theorem dX4_understand_30 : decode cX4_understand 30 = .ok (.goto 4, 3) := by decide +kernel
theorem dX4_understand_33 : decode cX4_understand 33 = .ok (.iconst 0, 1) := by decide +kernel
theorem dX4_understand_34 : decode cX4_understand 34 = .ok (.istore_n 2, 1) := by decide +kernel
theorem dX4_understand_35 : decode cX4_understand 35 = .ok (.iconst 0, 1) := by decide +kernel
theorem dX4_understand_36 : decode cX4_understand 36 = .ok (.istore_n 3, 1) := by decide +kernel
theorem dX4_understand_37 : decode cX4_understand 37 = .ok (.iload_n 3, 1) := by decide +kernel
theorem dX4_understand_38 : decode cX4_understand 38 = .ok (.bipush 60, 2) := by decide +kernel
theorem dX4_understand_40 : decode cX4_understand 40 = .ok (.if_icmp .gt 43, 3) := by decide +kernel
theorem dX4_understand_43 : decode cX4_understand 43 = .ok (.iload_n 2, 1) := by decide +kernel
theorem dX4_understand_44 : decode cX4_understand 44 = .ok (.ifCond .eq 39, 3) := by decide +kernel
theorem dX4_understand_47 : decode cX4_understand 47 = .ok (.aload_n 0, 1) := by decide +kernel
theorem dX4_understand_48 : decode cX4_understand 48 = .ok (.getfield 40, 3) := by decide +kernel
theorem dX4_understand_51 : decode cX4_understand 51 = .ok (.iconst (-1), 1) := by decide +kernel
theorem dX4_understand_52 : decode cX4_understand 52 = .ok (.if_icmp .ne 31, 3) := by decide +kernel
theorem dX4_understand_55 : decode cX4_understand 55 = .ok (.aload_n 0, 1) := by decide +kernel
theorem dX4_understand_56 : decode cX4_understand 56 = .ok (.iload_n 1, 1) := by decide +kernel
theorem dX4_understand_57 : decode cX4_understand 57 = .ok (.invokevirtual 60, 3) := by decide +kernel
theorem dX4_understand_60 : decode cX4_understand 60 = .ok (.bipush 120, 2) := by decide +kernel
theorem dX4_understand_62 : decode cX4_understand 62 = .ok (.if_icmp .eq 7, 3) := by decide +kernel
theorem dX4_understand_65 : decode cX4_understand 65 = .ok (.iconst 1, 1) := by decide +kernel
theorem dX4_understand_66 : decode cX4_understand 66 = .ok (.goto 4, 3) := by decide +kernel
theorem dX4_understand_69 : decode cX4_understand 69 = .ok (.iconst 0, 1) := by decide +kernel
theorem dX4_understand_70 : decode cX4_understand 70 = .ok (.istore_n 2, 1) := by decide +kernel
theorem dX4_understand_71 : decode cX4_understand 71 = .ok (.aload_n 0, 1) := by decide +kernel
theorem dX4_understand_72 : decode cX4_understand 72 = .ok (.iload_n 1, 1) := by decide +kernel
theorem dX4_understand_73 : decode cX4_understand 73 = .ok (.invokevirtual 64, 3) := by decide +kernel
theorem dX4_understand_76 : decode cX4_understand 76 = .ok (.istore_n 1, 1) := by decide +kernel
theorem dX4_understand_77 : decode cX4_understand 77 = .ok (.iinc 3 1, 3) := by decide +kernel
theorem dX4_understand_80 : decode cX4_understand 80 = .ok (.goto (-43), 3) := by decide +kernel
theorem dX4_understand_83 : decode cX4_understand 83 = .ok (.aload_n 0, 1) := by decide +kernel
theorem dX4_understand_84 : decode cX4_understand 84 = .ok (.getfield 40, 3) := by decide +kernel
theorem dX4_understand_87 : decode cX4_understand 87 = .ok (.iconst (-1), 1) := by decide +kernel
theorem dX4_understand_88 : decode cX4_understand 88 = .ok (.if_icmp .ne 16, 3) := by decide +kernel
theorem dX4_understand_91 : decode cX4_understand 91 = .ok (.iload_n 1, 1) := by decide +kernel
theorem dX4_understand_92 : decode cX4_understand 92 = .ok (.aload_n 0, 1) := by decide +kernel
theorem dX4_understand_93 : decode cX4_understand 93 = .ok (.getfield 27, 3) := by decide +kernel
theorem dX4_understand_96 : decode cX4_understand 96 = .ok (.if_icmp .ge 8, 3) := by decide +kernel
theorem dX4_understand_99 : decode cX4_understand 99 = .ok (.aload_n 0, 1) := by decide +kernel
theorem dX4_understand_100 : decode cX4_understand 100 = .ok (.iload_n 1, 1) := by decide +kernel
theorem dX4_understand_101 : decode cX4_understand 101 = .ok (.putfield 40, 3) := by decide +kernel
theorem dX4_understand_104 : decode cX4_understand 104 = .ok (.aload_n 0, 1) := by decide +kernel
theorem dX4_understand_105 : decode cX4_understand 105 = .ok (.getfield 40, 3) := by decide +kernel
theorem dX4_understand_108 : decode cX4_understand 108 = .ok (.iconst (-1), 1) := by decide +kernel
theorem dX4_understand_109 : decode cX4_understand 109 = .ok (.if_icmp .eq 18, 3) := by decide +kernel
theorem dX4_understand_112 : decode cX4_understand 112 = .ok (.aload_n 0, 1) := by decide +kernel
theorem dX4_understand_113 : decode cX4_understand 113 = .ok (.iconst 0, 1) := by decide +kernel
theorem dX4_understand_114 : decode cX4_understand 114 = .ok (.putfield 31, 3) := by decide +kernel
theorem dX4_understand_117 : decode cX4_understand 117 = .ok (.aload_n 0, 1) := by decide +kernel
theorem dX4_understand_118 : decode cX4_understand 118 = .ok (.iconst 0, 1) := by decide +kernel
theorem dX4_understand_119 : decode cX4_understand 119 = .ok (.putfield 34, 3) := by decide +kernel
theorem dX4_understand_122 : decode cX4_understand 122 = .ok (.aload_n 0, 1) := by decide +kernel
theorem dX4_understand_123 : decode cX4_understand 123 = .ok (.iconst 0, 1) := by decide +kernel
theorem dX4_understand_124 : decode cX4_understand 124 = .ok (.putfield 37, 3) := by decide +kernel
theorem dX4_understand_127 : decode cX4_understand 127 = .ok (.return_, 1) := by decide +kernel
theorem dX4_byteAt_0 : decode cX4_byteAt 0 = .ok (.iload_n 1, 1) := by decide +kernel
theorem dX4_byteAt_1 : decode cX4_byteAt 1 = .ok (.aload_n 0, 1) := by decide +kernel
theorem dX4_byteAt_2 : decode cX4_byteAt 2 = .ok (.getfield 27, 3) := by decide +kernel
theorem dX4_byteAt_5 : decode cX4_byteAt 5 = .ok (.if_icmp .ge 14, 3) := by decide +kernel
theorem dX4_byteAt_8 : decode cX4_byteAt 8 = .ok (.aload_n 0, 1) := by decide +kernel
theorem dX4_byteAt_9 : decode cX4_byteAt 9 = .ok (.getfield 11, 3) := by decide +kernel
theorem dX4_byteAt_12 : decode cX4_byteAt 12 = .ok (.iload_n 1, 1) := by decide +kernel
theorem dX4_byteAt_13 : decode cX4_byteAt 13 = .ok (.invokestatic 56, 3) := by decide +kernel
theorem dX4_byteAt_16 : decode cX4_byteAt 16 = .ok (.goto 4, 3) := by decide +kernel
theorem dX4_byteAt_19 : decode cX4_byteAt 19 = .ok (.iconst (-1), 1) := by decide +kernel
theorem dX4_byteAt_20 : decode cX4_byteAt 20 = .ok (.ireturn, 1) := by decide +kernel
theorem dX4_passed_0 : decode cX4_passed 0 = .ok (.aload_n 0, 1) := by decide +kernel
theorem dX4_passed_1 : decode cX4_passed 1 = .ok (.iload_n 1, 1) := by decide +kernel
theorem dX4_passed_2 : decode cX4_passed 2 = .ok (.invokevirtual 60, 3) := by decide +kernel
theorem dX4_passed_5 : decode cX4_passed 5 = .ok (.lookupswitch 113 #[(99, 86), (100, 65), (109, 79), (112, 59), (119, 72), (120, 92)], 59) := by decide +kernel
theorem dX4_passed_64 : decode cX4_passed 64 = .ok (.aload_n 0, 1) := by decide +kernel
theorem dX4_passed_65 : decode cX4_passed 65 = .ok (.iload_n 1, 1) := by decide +kernel
theorem dX4_passed_66 : decode cX4_passed 66 = .ok (.invokevirtual 67, 3) := by decide +kernel
theorem dX4_passed_69 : decode cX4_passed 69 = .ok (.ireturn, 1) := by decide +kernel
theorem dX4_passed_70 : decode cX4_passed 70 = .ok (.aload_n 0, 1) := by decide +kernel
theorem dX4_passed_71 : decode cX4_passed 71 = .ok (.iload_n 1, 1) := by decide +kernel
theorem dX4_passed_72 : decode cX4_passed 72 = .ok (.iconst 0, 1) := by decide +kernel
theorem dX4_passed_73 : decode cX4_passed 73 = .ok (.invokevirtual 70, 3) := by decide +kernel
theorem dX4_passed_76 : decode cX4_passed 76 = .ok (.ireturn, 1) := by decide +kernel
theorem dX4_passed_77 : decode cX4_passed 77 = .ok (.aload_n 0, 1) := by decide +kernel
theorem dX4_passed_78 : decode cX4_passed 78 = .ok (.iload_n 1, 1) := by decide +kernel
theorem dX4_passed_79 : decode cX4_passed 79 = .ok (.iconst 1, 1) := by decide +kernel
theorem dX4_passed_80 : decode cX4_passed 80 = .ok (.invokevirtual 70, 3) := by decide +kernel
theorem dX4_passed_83 : decode cX4_passed 83 = .ok (.ireturn, 1) := by decide +kernel
theorem dX4_passed_84 : decode cX4_passed 84 = .ok (.aload_n 0, 1) := by decide +kernel
theorem dX4_passed_85 : decode cX4_passed 85 = .ok (.iload_n 1, 1) := by decide +kernel
theorem dX4_passed_86 : decode cX4_passed 86 = .ok (.iconst 2, 1) := by decide +kernel
theorem dX4_passed_87 : decode cX4_passed 87 = .ok (.invokevirtual 70, 3) := by decide +kernel
theorem dX4_passed_90 : decode cX4_passed 90 = .ok (.ireturn, 1) := by decide +kernel
theorem dX4_passed_91 : decode cX4_passed 91 = .ok (.aload_n 0, 1) := by decide +kernel
theorem dX4_passed_92 : decode cX4_passed 92 = .ok (.iload_n 1, 1) := by decide +kernel
theorem dX4_passed_93 : decode cX4_passed 93 = .ok (.invokevirtual 73, 3) := by decide +kernel
theorem dX4_passed_96 : decode cX4_passed 96 = .ok (.ireturn, 1) := by decide +kernel
theorem dX4_passed_97 : decode cX4_passed 97 = .ok (.aload_n 0, 1) := by decide +kernel
theorem dX4_passed_98 : decode cX4_passed 98 = .ok (.iconst 1, 1) := by decide +kernel
theorem dX4_passed_99 : decode cX4_passed 99 = .ok (.iconst 5, 1) := by decide +kernel
theorem dX4_passed_100 : decode cX4_passed 100 = .ok (.invokevirtual 76, 3) := by decide +kernel
theorem dX4_passed_103 : decode cX4_passed 103 = .ok (.ifCond .eq 9, 3) := by decide +kernel
theorem dX4_passed_106 : decode cX4_passed 106 = .ok (.iload_n 1, 1) := by decide +kernel
theorem dX4_passed_107 : decode cX4_passed 107 = .ok (.iconst 1, 1) := by decide +kernel
theorem dX4_passed_108 : decode cX4_passed 108 = .ok (.iadd, 1) := by decide +kernel
theorem dX4_passed_109 : decode cX4_passed 109 = .ok (.goto 8, 3) := by decide +kernel
theorem dX4_passed_112 : decode cX4_passed 112 = .ok (.aload_n 0, 1) := by decide +kernel
theorem dX4_passed_113 : decode cX4_passed 113 = .ok (.iload_n 1, 1) := by decide +kernel
theorem dX4_passed_114 : decode cX4_passed 114 = .ok (.invokevirtual 80, 3) := by decide +kernel
theorem dX4_passed_117 : decode cX4_passed 117 = .ok (.ireturn, 1) := by decide +kernel
theorem dX4_passed_118 : decode cX4_passed 118 = .ok (.aload_n 0, 1) := by decide +kernel
theorem dX4_passed_119 : decode cX4_passed 119 = .ok (.iload_n 1, 1) := by decide +kernel
theorem dX4_passed_120 : decode cX4_passed 120 = .ok (.invokevirtual 80, 3) := by decide +kernel
theorem dX4_passed_123 : decode cX4_passed 123 = .ok (.ireturn, 1) := by decide +kernel
theorem dX4_passedPlain_0 : decode cX4_passedPlain 0 = .ok (.aload_n 0, 1) := by decide +kernel
theorem dX4_passedPlain_1 : decode cX4_passedPlain 1 = .ok (.iload_n 1, 1) := by decide +kernel
theorem dX4_passedPlain_2 : decode cX4_passedPlain 2 = .ok (.iconst 1, 1) := by decide +kernel
theorem dX4_passedPlain_3 : decode cX4_passedPlain 3 = .ok (.iadd, 1) := by decide +kernel
theorem dX4_passedPlain_4 : decode cX4_passedPlain 4 = .ok (.invokevirtual 60, 3) := by decide +kernel
theorem dX4_passedPlain_7 : decode cX4_passedPlain 7 = .ok (.bipush 48, 2) := by decide +kernel
theorem dX4_passedPlain_9 : decode cX4_passedPlain 9 = .ok (.isub, 1) := by decide +kernel
theorem dX4_passedPlain_10 : decode cX4_passedPlain 10 = .ok (.istore_n 2, 1) := by decide +kernel
theorem dX4_passedPlain_11 : decode cX4_passedPlain 11 = .ok (.iload_n 2, 1) := by decide +kernel
theorem dX4_passedPlain_12 : decode cX4_passedPlain 12 = .ok (.iconst 0, 1) := by decide +kernel
theorem dX4_passedPlain_13 : decode cX4_passedPlain 13 = .ok (.bipush 9, 2) := by decide +kernel
theorem dX4_passedPlain_15 : decode cX4_passedPlain 15 = .ok (.invokestatic 83, 3) := by decide +kernel
theorem dX4_passedPlain_18 : decode cX4_passedPlain 18 = .ok (.ifCond .ne 11, 3) := by decide +kernel
theorem dX4_passedPlain_21 : decode cX4_passedPlain 21 = .ok (.aload_n 0, 1) := by decide +kernel
theorem dX4_passedPlain_22 : decode cX4_passedPlain 22 = .ok (.iload_n 1, 1) := by decide +kernel
theorem dX4_passedPlain_23 : decode cX4_passedPlain 23 = .ok (.iconst 1, 1) := by decide +kernel
theorem dX4_passedPlain_24 : decode cX4_passedPlain 24 = .ok (.iadd, 1) := by decide +kernel
theorem dX4_passedPlain_25 : decode cX4_passedPlain 25 = .ok (.invokevirtual 80, 3) := by decide +kernel
theorem dX4_passedPlain_28 : decode cX4_passedPlain 28 = .ok (.ireturn, 1) := by decide +kernel
theorem dX4_passedPlain_29 : decode cX4_passedPlain 29 = .ok (.aload_n 0, 1) := by decide +kernel
theorem dX4_passedPlain_30 : decode cX4_passedPlain 30 = .ok (.iload_n 1, 1) := by decide +kernel
theorem dX4_passedPlain_31 : decode cX4_passedPlain 31 = .ok (.iconst 2, 1) := by decide +kernel
theorem dX4_passedPlain_32 : decode cX4_passedPlain 32 = .ok (.iadd, 1) := by decide +kernel
theorem dX4_passedPlain_33 : decode cX4_passedPlain 33 = .ok (.invokevirtual 60, 3) := by decide +kernel
theorem dX4_passedPlain_36 : decode cX4_passedPlain 36 = .ok (.bipush 48, 2) := by decide +kernel
theorem dX4_passedPlain_38 : decode cX4_passedPlain 38 = .ok (.isub, 1) := by decide +kernel
theorem dX4_passedPlain_39 : decode cX4_passedPlain 39 = .ok (.istore_n 3, 1) := by decide +kernel
theorem dX4_passedPlain_40 : decode cX4_passedPlain 40 = .ok (.iload_n 3, 1) := by decide +kernel
theorem dX4_passedPlain_41 : decode cX4_passedPlain 41 = .ok (.iconst 0, 1) := by decide +kernel
theorem dX4_passedPlain_42 : decode cX4_passedPlain 42 = .ok (.bipush 9, 2) := by decide +kernel
theorem dX4_passedPlain_44 : decode cX4_passedPlain 44 = .ok (.invokestatic 83, 3) := by decide +kernel
theorem dX4_passedPlain_47 : decode cX4_passedPlain 47 = .ok (.ifCond .eq 23, 3) := by decide +kernel
theorem dX4_passedPlain_50 : decode cX4_passedPlain 50 = .ok (.iload_n 2, 1) := by decide +kernel
theorem dX4_passedPlain_51 : decode cX4_passedPlain 51 = .ok (.iload_n 3, 1) := by decide +kernel
theorem dX4_passedPlain_52 : decode cX4_passedPlain 52 = .ok (.iadd, 1) := by decide +kernel
theorem dX4_passedPlain_53 : decode cX4_passedPlain 53 = .ok (.ifCond .eq 17, 3) := by decide +kernel
theorem dX4_passedPlain_56 : decode cX4_passedPlain 56 = .ok (.aload_n 0, 1) := by decide +kernel
theorem dX4_passedPlain_57 : decode cX4_passedPlain 57 = .ok (.bipush 10, 2) := by decide +kernel
theorem dX4_passedPlain_59 : decode cX4_passedPlain 59 = .ok (.iload_n 2, 1) := by decide +kernel
theorem dX4_passedPlain_60 : decode cX4_passedPlain 60 = .ok (.imul, 1) := by decide +kernel
theorem dX4_passedPlain_61 : decode cX4_passedPlain 61 = .ok (.iload_n 3, 1) := by decide +kernel
theorem dX4_passedPlain_62 : decode cX4_passedPlain 62 = .ok (.iadd, 1) := by decide +kernel
theorem dX4_passedPlain_63 : decode cX4_passedPlain 63 = .ok (.iconst 3, 1) := by decide +kernel
theorem dX4_passedPlain_64 : decode cX4_passedPlain 64 = .ok (.invokevirtual 76, 3) := by decide +kernel
theorem dX4_passedPlain_67 : decode cX4_passedPlain 67 = .ok (.ifCond .ne 11, 3) := by decide +kernel
theorem dX4_passedPlain_70 : decode cX4_passedPlain 70 = .ok (.aload_n 0, 1) := by decide +kernel
theorem dX4_passedPlain_71 : decode cX4_passedPlain 71 = .ok (.iload_n 1, 1) := by decide +kernel
theorem dX4_passedPlain_72 : decode cX4_passedPlain 72 = .ok (.iconst 2, 1) := by decide +kernel
theorem dX4_passedPlain_73 : decode cX4_passedPlain 73 = .ok (.iadd, 1) := by decide +kernel
theorem dX4_passedPlain_74 : decode cX4_passedPlain 74 = .ok (.invokevirtual 80, 3) := by decide +kernel
theorem dX4_passedPlain_77 : decode cX4_passedPlain 77 = .ok (.ireturn, 1) := by decide +kernel
theorem dX4_passedPlain_78 : decode cX4_passedPlain 78 = .ok (.iload_n 1, 1) := by decide +kernel
theorem dX4_passedPlain_79 : decode cX4_passedPlain 79 = .ok (.iconst 3, 1) := by decide +kernel
theorem dX4_passedPlain_80 : decode cX4_passedPlain 80 = .ok (.iadd, 1) := by decide +kernel
theorem dX4_passedPlain_81 : decode cX4_passedPlain 81 = .ok (.ireturn, 1) := by decide +kernel
theorem dX4_passedLoose_0 : decode cX4_passedLoose 0 = .ok (.aload_n 0, 1) := by decide +kernel
theorem dX4_passedLoose_1 : decode cX4_passedLoose 1 = .ok (.getfield 34, 3) := by decide +kernel
theorem dX4_passedLoose_4 : decode cX4_passedLoose 4 = .ok (.bipush 10, 2) := by decide +kernel
theorem dX4_passedLoose_6 : decode cX4_passedLoose 6 = .ok (.if_icmp .ge 12, 3) := by decide +kernel
theorem dX4_passedLoose_9 : decode cX4_passedLoose 9 = .ok (.aload_n 0, 1) := by decide +kernel
theorem dX4_passedLoose_10 : decode cX4_passedLoose 10 = .ok (.iconst 1, 1) := by decide +kernel
theorem dX4_passedLoose_11 : decode cX4_passedLoose 11 = .ok (.iload_n 2, 1) := by decide +kernel
theorem dX4_passedLoose_12 : decode cX4_passedLoose 12 = .ok (.invokevirtual 76, 3) := by decide +kernel
theorem dX4_passedLoose_15 : decode cX4_passedLoose 15 = .ok (.ifCond .ne 9, 3) := by decide +kernel
theorem dX4_passedLoose_18 : decode cX4_passedLoose 18 = .ok (.aload_n 0, 1) := by decide +kernel
theorem dX4_passedLoose_19 : decode cX4_passedLoose 19 = .ok (.iload_n 1, 1) := by decide +kernel
theorem dX4_passedLoose_20 : decode cX4_passedLoose 20 = .ok (.invokevirtual 80, 3) := by decide +kernel
theorem dX4_passedLoose_23 : decode cX4_passedLoose 23 = .ok (.ireturn, 1) := by decide +kernel
theorem dX4_passedLoose_24 : decode cX4_passedLoose 24 = .ok (.aload_n 0, 1) := by decide +kernel
theorem dX4_passedLoose_25 : decode cX4_passedLoose 25 = .ok (.dup, 1) := by decide +kernel
theorem dX4_passedLoose_26 : decode cX4_passedLoose 26 = .ok (.getfield 34, 3) := by decide +kernel
theorem dX4_passedLoose_29 : decode cX4_passedLoose 29 = .ok (.iconst 1, 1) := by decide +kernel
theorem dX4_passedLoose_30 : decode cX4_passedLoose 30 = .ok (.iadd, 1) := by decide +kernel
theorem dX4_passedLoose_31 : decode cX4_passedLoose 31 = .ok (.putfield 34, 3) := by decide +kernel
theorem dX4_passedLoose_34 : decode cX4_passedLoose 34 = .ok (.iload_n 1, 1) := by decide +kernel
theorem dX4_passedLoose_35 : decode cX4_passedLoose 35 = .ok (.iconst 1, 1) := by decide +kernel
theorem dX4_passedLoose_36 : decode cX4_passedLoose 36 = .ok (.iadd, 1) := by decide +kernel
theorem dX4_passedLoose_37 : decode cX4_passedLoose 37 = .ok (.ireturn, 1) := by decide +kernel
theorem dX4_passedCue_0 : decode cX4_passedCue 0 = .ok (.aload_n 0, 1) := by decide +kernel
theorem dX4_passedCue_1 : decode cX4_passedCue 1 = .ok (.getfield 31, 3) := by decide +kernel
theorem dX4_passedCue_4 : decode cX4_passedCue 4 = .ok (.istore_n 2, 1) := by decide +kernel
theorem dX4_passedCue_5 : decode cX4_passedCue 5 = .ok (.aload_n 0, 1) := by decide +kernel
theorem dX4_passedCue_6 : decode cX4_passedCue 6 = .ok (.getfield 37, 3) := by decide +kernel
theorem dX4_passedCue_9 : decode cX4_passedCue 9 = .ok (.ifCond .lt 21, 3) := by decide +kernel
theorem dX4_passedCue_12 : decode cX4_passedCue 12 = .ok (.aload_n 0, 1) := by decide +kernel
theorem dX4_passedCue_13 : decode cX4_passedCue 13 = .ok (.getfield 37, 3) := by decide +kernel
theorem dX4_passedCue_16 : decode cX4_passedCue 16 = .ok (.bipush 6, 2) := by decide +kernel
theorem dX4_passedCue_18 : decode cX4_passedCue 18 = .ok (.if_icmp .ge 12, 3) := by decide +kernel
theorem dX4_passedCue_21 : decode cX4_passedCue 21 = .ok (.aload_n 0, 1) := by decide +kernel
theorem dX4_passedCue_22 : decode cX4_passedCue 22 = .ok (.iconst 1, 1) := by decide +kernel
theorem dX4_passedCue_23 : decode cX4_passedCue 23 = .ok (.iconst 4, 1) := by decide +kernel
theorem dX4_passedCue_24 : decode cX4_passedCue 24 = .ok (.invokevirtual 76, 3) := by decide +kernel
theorem dX4_passedCue_27 : decode cX4_passedCue 27 = .ok (.ifCond .ne 9, 3) := by decide +kernel
theorem dX4_passedCue_30 : decode cX4_passedCue 30 = .ok (.aload_n 0, 1) := by decide +kernel
theorem dX4_passedCue_31 : decode cX4_passedCue 31 = .ok (.iload_n 1, 1) := by decide +kernel
theorem dX4_passedCue_32 : decode cX4_passedCue 32 = .ok (.invokevirtual 80, 3) := by decide +kernel
theorem dX4_passedCue_35 : decode cX4_passedCue 35 = .ok (.ireturn, 1) := by decide +kernel
theorem dX4_passedCue_36 : decode cX4_passedCue 36 = .ok (.aload_n 0, 1) := by decide +kernel
theorem dX4_passedCue_37 : decode cX4_passedCue 37 = .ok (.iload_n 1, 1) := by decide +kernel
theorem dX4_passedCue_38 : decode cX4_passedCue 38 = .ok (.iconst 1, 1) := by decide +kernel
theorem dX4_passedCue_39 : decode cX4_passedCue 39 = .ok (.iadd, 1) := by decide +kernel
theorem dX4_passedCue_40 : decode cX4_passedCue 40 = .ok (.invokevirtual 60, 3) := by decide +kernel
theorem dX4_passedCue_43 : decode cX4_passedCue 43 = .ok (.bipush 97, 2) := by decide +kernel
theorem dX4_passedCue_45 : decode cX4_passedCue 45 = .ok (.isub, 1) := by decide +kernel
theorem dX4_passedCue_46 : decode cX4_passedCue 46 = .ok (.istore_n 3, 1) := by decide +kernel
theorem dX4_passedCue_47 : decode cX4_passedCue 47 = .ok (.iload_n 3, 1) := by decide +kernel
theorem dX4_passedCue_48 : decode cX4_passedCue 48 = .ok (.iconst 0, 1) := by decide +kernel
theorem dX4_passedCue_49 : decode cX4_passedCue 49 = .ok (.iconst 3, 1) := by decide +kernel
theorem dX4_passedCue_50 : decode cX4_passedCue 50 = .ok (.invokestatic 83, 3) := by decide +kernel
theorem dX4_passedCue_53 : decode cX4_passedCue 53 = .ok (.ifCond .eq 13, 3) := by decide +kernel
theorem dX4_passedCue_56 : decode cX4_passedCue 56 = .ok (.iload_n 2, 1) := by decide +kernel
theorem dX4_passedCue_57 : decode cX4_passedCue 57 = .ok (.iconst 0, 1) := by decide +kernel
theorem dX4_passedCue_58 : decode cX4_passedCue 58 = .ok (.bipush 98, 2) := by decide +kernel
theorem dX4_passedCue_60 : decode cX4_passedCue 60 = .ok (.invokestatic 83, 3) := by decide +kernel
theorem dX4_passedCue_63 : decode cX4_passedCue 63 = .ok (.ifCond .ne 11, 3) := by decide +kernel
theorem dX4_passedCue_66 : decode cX4_passedCue 66 = .ok (.aload_n 0, 1) := by decide +kernel
theorem dX4_passedCue_67 : decode cX4_passedCue 67 = .ok (.iload_n 1, 1) := by decide +kernel
theorem dX4_passedCue_68 : decode cX4_passedCue 68 = .ok (.iconst 1, 1) := by decide +kernel
theorem dX4_passedCue_69 : decode cX4_passedCue 69 = .ok (.iadd, 1) := by decide +kernel
theorem dX4_passedCue_70 : decode cX4_passedCue 70 = .ok (.invokevirtual 80, 3) := by decide +kernel
theorem dX4_passedCue_73 : decode cX4_passedCue 73 = .ok (.ireturn, 1) := by decide +kernel
theorem dX4_passedCue_74 : decode cX4_passedCue 74 = .ok (.aload_n 0, 1) := by decide +kernel
theorem dX4_passedCue_75 : decode cX4_passedCue 75 = .ok (.getfield 18, 3) := by decide +kernel
theorem dX4_passedCue_78 : decode cX4_passedCue 78 = .ok (.iload_n 2, 1) := by decide +kernel
theorem dX4_passedCue_79 : decode cX4_passedCue 79 = .ok (.aload_n 0, 1) := by decide +kernel
theorem dX4_passedCue_80 : decode cX4_passedCue 80 = .ok (.getfield 37, 3) := by decide +kernel
theorem dX4_passedCue_83 : decode cX4_passedCue 83 = .ok (.iastore, 1) := by decide +kernel
theorem dX4_passedCue_84 : decode cX4_passedCue 84 = .ok (.aload_n 0, 1) := by decide +kernel
theorem dX4_passedCue_85 : decode cX4_passedCue 85 = .ok (.getfield 21, 3) := by decide +kernel
theorem dX4_passedCue_88 : decode cX4_passedCue 88 = .ok (.iload_n 2, 1) := by decide +kernel
theorem dX4_passedCue_89 : decode cX4_passedCue 89 = .ok (.iload_n 3, 1) := by decide +kernel
theorem dX4_passedCue_90 : decode cX4_passedCue 90 = .ok (.iastore, 1) := by decide +kernel
theorem dX4_passedCue_91 : decode cX4_passedCue 91 = .ok (.aload_n 0, 1) := by decide +kernel
theorem dX4_passedCue_92 : decode cX4_passedCue 92 = .ok (.getfield 24, 3) := by decide +kernel
theorem dX4_passedCue_95 : decode cX4_passedCue 95 = .ok (.aload_n 0, 1) := by decide +kernel
theorem dX4_passedCue_96 : decode cX4_passedCue 96 = .ok (.getfield 37, 3) := by decide +kernel
theorem dX4_passedCue_99 : decode cX4_passedCue 99 = .ok (.iload_n 2, 1) := by decide +kernel
theorem dX4_passedCue_100 : decode cX4_passedCue 100 = .ok (.iastore, 1) := by decide +kernel
theorem dX4_passedCue_101 : decode cX4_passedCue 101 = .ok (.aload_n 0, 1) := by decide +kernel
theorem dX4_passedCue_102 : decode cX4_passedCue 102 = .ok (.dup, 1) := by decide +kernel
theorem dX4_passedCue_103 : decode cX4_passedCue 103 = .ok (.getfield 37, 3) := by decide +kernel
theorem dX4_passedCue_106 : decode cX4_passedCue 106 = .ok (.iconst 1, 1) := by decide +kernel
theorem dX4_passedCue_107 : decode cX4_passedCue 107 = .ok (.iadd, 1) := by decide +kernel
theorem dX4_passedCue_108 : decode cX4_passedCue 108 = .ok (.putfield 37, 3) := by decide +kernel
theorem dX4_passedCue_111 : decode cX4_passedCue 111 = .ok (.iload_n 1, 1) := by decide +kernel
theorem dX4_passedCue_112 : decode cX4_passedCue 112 = .ok (.iconst 2, 1) := by decide +kernel
theorem dX4_passedCue_113 : decode cX4_passedCue 113 = .ok (.iadd, 1) := by decide +kernel
theorem dX4_passedCue_114 : decode cX4_passedCue 114 = .ok (.ireturn, 1) := by decide +kernel
theorem dX4_addBars_0 : decode cX4_addBars 0 = .ok (.aload_n 0, 1) := by decide +kernel
theorem dX4_addBars_1 : decode cX4_addBars 1 = .ok (.getfield 31, 3) := by decide +kernel
theorem dX4_addBars_4 : decode cX4_addBars 4 = .ok (.iload_n 1, 1) := by decide +kernel
theorem dX4_addBars_5 : decode cX4_addBars 5 = .ok (.iadd, 1) := by decide +kernel
theorem dX4_addBars_6 : decode cX4_addBars 6 = .ok (.bipush 99, 2) := by decide +kernel
theorem dX4_addBars_8 : decode cX4_addBars 8 = .ok (.if_icmp .le 5, 3) := by decide +kernel
theorem dX4_addBars_11 : decode cX4_addBars 11 = .ok (.iconst 0, 1) := by decide +kernel
theorem dX4_addBars_12 : decode cX4_addBars 12 = .ok (.ireturn, 1) := by decide +kernel
theorem dX4_addBars_13 : decode cX4_addBars 13 = .ok (.iconst 0, 1) := by decide +kernel
theorem dX4_addBars_14 : decode cX4_addBars 14 = .ok (.aload_n 0, 1) := by decide +kernel
theorem dX4_addBars_15 : decode cX4_addBars 15 = .ok (.getfield 31, 3) := by decide +kernel
theorem dX4_addBars_18 : decode cX4_addBars 18 = .ok (.invokestatic 46, 3) := by decide +kernel
theorem dX4_addBars_21 : decode cX4_addBars 21 = .ok (.istore_n 3, 1) := by decide +kernel
theorem dX4_addBars_22 : decode cX4_addBars 22 = .ok (.iload_n 3, 1) := by decide +kernel
theorem dX4_addBars_23 : decode cX4_addBars 23 = .ok (.aload_n 0, 1) := by decide +kernel
theorem dX4_addBars_24 : decode cX4_addBars 24 = .ok (.getfield 31, 3) := by decide +kernel
theorem dX4_addBars_27 : decode cX4_addBars 27 = .ok (.iload_n 1, 1) := by decide +kernel
theorem dX4_addBars_28 : decode cX4_addBars 28 = .ok (.iadd, 1) := by decide +kernel
theorem dX4_addBars_29 : decode cX4_addBars 29 = .ok (.if_icmp .ge 36, 3) := by decide +kernel
theorem dX4_addBars_32 : decode cX4_addBars 32 = .ok (.iload_n 3, 1) := by decide +kernel
theorem dX4_addBars_33 : decode cX4_addBars 33 = .ok (.bipush 99, 2) := by decide +kernel
theorem dX4_addBars_35 : decode cX4_addBars 35 = .ok (.if_icmp .ge 30, 3) := by decide +kernel
theorem dX4_addBars_38 : decode cX4_addBars 38 = .ok (.aload_n 0, 1) := by decide +kernel
theorem dX4_addBars_39 : decode cX4_addBars 39 = .ok (.getfield 15, 3) := by decide +kernel
theorem dX4_addBars_42 : decode cX4_addBars 42 = .ok (.iload_n 3, 1) := by decide +kernel
theorem dX4_addBars_43 : decode cX4_addBars 43 = .ok (.iload_n 2, 1) := by decide +kernel
theorem dX4_addBars_44 : decode cX4_addBars 44 = .ok (.iastore, 1) := by decide +kernel
theorem dX4_addBars_45 : decode cX4_addBars 45 = .ok (.aload_n 0, 1) := by decide +kernel
theorem dX4_addBars_46 : decode cX4_addBars 46 = .ok (.getfield 18, 3) := by decide +kernel
theorem dX4_addBars_49 : decode cX4_addBars 49 = .ok (.iload_n 3, 1) := by decide +kernel
theorem dX4_addBars_50 : decode cX4_addBars 50 = .ok (.iconst (-1), 1) := by decide +kernel
theorem dX4_addBars_51 : decode cX4_addBars 51 = .ok (.iastore, 1) := by decide +kernel
theorem dX4_addBars_52 : decode cX4_addBars 52 = .ok (.aload_n 0, 1) := by decide +kernel
theorem dX4_addBars_53 : decode cX4_addBars 53 = .ok (.getfield 21, 3) := by decide +kernel
theorem dX4_addBars_56 : decode cX4_addBars 56 = .ok (.iload_n 3, 1) := by decide +kernel
theorem dX4_addBars_57 : decode cX4_addBars 57 = .ok (.iconst (-1), 1) := by decide +kernel
theorem dX4_addBars_58 : decode cX4_addBars 58 = .ok (.iastore, 1) := by decide +kernel
theorem dX4_addBars_59 : decode cX4_addBars 59 = .ok (.iinc 3 1, 3) := by decide +kernel
theorem dX4_addBars_62 : decode cX4_addBars 62 = .ok (.goto (-40), 3) := by decide +kernel
theorem dX4_addBars_65 : decode cX4_addBars 65 = .ok (.aload_n 0, 1) := by decide +kernel
theorem dX4_addBars_66 : decode cX4_addBars 66 = .ok (.dup, 1) := by decide +kernel
theorem dX4_addBars_67 : decode cX4_addBars 67 = .ok (.getfield 31, 3) := by decide +kernel
theorem dX4_addBars_70 : decode cX4_addBars 70 = .ok (.iload_n 1, 1) := by decide +kernel
theorem dX4_addBars_71 : decode cX4_addBars 71 = .ok (.iadd, 1) := by decide +kernel
theorem dX4_addBars_72 : decode cX4_addBars 72 = .ok (.putfield 31, 3) := by decide +kernel
theorem dX4_addBars_75 : decode cX4_addBars 75 = .ok (.iconst 1, 1) := by decide +kernel
theorem dX4_addBars_76 : decode cX4_addBars 76 = .ok (.ireturn, 1) := by decide +kernel
theorem dX4_faultAt_0 : decode cX4_faultAt 0 = .ok (.aload_n 0, 1) := by decide +kernel
theorem dX4_faultAt_1 : decode cX4_faultAt 1 = .ok (.iload_n 1, 1) := by decide +kernel
theorem dX4_faultAt_2 : decode cX4_faultAt 2 = .ok (.putfield 40, 3) := by decide +kernel
theorem dX4_faultAt_5 : decode cX4_faultAt 5 = .ok (.iload_n 1, 1) := by decide +kernel
theorem dX4_faultAt_6 : decode cX4_faultAt 6 = .ok (.ireturn, 1) := by decide +kernel
theorem dX5_init_0 : decode cX5_init 0 = .ok (.aload_n 0, 1) := by decide +kernel
theorem dX5_init_1 : decode cX5_init 1 = .ok (.invokespecial 3, 3) := by decide +kernel
theorem dX5_init_4 : decode cX5_init 4 = .ok (.aload_n 0, 1) := by decide +kernel
theorem dX5_init_5 : decode cX5_init 5 = .ok (.bipush 8, 2) := by decide +kernel
theorem dX5_init_7 : decode cX5_init 7 = .ok (.newarray .int, 2) := by decide +kernel
theorem dX5_init_9 : decode cX5_init 9 = .ok (.putfield 11, 3) := by decide +kernel
theorem dX5_init_12 : decode cX5_init 12 = .ok (.aload_n 0, 1) := by decide +kernel
theorem dX5_init_13 : decode cX5_init 13 = .ok (.bipush 8, 2) := by decide +kernel
theorem dX5_init_15 : decode cX5_init 15 = .ok (.newarray .int, 2) := by decide +kernel
theorem dX5_init_17 : decode cX5_init 17 = .ok (.putfield 15, 3) := by decide +kernel
theorem dX5_init_20 : decode cX5_init 20 = .ok (.aload_n 0, 1) := by decide +kernel
theorem dX5_init_21 : decode cX5_init 21 = .ok (.bipush 8, 2) := by decide +kernel
theorem dX5_init_23 : decode cX5_init 23 = .ok (.newarray .int, 2) := by decide +kernel
theorem dX5_init_25 : decode cX5_init 25 = .ok (.putfield 18, 3) := by decide +kernel
theorem dX5_init_28 : decode cX5_init 28 = .ok (.aload_n 0, 1) := by decide +kernel
theorem dX5_init_29 : decode cX5_init 29 = .ok (.bipush 8, 2) := by decide +kernel
theorem dX5_init_31 : decode cX5_init 31 = .ok (.newarray .int, 2) := by decide +kernel
theorem dX5_init_33 : decode cX5_init 33 = .ok (.putfield 21, 3) := by decide +kernel
theorem dX5_init_36 : decode cX5_init 36 = .ok (.aload_n 0, 1) := by decide +kernel
theorem dX5_init_37 : decode cX5_init 37 = .ok (.iconst 0, 1) := by decide +kernel
theorem dX5_init_38 : decode cX5_init 38 = .ok (.putfield 24, 3) := by decide +kernel
theorem dX5_init_41 : decode cX5_init 41 = .ok (.return_, 1) := by decide +kernel
theorem dX5_append_0 : decode cX5_append 0 = .ok (.aload_n 0, 1) := by decide +kernel
theorem dX5_append_1 : decode cX5_append 1 = .ok (.getfield 24, 3) := by decide +kernel
theorem dX5_append_4 : decode cX5_append 4 = .ok (.ifCond .lt 12, 3) := by decide +kernel
theorem dX5_append_7 : decode cX5_append 7 = .ok (.aload_n 0, 1) := by decide +kernel
theorem dX5_append_8 : decode cX5_append 8 = .ok (.getfield 24, 3) := by decide +kernel
theorem dX5_append_11 : decode cX5_append 11 = .ok (.bipush 8, 2) := by decide +kernel
theorem dX5_append_13 : decode cX5_append 13 = .ok (.if_icmp .lt 5, 3) := by decide +kernel
theorem dX5_append_16 : decode cX5_append 16 = .ok (.iconst 0, 1) := by decide +kernel
theorem dX5_append_17 : decode cX5_append 17 = .ok (.ireturn, 1) := by decide +kernel
theorem dX5_append_18 : decode cX5_append 18 = .ok (.aload_n 0, 1) := by decide +kernel
theorem dX5_append_19 : decode cX5_append 19 = .ok (.getfield 11, 3) := by decide +kernel
theorem dX5_append_22 : decode cX5_append 22 = .ok (.aload_n 0, 1) := by decide +kernel
theorem dX5_append_23 : decode cX5_append 23 = .ok (.getfield 24, 3) := by decide +kernel
theorem dX5_append_26 : decode cX5_append 26 = .ok (.iload_n 1, 1) := by decide +kernel
theorem dX5_append_27 : decode cX5_append 27 = .ok (.iastore, 1) := by decide +kernel
theorem dX5_append_28 : decode cX5_append 28 = .ok (.aload_n 0, 1) := by decide +kernel
theorem dX5_append_29 : decode cX5_append 29 = .ok (.getfield 15, 3) := by decide +kernel
theorem dX5_append_32 : decode cX5_append 32 = .ok (.aload_n 0, 1) := by decide +kernel
theorem dX5_append_33 : decode cX5_append 33 = .ok (.getfield 24, 3) := by decide +kernel
theorem dX5_append_36 : decode cX5_append 36 = .ok (.iload_n 2, 1) := by decide +kernel
theorem dX5_append_37 : decode cX5_append 37 = .ok (.iastore, 1) := by decide +kernel
theorem dX5_append_38 : decode cX5_append 38 = .ok (.aload_n 0, 1) := by decide +kernel
theorem dX5_append_39 : decode cX5_append 39 = .ok (.getfield 24, 3) := by decide +kernel
theorem dX5_append_42 : decode cX5_append 42 = .ok (.istore_n 3, 1) := by decide +kernel
theorem dX5_append_43 : decode cX5_append 43 = .ok (.aload_n 0, 1) := by decide +kernel
theorem dX5_append_44 : decode cX5_append 44 = .ok (.getfield 24, 3) := by decide +kernel
theorem dX5_append_47 : decode cX5_append 47 = .ok (.istore 4, 2) := by decide +kernel
theorem dX5_append_49 : decode cX5_append 49 = .ok (.iload 4, 2) := by decide +kernel
theorem dX5_append_51 : decode cX5_append 51 = .ok (.ifCond .le 50, 3) := by decide +kernel
theorem dX5_append_54 : decode cX5_append 54 = .ok (.aload_n 0, 1) := by decide +kernel
theorem dX5_append_55 : decode cX5_append 55 = .ok (.getfield 11, 3) := by decide +kernel
theorem dX5_append_58 : decode cX5_append 58 = .ok (.aload_n 0, 1) := by decide +kernel
theorem dX5_append_59 : decode cX5_append 59 = .ok (.getfield 18, 3) := by decide +kernel
theorem dX5_append_62 : decode cX5_append 62 = .ok (.iload 4, 2) := by decide +kernel
theorem dX5_append_64 : decode cX5_append 64 = .ok (.iconst 1, 1) := by decide +kernel
theorem dX5_append_65 : decode cX5_append 65 = .ok (.isub, 1) := by decide +kernel
theorem dX5_append_66 : decode cX5_append 66 = .ok (.iaload, 1) := by decide +kernel
theorem dX5_append_67 : decode cX5_append 67 = .ok (.invokestatic 28, 3) := by decide +kernel
theorem dX5_append_70 : decode cX5_append 70 = .ok (.iload_n 1, 1) := by decide +kernel
theorem dX5_append_71 : decode cX5_append 71 = .ok (.if_icmp .le 30, 3) := by decide +kernel
theorem dX5_append_74 : decode cX5_append 74 = .ok (.aload_n 0, 1) := by decide +kernel
theorem dX5_append_75 : decode cX5_append 75 = .ok (.getfield 18, 3) := by decide +kernel
theorem dX5_append_78 : decode cX5_append 78 = .ok (.iload 4, 2) := by decide +kernel
theorem dX5_append_80 : decode cX5_append 80 = .ok (.aload_n 0, 1) := by decide +kernel
theorem dX5_append_81 : decode cX5_append 81 = .ok (.getfield 18, 3) := by decide +kernel
theorem dX5_append_84 : decode cX5_append 84 = .ok (.iload 4, 2) := by decide +kernel
theorem dX5_append_86 : decode cX5_append 86 = .ok (.iconst 1, 1) := by decide +kernel
theorem dX5_append_87 : decode cX5_append 87 = .ok (.isub, 1) := by decide +kernel
theorem dX5_append_88 : decode cX5_append 88 = .ok (.iaload, 1) := by decide +kernel
theorem dX5_append_89 : decode cX5_append 89 = .ok (.iastore, 1) := by decide +kernel
theorem dX5_append_90 : decode cX5_append 90 = .ok (.iload 4, 2) := by decide +kernel
theorem dX5_append_92 : decode cX5_append 92 = .ok (.iconst 1, 1) := by decide +kernel
theorem dX5_append_93 : decode cX5_append 93 = .ok (.isub, 1) := by decide +kernel
theorem dX5_append_94 : decode cX5_append 94 = .ok (.istore_n 3, 1) := by decide +kernel
theorem dX5_append_95 : decode cX5_append 95 = .ok (.iinc 4 (-1), 3) := by decide +kernel
theorem dX5_append_98 : decode cX5_append 98 = .ok (.goto (-49), 3) := by decide +kernel
theorem dX5_append_101 : decode cX5_append 101 = .ok (.aload_n 0, 1) := by decide +kernel
theorem dX5_append_102 : decode cX5_append 102 = .ok (.getfield 18, 3) := by decide +kernel
theorem dX5_append_105 : decode cX5_append 105 = .ok (.iload_n 3, 1) := by decide +kernel
theorem dX5_append_106 : decode cX5_append 106 = .ok (.aload_n 0, 1) := by decide +kernel
theorem dX5_append_107 : decode cX5_append 107 = .ok (.getfield 24, 3) := by decide +kernel
theorem dX5_append_110 : decode cX5_append 110 = .ok (.iastore, 1) := by decide +kernel
theorem dX5_append_111 : decode cX5_append 111 = .ok (.aload_n 0, 1) := by decide +kernel
theorem dX5_append_112 : decode cX5_append 112 = .ok (.dup, 1) := by decide +kernel
theorem dX5_append_113 : decode cX5_append 113 = .ok (.getfield 24, 3) := by decide +kernel
theorem dX5_append_116 : decode cX5_append 116 = .ok (.iconst 1, 1) := by decide +kernel
theorem dX5_append_117 : decode cX5_append 117 = .ok (.iadd, 1) := by decide +kernel
theorem dX5_append_118 : decode cX5_append 118 = .ok (.putfield 24, 3) := by decide +kernel
theorem dX5_append_121 : decode cX5_append 121 = .ok (.iconst 1, 1) := by decide +kernel
theorem dX5_append_122 : decode cX5_append 122 = .ok (.ireturn, 1) := by decide +kernel
theorem dX5_bestBits_0 : decode cX5_bestBits 0 = .ok (.iconst 0, 1) := by decide +kernel
theorem dX5_bestBits_1 : decode cX5_bestBits 1 = .ok (.istore_n 1, 1) := by decide +kernel
theorem dX5_bestBits_2 : decode cX5_bestBits 2 = .ok (.iconst 0, 1) := by decide +kernel
theorem dX5_bestBits_3 : decode cX5_bestBits 3 = .ok (.istore_n 2, 1) := by decide +kernel
theorem dX5_bestBits_4 : decode cX5_bestBits 4 = .ok (.iconst 1, 1) := by decide +kernel
theorem dX5_bestBits_5 : decode cX5_bestBits 5 = .ok (.istore_n 3, 1) := by decide +kernel
theorem dX5_bestBits_6 : decode cX5_bestBits 6 = .ok (.iload_n 3, 1) := by decide +kernel
theorem dX5_bestBits_7 : decode cX5_bestBits 7 = .ok (.iconst 1, 1) := by decide +kernel
theorem dX5_bestBits_8 : decode cX5_bestBits 8 = .ok (.aload_n 0, 1) := by decide +kernel
theorem dX5_bestBits_9 : decode cX5_bestBits 9 = .ok (.getfield 24, 3) := by decide +kernel
theorem dX5_bestBits_12 : decode cX5_bestBits 12 = .ok (.ishl, 1) := by decide +kernel
theorem dX5_bestBits_13 : decode cX5_bestBits 13 = .ok (.if_icmp .ge 27, 3) := by decide +kernel
theorem dX5_bestBits_16 : decode cX5_bestBits 16 = .ok (.aload_n 0, 1) := by decide +kernel
theorem dX5_bestBits_17 : decode cX5_bestBits 17 = .ok (.iload_n 3, 1) := by decide +kernel
theorem dX5_bestBits_18 : decode cX5_bestBits 18 = .ok (.invokevirtual 32, 3) := by decide +kernel
theorem dX5_bestBits_21 : decode cX5_bestBits 21 = .ok (.istore 4, 2) := by decide +kernel
theorem dX5_bestBits_23 : decode cX5_bestBits 23 = .ok (.iload 4, 2) := by decide +kernel
theorem dX5_bestBits_25 : decode cX5_bestBits 25 = .ok (.iload_n 2, 1) := by decide +kernel
theorem dX5_bestBits_26 : decode cX5_bestBits 26 = .ok (.if_icmp .le 8, 3) := by decide +kernel
theorem dX5_bestBits_29 : decode cX5_bestBits 29 = .ok (.iload 4, 2) := by decide +kernel
theorem dX5_bestBits_31 : decode cX5_bestBits 31 = .ok (.istore_n 2, 1) := by decide +kernel
theorem dX5_bestBits_32 : decode cX5_bestBits 32 = .ok (.iload_n 3, 1) := by decide +kernel
theorem dX5_bestBits_33 : decode cX5_bestBits 33 = .ok (.istore_n 1, 1) := by decide +kernel
theorem dX5_bestBits_34 : decode cX5_bestBits 34 = .ok (.iinc 3 1, 3) := by decide +kernel
theorem dX5_bestBits_37 : decode cX5_bestBits 37 = .ok (.goto (-31), 3) := by decide +kernel
theorem dX5_bestBits_40 : decode cX5_bestBits 40 = .ok (.iload_n 1, 1) := by decide +kernel
theorem dX5_bestBits_41 : decode cX5_bestBits 41 = .ok (.ireturn, 1) := by decide +kernel
theorem dX5_plan_0 : decode cX5_plan 0 = .ok (.aload_n 0, 1) := by decide +kernel
theorem dX5_plan_1 : decode cX5_plan 1 = .ok (.getfield 21, 3) := by decide +kernel
theorem dX5_plan_4 : decode cX5_plan 4 = .ok (.iconst (-1), 1) := by decide +kernel
theorem dX5_plan_5 : decode cX5_plan 5 = .ok (.invokestatic 36, 3) := by decide +kernel
theorem dX5_plan_8 : decode cX5_plan 8 = .ok (.iconst 0, 1) := by decide +kernel
theorem dX5_plan_9 : decode cX5_plan 9 = .ok (.istore_n 2, 1) := by decide +kernel
theorem dX5_plan_10 : decode cX5_plan 10 = .ok (.iconst 0, 1) := by decide +kernel
theorem dX5_plan_11 : decode cX5_plan 11 = .ok (.istore_n 3, 1) := by decide +kernel
theorem dX5_plan_12 : decode cX5_plan 12 = .ok (.iconst 0, 1) := by decide +kernel
theorem dX5_plan_13 : decode cX5_plan 13 = .ok (.istore 4, 2) := by decide +kernel
theorem dX5_plan_15 : decode cX5_plan 15 = .ok (.iload 4, 2) := by decide +kernel
theorem dX5_plan_17 : decode cX5_plan 17 = .ok (.aload_n 0, 1) := by decide +kernel
theorem dX5_plan_18 : decode cX5_plan 18 = .ok (.getfield 24, 3) := by decide +kernel
theorem dX5_plan_21 : decode cX5_plan 21 = .ok (.if_icmp .ge 101, 3) := by decide +kernel
theorem dX5_plan_24 : decode cX5_plan 24 = .ok (.iload 4, 2) := by decide +kernel
theorem dX5_plan_26 : decode cX5_plan 26 = .ok (.bipush 8, 2) := by decide +kernel
theorem dX5_plan_28 : decode cX5_plan 28 = .ok (.if_icmp .ge 94, 3) := by decide +kernel
theorem dX5_plan_31 : decode cX5_plan 31 = .ok (.aload_n 0, 1) := by decide +kernel
theorem dX5_plan_32 : decode cX5_plan 32 = .ok (.getfield 18, 3) := by decide +kernel
theorem dX5_plan_35 : decode cX5_plan 35 = .ok (.iload 4, 2) := by decide +kernel
theorem dX5_plan_37 : decode cX5_plan 37 = .ok (.iaload, 1) := by decide +kernel
theorem dX5_plan_38 : decode cX5_plan 38 = .ok (.istore 5, 2) := by decide +kernel
theorem dX5_plan_40 : decode cX5_plan 40 = .ok (.iload 5, 2) := by decide +kernel
theorem dX5_plan_42 : decode cX5_plan 42 = .ok (.iconst 0, 1) := by decide +kernel
theorem dX5_plan_43 : decode cX5_plan 43 = .ok (.bipush 7, 2) := by decide +kernel
theorem dX5_plan_45 : decode cX5_plan 45 = .ok (.invokestatic 42, 3) := by decide +kernel
theorem dX5_plan_48 : decode cX5_plan 48 = .ok (.ifCond .eq 68, 3) := by decide +kernel
theorem dX5_plan_51 : decode cX5_plan 51 = .ok (.iload_n 1, 1) := by decide +kernel
theorem dX5_plan_52 : decode cX5_plan 52 = .ok (.iload 5, 2) := by decide +kernel
theorem dX5_plan_54 : decode cX5_plan 54 = .ok (.ishr, 1) := by decide +kernel
theorem dX5_plan_55 : decode cX5_plan 55 = .ok (.iconst 1, 1) := by decide +kernel
theorem dX5_plan_56 : decode cX5_plan 56 = .ok (.iand, 1) := by decide +kernel
theorem dX5_plan_57 : decode cX5_plan 57 = .ok (.ifCond .ne 6, 3) := by decide +kernel
theorem dX5_plan_60 : decode cX5_plan 60 = .ok (.goto 56, 3) := by decide +kernel
theorem dX5_plan_63 : decode cX5_plan 63 = .ok (.iload_n 2, 1) := by decide +kernel
theorem dX5_plan_64 : decode cX5_plan 64 = .ok (.aload_n 0, 1) := by decide +kernel
theorem dX5_plan_65 : decode cX5_plan 65 = .ok (.getfield 11, 3) := by decide +kernel
theorem dX5_plan_68 : decode cX5_plan 68 = .ok (.iload 5, 2) := by decide +kernel
theorem dX5_plan_70 : decode cX5_plan 70 = .ok (.iaload, 1) := by decide +kernel
theorem dX5_plan_71 : decode cX5_plan 71 = .ok (.iconst 3, 1) := by decide +kernel
theorem dX5_plan_72 : decode cX5_plan 72 = .ok (.isub, 1) := by decide +kernel
theorem dX5_plan_73 : decode cX5_plan 73 = .ok (.invokestatic 46, 3) := by decide +kernel
theorem dX5_plan_76 : decode cX5_plan 76 = .ok (.istore 6, 2) := by decide +kernel
theorem dX5_plan_78 : decode cX5_plan 78 = .ok (.iload 6, 2) := by decide +kernel
theorem dX5_plan_80 : decode cX5_plan 80 = .ok (.aload_n 0, 1) := by decide +kernel
theorem dX5_plan_81 : decode cX5_plan 81 = .ok (.getfield 11, 3) := by decide +kernel
theorem dX5_plan_84 : decode cX5_plan 84 = .ok (.iload 5, 2) := by decide +kernel
theorem dX5_plan_86 : decode cX5_plan 86 = .ok (.iaload, 1) := by decide +kernel
theorem dX5_plan_87 : decode cX5_plan 87 = .ok (.if_icmp .lt 5, 3) := by decide +kernel
theorem dX5_plan_90 : decode cX5_plan 90 = .ok (.iconst (-1), 1) := by decide +kernel
theorem dX5_plan_91 : decode cX5_plan 91 = .ok (.ireturn, 1) := by decide +kernel
theorem dX5_plan_92 : decode cX5_plan 92 = .ok (.aload_n 0, 1) := by decide +kernel
theorem dX5_plan_93 : decode cX5_plan 93 = .ok (.getfield 21, 3) := by decide +kernel
theorem dX5_plan_96 : decode cX5_plan 96 = .ok (.iload 5, 2) := by decide +kernel
theorem dX5_plan_98 : decode cX5_plan 98 = .ok (.iload 6, 2) := by decide +kernel
theorem dX5_plan_100 : decode cX5_plan 100 = .ok (.iastore, 1) := by decide +kernel
theorem dX5_plan_101 : decode cX5_plan 101 = .ok (.iload 6, 2) := by decide +kernel
theorem dX5_plan_103 : decode cX5_plan 103 = .ok (.iconst 1, 1) := by decide +kernel
theorem dX5_plan_104 : decode cX5_plan 104 = .ok (.iadd, 1) := by decide +kernel
theorem dX5_plan_105 : decode cX5_plan 105 = .ok (.istore_n 2, 1) := by decide +kernel
theorem dX5_plan_106 : decode cX5_plan 106 = .ok (.iload_n 3, 1) := by decide +kernel
theorem dX5_plan_107 : decode cX5_plan 107 = .ok (.aload_n 0, 1) := by decide +kernel
theorem dX5_plan_108 : decode cX5_plan 108 = .ok (.getfield 15, 3) := by decide +kernel
theorem dX5_plan_111 : decode cX5_plan 111 = .ok (.iload 5, 2) := by decide +kernel
theorem dX5_plan_113 : decode cX5_plan 113 = .ok (.iaload, 1) := by decide +kernel
theorem dX5_plan_114 : decode cX5_plan 114 = .ok (.iadd, 1) := by decide +kernel
theorem dX5_plan_115 : decode cX5_plan 115 = .ok (.istore_n 3, 1) := by decide +kernel
theorem dX5_plan_116 : decode cX5_plan 116 = .ok (.iinc 4 1, 3) := by decide +kernel
theorem dX5_plan_119 : decode cX5_plan 119 = .ok (.goto (-104), 3) := by decide +kernel
theorem dX5_plan_122 : decode cX5_plan 122 = .ok (.iload_n 3, 1) := by decide +kernel
theorem dX5_plan_123 : decode cX5_plan 123 = .ok (.ireturn, 1) := by decide +kernel
theorem dX5_lookedAtIn_0 : decode cX5_lookedAtIn 0 = .ok (.iconst 0, 1) := by decide +kernel
theorem dX5_lookedAtIn_1 : decode cX5_lookedAtIn 1 = .ok (.istore_n 2, 1) := by decide +kernel
theorem dX5_lookedAtIn_2 : decode cX5_lookedAtIn 2 = .ok (.iload_n 2, 1) := by decide +kernel
theorem dX5_lookedAtIn_3 : decode cX5_lookedAtIn 3 = .ok (.aload_n 0, 1) := by decide +kernel
theorem dX5_lookedAtIn_4 : decode cX5_lookedAtIn 4 = .ok (.getfield 24, 3) := by decide +kernel
theorem dX5_lookedAtIn_7 : decode cX5_lookedAtIn 7 = .ok (.if_icmp .ge 27, 3) := by decide +kernel
theorem dX5_lookedAtIn_10 : decode cX5_lookedAtIn 10 = .ok (.iload_n 2, 1) := by decide +kernel
theorem dX5_lookedAtIn_11 : decode cX5_lookedAtIn 11 = .ok (.bipush 8, 2) := by decide +kernel
theorem dX5_lookedAtIn_13 : decode cX5_lookedAtIn 13 = .ok (.if_icmp .ge 21, 3) := by decide +kernel
theorem dX5_lookedAtIn_16 : decode cX5_lookedAtIn 16 = .ok (.aload_n 0, 1) := by decide +kernel
theorem dX5_lookedAtIn_17 : decode cX5_lookedAtIn 17 = .ok (.getfield 21, 3) := by decide +kernel
theorem dX5_lookedAtIn_20 : decode cX5_lookedAtIn 20 = .ok (.iload_n 2, 1) := by decide +kernel
theorem dX5_lookedAtIn_21 : decode cX5_lookedAtIn 21 = .ok (.iaload, 1) := by decide +kernel
theorem dX5_lookedAtIn_22 : decode cX5_lookedAtIn 22 = .ok (.iload_n 1, 1) := by decide +kernel
theorem dX5_lookedAtIn_23 : decode cX5_lookedAtIn 23 = .ok (.if_icmp .ne 5, 3) := by decide +kernel
theorem dX5_lookedAtIn_26 : decode cX5_lookedAtIn 26 = .ok (.iload_n 2, 1) := by decide +kernel
theorem dX5_lookedAtIn_27 : decode cX5_lookedAtIn 27 = .ok (.ireturn, 1) := by decide +kernel
theorem dX5_lookedAtIn_28 : decode cX5_lookedAtIn 28 = .ok (.iinc 2 1, 3) := by decide +kernel
theorem dX5_lookedAtIn_31 : decode cX5_lookedAtIn 31 = .ok (.goto (-29), 3) := by decide +kernel
theorem dX5_lookedAtIn_34 : decode cX5_lookedAtIn 34 = .ok (.iconst (-1), 1) := by decide +kernel
theorem dX5_lookedAtIn_35 : decode cX5_lookedAtIn 35 = .ok (.ireturn, 1) := by decide +kernel
theorem dX6_init_0 : decode cX6_init 0 = .ok (.aload_n 0, 1) := by decide +kernel
theorem dX6_init_1 : decode cX6_init 1 = .ok (.invokespecial 1, 3) := by decide +kernel
theorem dX6_init_4 : decode cX6_init 4 = .ok (.aload_n 0, 1) := by decide +kernel
theorem dX6_init_5 : decode cX6_init 5 = .ok (.bipush 9, 2) := by decide +kernel
theorem dX6_init_7 : decode cX6_init 7 = .ok (.newarray .int, 2) := by decide +kernel
theorem dX6_init_9 : decode cX6_init 9 = .ok (.dup, 1) := by decide +kernel
theorem dX6_init_10 : decode cX6_init 10 = .ok (.iconst 0, 1) := by decide +kernel
theorem dX6_init_11 : decode cX6_init 11 = .ok (.bipush 14, 2) := by decide +kernel
theorem dX6_init_13 : decode cX6_init 13 = .ok (.iastore, 1) := by decide +kernel
theorem dX6_init_14 : decode cX6_init 14 = .ok (.dup, 1) := by decide +kernel
theorem dX6_init_15 : decode cX6_init 15 = .ok (.iconst 1, 1) := by decide +kernel
theorem dX6_init_16 : decode cX6_init 16 = .ok (.iconst 2, 1) := by decide +kernel
theorem dX6_init_17 : decode cX6_init 17 = .ok (.iastore, 1) := by decide +kernel
theorem dX6_init_18 : decode cX6_init 18 = .ok (.dup, 1) := by decide +kernel
theorem dX6_init_19 : decode cX6_init 19 = .ok (.iconst 2, 1) := by decide +kernel
theorem dX6_init_20 : decode cX6_init 20 = .ok (.iconst 1, 1) := by decide +kernel
theorem dX6_init_21 : decode cX6_init 21 = .ok (.iastore, 1) := by decide +kernel
theorem dX6_init_22 : decode cX6_init 22 = .ok (.dup, 1) := by decide +kernel
theorem dX6_init_23 : decode cX6_init 23 = .ok (.iconst 3, 1) := by decide +kernel
theorem dX6_init_24 : decode cX6_init 24 = .ok (.bipush 13, 2) := by decide +kernel
theorem dX6_init_26 : decode cX6_init 26 = .ok (.iastore, 1) := by decide +kernel
theorem dX6_init_27 : decode cX6_init 27 = .ok (.dup, 1) := by decide +kernel
theorem dX6_init_28 : decode cX6_init 28 = .ok (.iconst 4, 1) := by decide +kernel
theorem dX6_init_29 : decode cX6_init 29 = .ok (.bipush 20, 2) := by decide +kernel
theorem dX6_init_31 : decode cX6_init 31 = .ok (.iastore, 1) := by decide +kernel
theorem dX6_init_32 : decode cX6_init 32 = .ok (.dup, 1) := by decide +kernel
theorem dX6_init_33 : decode cX6_init 33 = .ok (.iconst 5, 1) := by decide +kernel
theorem dX6_init_34 : decode cX6_init 34 = .ok (.bipush 30, 2) := by decide +kernel
theorem dX6_init_36 : decode cX6_init 36 = .ok (.iastore, 1) := by decide +kernel
theorem dX6_init_37 : decode cX6_init 37 = .ok (.dup, 1) := by decide +kernel
theorem dX6_init_38 : decode cX6_init 38 = .ok (.bipush 6, 2) := by decide +kernel
theorem dX6_init_40 : decode cX6_init 40 = .ok (.bipush 12, 2) := by decide +kernel
theorem dX6_init_42 : decode cX6_init 42 = .ok (.iastore, 1) := by decide +kernel
theorem dX6_init_43 : decode cX6_init 43 = .ok (.dup, 1) := by decide +kernel
theorem dX6_init_44 : decode cX6_init 44 = .ok (.bipush 7, 2) := by decide +kernel
theorem dX6_init_46 : decode cX6_init 46 = .ok (.iconst 1, 1) := by decide +kernel
theorem dX6_init_47 : decode cX6_init 47 = .ok (.iastore, 1) := by decide +kernel
theorem dX6_init_48 : decode cX6_init 48 = .ok (.dup, 1) := by decide +kernel
theorem dX6_init_49 : decode cX6_init 49 = .ok (.bipush 8, 2) := by decide +kernel
theorem dX6_init_51 : decode cX6_init 51 = .ok (.iconst 1, 1) := by decide +kernel
theorem dX6_init_52 : decode cX6_init 52 = .ok (.iastore, 1) := by decide +kernel
theorem dX6_init_53 : decode cX6_init 53 = .ok (.putfield 7, 3) := by decide +kernel
theorem dX6_init_56 : decode cX6_init 56 = .ok (.return_, 1) := by decide +kernel
theorem dX6_most_0 : decode cX6_most 0 = .ok (.getstatic 13, 3) := by decide +kernel
theorem dX6_most_3 : decode cX6_most 3 = .ok (.iload_n 0, 1) := by decide +kernel
theorem dX6_most_4 : decode cX6_most 4 = .ok (.invokestatic 16, 3) := by decide +kernel
theorem dX6_most_7 : decode cX6_most 7 = .ok (.ireturn, 1) := by decide +kernel
theorem dX6_valueOf_0 : decode cX6_valueOf 0 = .ok (.iload_n 1, 1) := by decide +kernel
theorem dX6_valueOf_1 : decode cX6_valueOf 1 = .ok (.ifCond .lt 21, 3) := by decide +kernel
theorem dX6_valueOf_4 : decode cX6_valueOf 4 = .ok (.iload_n 1, 1) := by decide +kernel
theorem dX6_valueOf_5 : decode cX6_valueOf 5 = .ok (.aload_n 0, 1) := by decide +kernel
theorem dX6_valueOf_6 : decode cX6_valueOf 6 = .ok (.getfield 7, 3) := by decide +kernel
theorem dX6_valueOf_9 : decode cX6_valueOf 9 = .ok (.arraylength, 1) := by decide +kernel
theorem dX6_valueOf_10 : decode cX6_valueOf 10 = .ok (.if_icmp .ge 12, 3) := by decide +kernel
theorem dX6_valueOf_13 : decode cX6_valueOf 13 = .ok (.aload_n 0, 1) := by decide +kernel
theorem dX6_valueOf_14 : decode cX6_valueOf 14 = .ok (.getfield 7, 3) := by decide +kernel
theorem dX6_valueOf_17 : decode cX6_valueOf 17 = .ok (.iload_n 1, 1) := by decide +kernel
theorem dX6_valueOf_18 : decode cX6_valueOf 18 = .ok (.iaload, 1) := by decide +kernel
theorem dX6_valueOf_19 : decode cX6_valueOf 19 = .ok (.goto 4, 3) := by decide +kernel
theorem dX6_valueOf_22 : decode cX6_valueOf 22 = .ok (.iconst 0, 1) := by decide +kernel
theorem dX6_valueOf_23 : decode cX6_valueOf 23 = .ok (.ireturn, 1) := by decide +kernel
theorem dX6_become_0 : decode cX6_become 0 = .ok (.iload_n 1, 1) := by decide +kernel
theorem dX6_become_1 : decode cX6_become 1 = .ok (.ifCond .lt 19, 3) := by decide +kernel
theorem dX6_become_4 : decode cX6_become 4 = .ok (.iload_n 1, 1) := by decide +kernel
theorem dX6_become_5 : decode cX6_become 5 = .ok (.aload_n 0, 1) := by decide +kernel
theorem dX6_become_6 : decode cX6_become 6 = .ok (.getfield 7, 3) := by decide +kernel
theorem dX6_become_9 : decode cX6_become 9 = .ok (.arraylength, 1) := by decide +kernel
theorem dX6_become_10 : decode cX6_become 10 = .ok (.if_icmp .ge 10, 3) := by decide +kernel
theorem dX6_become_13 : decode cX6_become 13 = .ok (.aload_n 0, 1) := by decide +kernel
theorem dX6_become_14 : decode cX6_become 14 = .ok (.getfield 7, 3) := by decide +kernel
theorem dX6_become_17 : decode cX6_become 17 = .ok (.iload_n 1, 1) := by decide +kernel
theorem dX6_become_18 : decode cX6_become 18 = .ok (.iload_n 2, 1) := by decide +kernel
theorem dX6_become_19 : decode cX6_become 19 = .ok (.iastore, 1) := by decide +kernel
theorem dX6_become_20 : decode cX6_become 20 = .ok (.return_, 1) := by decide +kernel
theorem dX7_init_0 : decode cX7_init 0 = .ok (.aload_n 0, 1) := by decide +kernel
theorem dX7_init_1 : decode cX7_init 1 = .ok (.invokespecial 3, 3) := by decide +kernel
theorem dX7_init_4 : decode cX7_init 4 = .ok (.aload_n 0, 1) := by decide +kernel
theorem dX7_init_5 : decode cX7_init 5 = .ok (.bipush 48, 2) := by decide +kernel
theorem dX7_init_7 : decode cX7_init 7 = .ok (.newarray .int, 2) := by decide +kernel
theorem dX7_init_9 : decode cX7_init 9 = .ok (.putfield 11, 3) := by decide +kernel
theorem dX7_init_12 : decode cX7_init 12 = .ok (.aload_n 0, 1) := by decide +kernel
theorem dX7_init_13 : decode cX7_init 13 = .ok (.iconst 1, 1) := by decide +kernel
theorem dX7_init_14 : decode cX7_init 14 = .ok (.putfield 15, 3) := by decide +kernel
theorem dX7_init_17 : decode cX7_init 17 = .ok (.aload_n 0, 1) := by decide +kernel
theorem dX7_init_18 : decode cX7_init 18 = .ok (.iconst 0, 1) := by decide +kernel
theorem dX7_init_19 : decode cX7_init 19 = .ok (.putfield 19, 3) := by decide +kernel
theorem dX7_init_22 : decode cX7_init 22 = .ok (.aload_n 0, 1) := by decide +kernel
theorem dX7_init_23 : decode cX7_init 23 = .ok (.iconst 0, 1) := by decide +kernel
theorem dX7_init_24 : decode cX7_init 24 = .ok (.putfield 23, 3) := by decide +kernel
theorem dX7_init_27 : decode cX7_init 27 = .ok (.return_, 1) := by decide +kernel
theorem dX7_renew_0 : decode cX7_renew 0 = .ok (.aload_n 0, 1) := by decide +kernel
theorem dX7_renew_1 : decode cX7_renew 1 = .ok (.getfield 11, 3) := by decide +kernel
theorem dX7_renew_4 : decode cX7_renew 4 = .ok (.iconst 0, 1) := by decide +kernel
theorem dX7_renew_5 : decode cX7_renew 5 = .ok (.invokestatic 26, 3) := by decide +kernel
theorem dX7_renew_8 : decode cX7_renew 8 = .ok (.aload_n 0, 1) := by decide +kernel
theorem dX7_renew_9 : decode cX7_renew 9 = .ok (.iconst 0, 1) := by decide +kernel
theorem dX7_renew_10 : decode cX7_renew 10 = .ok (.putfield 15, 3) := by decide +kernel
theorem dX7_renew_13 : decode cX7_renew 13 = .ok (.aload_n 0, 1) := by decide +kernel
theorem dX7_renew_14 : decode cX7_renew 14 = .ok (.iload_n 1, 1) := by decide +kernel
theorem dX7_renew_15 : decode cX7_renew 15 = .ok (.putfield 19, 3) := by decide +kernel
theorem dX7_renew_18 : decode cX7_renew 18 = .ok (.aload_n 0, 1) := by decide +kernel
theorem dX7_renew_19 : decode cX7_renew 19 = .ok (.iload_n 2, 1) := by decide +kernel
theorem dX7_renew_20 : decode cX7_renew 20 = .ok (.putfield 23, 3) := by decide +kernel
theorem dX7_renew_23 : decode cX7_renew 23 = .ok (.return_, 1) := by decide +kernel
theorem dX7_findingAt_0 : decode cX7_findingAt 0 = .ok (.aload_n 0, 1) := by decide +kernel
theorem dX7_findingAt_1 : decode cX7_findingAt 1 = .ok (.getfield 15, 3) := by decide +kernel
theorem dX7_findingAt_4 : decode cX7_findingAt 4 = .ok (.ifCond .eq 5, 3) := by decide +kernel
theorem dX7_findingAt_7 : decode cX7_findingAt 7 = .ok (.iconst 1, 1) := by decide +kernel
theorem dX7_findingAt_8 : decode cX7_findingAt 8 = .ok (.ireturn, 1) := by decide +kernel
theorem dX7_findingAt_9 : decode cX7_findingAt 9 = .ok (.iload_n 1, 1) := by decide +kernel
theorem dX7_findingAt_10 : decode cX7_findingAt 10 = .ok (.aload_n 0, 1) := by decide +kernel
theorem dX7_findingAt_11 : decode cX7_findingAt 11 = .ok (.getfield 19, 3) := by decide +kernel
theorem dX7_findingAt_14 : decode cX7_findingAt 14 = .ok (.if_icmp .eq 5, 3) := by decide +kernel
theorem dX7_findingAt_17 : decode cX7_findingAt 17 = .ok (.iconst 3, 1) := by decide +kernel
theorem dX7_findingAt_18 : decode cX7_findingAt 18 = .ok (.ireturn, 1) := by decide +kernel
theorem dX7_findingAt_19 : decode cX7_findingAt 19 = .ok (.aload_n 0, 1) := by decide +kernel
theorem dX7_findingAt_20 : decode cX7_findingAt 20 = .ok (.iload_n 2, 1) := by decide +kernel
theorem dX7_findingAt_21 : decode cX7_findingAt 21 = .ok (.iconst 1, 1) := by decide +kernel
theorem dX7_findingAt_22 : decode cX7_findingAt 22 = .ok (.invokevirtual 32, 3) := by decide +kernel
theorem dX7_findingAt_25 : decode cX7_findingAt 25 = .ok (.ifCond .eq 7, 3) := by decide +kernel
theorem dX7_findingAt_28 : decode cX7_findingAt 28 = .ok (.iconst 0, 1) := by decide +kernel
theorem dX7_findingAt_29 : decode cX7_findingAt 29 = .ok (.goto 4, 3) := by decide +kernel
theorem dX7_findingAt_32 : decode cX7_findingAt 32 = .ok (.iconst 2, 1) := by decide +kernel
theorem dX7_findingAt_33 : decode cX7_findingAt 33 = .ok (.ireturn, 1) := by decide +kernel
theorem dX7_hasItems_0 : decode cX7_hasItems 0 = .ok (.iload_n 1, 1) := by decide +kernel
theorem dX7_hasItems_1 : decode cX7_hasItems 1 = .ok (.ifCond .lt 29, 3) := by decide +kernel
theorem dX7_hasItems_4 : decode cX7_hasItems 4 = .ok (.iload_n 2, 1) := by decide +kernel
theorem dX7_hasItems_5 : decode cX7_hasItems 5 = .ok (.ifCond .lt 25, 3) := by decide +kernel
theorem dX7_hasItems_8 : decode cX7_hasItems 8 = .ok (.iload_n 1, 1) := by decide +kernel
theorem dX7_hasItems_9 : decode cX7_hasItems 9 = .ok (.aload_n 0, 1) := by decide +kernel
theorem dX7_hasItems_10 : decode cX7_hasItems 10 = .ok (.getfield 23, 3) := by decide +kernel
theorem dX7_hasItems_13 : decode cX7_hasItems 13 = .ok (.if_icmp .gt 17, 3) := by decide +kernel
theorem dX7_hasItems_16 : decode cX7_hasItems 16 = .ok (.iload_n 2, 1) := by decide +kernel
theorem dX7_hasItems_17 : decode cX7_hasItems 17 = .ok (.aload_n 0, 1) := by decide +kernel
theorem dX7_hasItems_18 : decode cX7_hasItems 18 = .ok (.getfield 23, 3) := by decide +kernel
theorem dX7_hasItems_21 : decode cX7_hasItems 21 = .ok (.iload_n 1, 1) := by decide +kernel
theorem dX7_hasItems_22 : decode cX7_hasItems 22 = .ok (.isub, 1) := by decide +kernel
theorem dX7_hasItems_23 : decode cX7_hasItems 23 = .ok (.if_icmp .gt 7, 3) := by decide +kernel
theorem dX7_hasItems_26 : decode cX7_hasItems 26 = .ok (.iconst 1, 1) := by decide +kernel
theorem dX7_hasItems_27 : decode cX7_hasItems 27 = .ok (.goto 4, 3) := by decide +kernel
theorem dX7_hasItems_30 : decode cX7_hasItems 30 = .ok (.iconst 0, 1) := by decide +kernel
theorem dX7_hasItems_31 : decode cX7_hasItems 31 = .ok (.ireturn, 1) := by decide +kernel
theorem dX7_itemOf_0 : decode cX7_itemOf 0 = .ok (.aload_n 0, 1) := by decide +kernel
theorem dX7_itemOf_1 : decode cX7_itemOf 1 = .ok (.getfield 11, 3) := by decide +kernel
theorem dX7_itemOf_4 : decode cX7_itemOf 4 = .ok (.iload_n 1, 1) := by decide +kernel
theorem dX7_itemOf_5 : decode cX7_itemOf 5 = .ok (.invokestatic 36, 3) := by decide +kernel
theorem dX7_itemOf_8 : decode cX7_itemOf 8 = .ok (.ireturn, 1) := by decide +kernel
theorem dX7_become_0 : decode cX7_become 0 = .ok (.iload_n 1, 1) := by decide +kernel
theorem dX7_become_1 : decode cX7_become 1 = .ok (.ifCond .lt 44, 3) := by decide +kernel
theorem dX7_become_4 : decode cX7_become 4 = .ok (.iload_n 1, 1) := by decide +kernel
theorem dX7_become_5 : decode cX7_become 5 = .ok (.aload_n 0, 1) := by decide +kernel
theorem dX7_become_6 : decode cX7_become 6 = .ok (.getfield 11, 3) := by decide +kernel
theorem dX7_become_9 : decode cX7_become 9 = .ok (.arraylength, 1) := by decide +kernel
theorem dX7_become_10 : decode cX7_become 10 = .ok (.if_icmp .ge 35, 3) := by decide +kernel
theorem dX7_become_13 : decode cX7_become 13 = .ok (.aload_n 0, 1) := by decide +kernel
theorem dX7_become_14 : decode cX7_become 14 = .ok (.getfield 11, 3) := by decide +kernel
theorem dX7_become_17 : decode cX7_become 17 = .ok (.iload_n 1, 1) := by decide +kernel
theorem dX7_become_18 : decode cX7_become 18 = .ok (.aload_n 0, 1) := by decide +kernel
theorem dX7_become_19 : decode cX7_become 19 = .ok (.getfield 19, 3) := by decide +kernel
theorem dX7_become_22 : decode cX7_become 22 = .ok (.ifCond .ne 8, 3) := by decide +kernel
theorem dX7_become_25 : decode cX7_become 25 = .ok (.iload_n 2, 1) := by decide +kernel
theorem dX7_become_26 : decode cX7_become 26 = .ok (.i2b, 1) := by decide +kernel
theorem dX7_become_27 : decode cX7_become 27 = .ok (.goto 17, 3) := by decide +kernel
theorem dX7_become_30 : decode cX7_become 30 = .ok (.aload_n 0, 1) := by decide +kernel
theorem dX7_become_31 : decode cX7_become 31 = .ok (.getfield 19, 3) := by decide +kernel
theorem dX7_become_34 : decode cX7_become 34 = .ok (.iconst 1, 1) := by decide +kernel
theorem dX7_become_35 : decode cX7_become 35 = .ok (.if_icmp .ne 8, 3) := by decide +kernel
theorem dX7_become_38 : decode cX7_become 38 = .ok (.iload_n 2, 1) := by decide +kernel
theorem dX7_become_39 : decode cX7_become 39 = .ok (.i2s, 1) := by decide +kernel
theorem dX7_become_40 : decode cX7_become 40 = .ok (.goto 4, 3) := by decide +kernel
theorem dX7_become_43 : decode cX7_become 43 = .ok (.iload_n 2, 1) := by decide +kernel
theorem dX7_become_44 : decode cX7_become 44 = .ok (.iastore, 1) := by decide +kernel
theorem dX7_become_45 : decode cX7_become 45 = .ok (.return_, 1) := by decide +kernel
theorem dX8_init_0 : decode cX8_init 0 = .ok (.aload_n 0, 1) := by decide +kernel
theorem dX8_init_1 : decode cX8_init 1 = .ok (.invokespecial 3, 3) := by decide +kernel
theorem dX8_init_4 : decode cX8_init 4 = .ok (.aload_n 0, 1) := by decide +kernel
theorem dX8_init_5 : decode cX8_init 5 = .ok (.bipush 21, 2) := by decide +kernel
theorem dX8_init_7 : decode cX8_init 7 = .ok (.newarray .long, 2) := by decide +kernel
theorem dX8_init_9 : decode cX8_init 9 = .ok (.putfield 9, 3) := by decide +kernel
theorem dX8_init_12 : decode cX8_init 12 = .ok (.aload_n 0, 1) := by decide +kernel
theorem dX8_init_13 : decode cX8_init 13 = .ok (.bipush 21, 2) := by decide +kernel
theorem dX8_init_15 : decode cX8_init 15 = .ok (.newarray .long, 2) := by decide +kernel
theorem dX8_init_17 : decode cX8_init 17 = .ok (.putfield 15, 3) := by decide +kernel
theorem dX8_init_20 : decode cX8_init 20 = .ok (.aload_n 0, 1) := by decide +kernel
theorem dX8_init_21 : decode cX8_init 21 = .ok (.aload_n 1, 1) := by decide +kernel
theorem dX8_init_22 : decode cX8_init 22 = .ok (.putfield 18, 3) := by decide +kernel
theorem dX8_init_25 : decode cX8_init 25 = .ok (.return_, 1) := by decide +kernel
theorem dX8_chanceOf_0 : decode cX8_chanceOf 0 = .ok (.aload_n 0, 1) := by decide +kernel
theorem dX8_chanceOf_1 : decode cX8_chanceOf 1 = .ok (.getfield 9, 3) := by decide +kernel
theorem dX8_chanceOf_4 : decode cX8_chanceOf 4 = .ok (.iload_n 1, 1) := by decide +kernel
theorem dX8_chanceOf_5 : decode cX8_chanceOf 5 = .ok (.bipush 10, 2) := by decide +kernel
theorem dX8_chanceOf_7 : decode cX8_chanceOf 7 = .ok (.iadd, 1) := by decide +kernel
theorem dX8_chanceOf_8 : decode cX8_chanceOf 8 = .ok (.invokestatic 22, 3) := by decide +kernel
theorem dX8_chanceOf_11 : decode cX8_chanceOf 11 = .ok (.lreturn, 1) := by decide +kernel
theorem dX8_walk_0 : decode cX8_walk 0 = .ok (.aload_n 0, 1) := by decide +kernel
theorem dX8_walk_1 : decode cX8_walk 1 = .ok (.getfield 9, 3) := by decide +kernel
theorem dX8_walk_4 : decode cX8_walk 4 = .ok (.lconst 0, 1) := by decide +kernel
theorem dX8_walk_5 : decode cX8_walk 5 = .ok (.invokestatic 26, 3) := by decide +kernel
theorem dX8_walk_8 : decode cX8_walk 8 = .ok (.aload_n 0, 1) := by decide +kernel
theorem dX8_walk_9 : decode cX8_walk 9 = .ok (.getfield 15, 3) := by decide +kernel
theorem dX8_walk_12 : decode cX8_walk 12 = .ok (.lconst 0, 1) := by decide +kernel
theorem dX8_walk_13 : decode cX8_walk 13 = .ok (.invokestatic 26, 3) := by decide +kernel
theorem dX8_walk_16 : decode cX8_walk 16 = .ok (.aload_n 0, 1) := by decide +kernel
theorem dX8_walk_17 : decode cX8_walk 17 = .ok (.getfield 9, 3) := by decide +kernel
theorem dX8_walk_20 : decode cX8_walk 20 = .ok (.bipush 10, 2) := by decide +kernel
theorem dX8_walk_22 : decode cX8_walk 22 = .ok (.ldc2_w 32, 3) := by decide +kernel
theorem dX8_walk_25 : decode cX8_walk 25 = .ok (.invokestatic 34, 3) := by decide +kernel
theorem dX8_walk_28 : decode cX8_walk 28 = .ok (.iconst 0, 1) := by decide +kernel
theorem dX8_walk_29 : decode cX8_walk 29 = .ok (.istore 5, 2) := by decide +kernel
theorem dX8_walk_31 : decode cX8_walk 31 = .ok (.iconst 0, 1) := by decide +kernel
theorem dX8_walk_32 : decode cX8_walk 32 = .ok (.istore 6, 2) := by decide +kernel
theorem dX8_walk_34 : decode cX8_walk 34 = .ok (.iload 6, 2) := by decide +kernel
theorem dX8_walk_36 : decode cX8_walk 36 = .ok (.iload_n 2, 1) := by decide +kernel
theorem dX8_walk_37 : decode cX8_walk 37 = .ok (.if_icmp .ge 100, 3) := by decide +kernel
theorem dX8_walk_40 : decode cX8_walk 40 = .ok (.aload_n 0, 1) := by decide +kernel
theorem dX8_walk_41 : decode cX8_walk 41 = .ok (.getfield 18, 3) := by decide +kernel
theorem dX8_walk_44 : decode cX8_walk 44 = .ok (.iload 6, 2) := by decide +kernel
theorem dX8_walk_46 : decode cX8_walk 46 = .ok (.invokevirtual 38, 3) := by decide +kernel
theorem dX8_walk_49 : decode cX8_walk 49 = .ok (.ifCond .eq 46, 3) := by decide +kernel
theorem dX8_walk_52 : decode cX8_walk 52 = .ok (.aload_n 0, 1) := by decide +kernel
theorem dX8_walk_53 : decode cX8_walk 53 = .ok (.getfield 18, 3) := by decide +kernel
theorem dX8_walk_56 : decode cX8_walk 56 = .ok (.iload 6, 2) := by decide +kernel
theorem dX8_walk_58 : decode cX8_walk 58 = .ok (.invokevirtual 44, 3) := by decide +kernel
theorem dX8_walk_61 : decode cX8_walk 61 = .ok (.istore 7, 2) := by decide +kernel
theorem dX8_walk_63 : decode cX8_walk 63 = .ok (.bipush 10, 2) := by decide +kernel
theorem dX8_walk_65 : decode cX8_walk 65 = .ok (.iload 5, 2) := by decide +kernel
theorem dX8_walk_67 : decode cX8_walk 67 = .ok (.iconst 1, 1) := by decide +kernel
theorem dX8_walk_68 : decode cX8_walk 68 = .ok (.iadd, 1) := by decide +kernel
theorem dX8_walk_69 : decode cX8_walk 69 = .ok (.invokestatic 48, 3) := by decide +kernel
theorem dX8_walk_72 : decode cX8_walk 72 = .ok (.istore 5, 2) := by decide +kernel
theorem dX8_walk_74 : decode cX8_walk 74 = .ok (.aload_n 0, 1) := by decide +kernel
theorem dX8_walk_75 : decode cX8_walk 75 = .ok (.aload_n 1, 1) := by decide +kernel
theorem dX8_walk_76 : decode cX8_walk 76 = .ok (.iload 7, 2) := by decide +kernel
theorem dX8_walk_78 : decode cX8_walk 78 = .ok (.invokevirtual 54, 3) := by decide +kernel
theorem dX8_walk_81 : decode cX8_walk 81 = .ok (.aload_n 1, 1) := by decide +kernel
theorem dX8_walk_82 : decode cX8_walk 82 = .ok (.iload 7, 2) := by decide +kernel
theorem dX8_walk_84 : decode cX8_walk 84 = .ok (.invokevirtual 59, 3) := by decide +kernel
theorem dX8_walk_87 : decode cX8_walk 87 = .ok (.iload 5, 2) := by decide +kernel
theorem dX8_walk_89 : decode cX8_walk 89 = .ok (.invokevirtual 62, 3) := by decide +kernel
theorem dX8_walk_92 : decode cX8_walk 92 = .ok (.goto 39, 3) := by decide +kernel
theorem dX8_walk_95 : decode cX8_walk 95 = .ok (.aload_n 0, 1) := by decide +kernel
theorem dX8_walk_96 : decode cX8_walk 96 = .ok (.getfield 18, 3) := by decide +kernel
theorem dX8_walk_99 : decode cX8_walk 99 = .ok (.iload 6, 2) := by decide +kernel
theorem dX8_walk_101 : decode cX8_walk 101 = .ok (.invokevirtual 66, 3) := by decide +kernel
theorem dX8_walk_104 : decode cX8_walk 104 = .ok (.iconst (-1), 1) := by decide +kernel
theorem dX8_walk_105 : decode cX8_walk 105 = .ok (.if_icmp .eq 26, 3) := by decide +kernel
theorem dX8_walk_108 : decode cX8_walk 108 = .ok (.iload_n 3, 1) := by decide +kernel
theorem dX8_walk_109 : decode cX8_walk 109 = .ok (.aload_n 0, 1) := by decide +kernel
theorem dX8_walk_110 : decode cX8_walk 110 = .ok (.getfield 18, 3) := by decide +kernel
theorem dX8_walk_113 : decode cX8_walk 113 = .ok (.iload 6, 2) := by decide +kernel
theorem dX8_walk_115 : decode cX8_walk 115 = .ok (.invokevirtual 66, 3) := by decide +kernel
theorem dX8_walk_118 : decode cX8_walk 118 = .ok (.ishr, 1) := by decide +kernel
theorem dX8_walk_119 : decode cX8_walk 119 = .ok (.iconst 1, 1) := by decide +kernel
theorem dX8_walk_120 : decode cX8_walk 120 = .ok (.iand, 1) := by decide +kernel
theorem dX8_walk_121 : decode cX8_walk 121 = .ok (.iconst 1, 1) := by decide +kernel
theorem dX8_walk_122 : decode cX8_walk 122 = .ok (.if_icmp .ne 9, 3) := by decide +kernel
theorem dX8_walk_125 : decode cX8_walk 125 = .ok (.aload_n 0, 1) := by decide +kernel
theorem dX8_walk_126 : decode cX8_walk 126 = .ok (.iload 4, 2) := by decide +kernel
theorem dX8_walk_128 : decode cX8_walk 128 = .ok (.invokevirtual 69, 3) := by decide +kernel
theorem dX8_walk_131 : decode cX8_walk 131 = .ok (.iinc 6 1, 3) := by decide +kernel
theorem dX8_walk_134 : decode cX8_walk 134 = .ok (.goto (-100), 3) := by decide +kernel
theorem dX8_walk_137 : decode cX8_walk 137 = .ok (.return_, 1) := by decide +kernel
theorem dX8_drift_0 : decode cX8_drift 0 = .ok (.bipush 16, 2) := by decide +kernel
theorem dX8_drift_2 : decode cX8_drift 2 = .ok (.iload_n 1, 1) := by decide +kernel
theorem dX8_drift_3 : decode cX8_drift 3 = .ok (.isub, 1) := by decide +kernel
theorem dX8_drift_4 : decode cX8_drift 4 = .ok (.iload_n 2, 1) := by decide +kernel
theorem dX8_drift_5 : decode cX8_drift 5 = .ok (.isub, 1) := by decide +kernel
theorem dX8_drift_6 : decode cX8_drift 6 = .ok (.istore 4, 2) := by decide +kernel
theorem dX8_drift_8 : decode cX8_drift 8 = .ok (.iconst 0, 1) := by decide +kernel
theorem dX8_drift_9 : decode cX8_drift 9 = .ok (.bipush 10, 2) := by decide +kernel
theorem dX8_drift_11 : decode cX8_drift 11 = .ok (.iload_n 3, 1) := by decide +kernel
theorem dX8_drift_12 : decode cX8_drift 12 = .ok (.isub, 1) := by decide +kernel
theorem dX8_drift_13 : decode cX8_drift 13 = .ok (.invokestatic 73, 3) := by decide +kernel
theorem dX8_drift_16 : decode cX8_drift 16 = .ok (.istore 5, 2) := by decide +kernel
theorem dX8_drift_18 : decode cX8_drift 18 = .ok (.iload 5, 2) := by decide +kernel
theorem dX8_drift_20 : decode cX8_drift 20 = .ok (.bipush 10, 2) := by decide +kernel
theorem dX8_drift_22 : decode cX8_drift 22 = .ok (.iload_n 3, 1) := by decide +kernel
theorem dX8_drift_23 : decode cX8_drift 23 = .ok (.iadd, 1) := by decide +kernel
theorem dX8_drift_24 : decode cX8_drift 24 = .ok (.if_icmp .gt 78, 3) := by decide +kernel
theorem dX8_drift_27 : decode cX8_drift 27 = .ok (.iload 5, 2) := by decide +kernel
theorem dX8_drift_29 : decode cX8_drift 29 = .ok (.bipush 21, 2) := by decide +kernel
theorem dX8_drift_31 : decode cX8_drift 31 = .ok (.if_icmp .ge 71, 3) := by decide +kernel
theorem dX8_drift_34 : decode cX8_drift 34 = .ok (.aload_n 0, 1) := by decide +kernel
theorem dX8_drift_35 : decode cX8_drift 35 = .ok (.getfield 15, 3) := by decide +kernel
theorem dX8_drift_38 : decode cX8_drift 38 = .ok (.iload 5, 2) := by decide +kernel
theorem dX8_drift_40 : decode cX8_drift 40 = .ok (.aload_n 0, 1) := by decide +kernel
theorem dX8_drift_41 : decode cX8_drift 41 = .ok (.getfield 9, 3) := by decide +kernel
theorem dX8_drift_44 : decode cX8_drift 44 = .ok (.iload 5, 2) := by decide +kernel
theorem dX8_drift_46 : decode cX8_drift 46 = .ok (.iconst 1, 1) := by decide +kernel
theorem dX8_drift_47 : decode cX8_drift 47 = .ok (.iadd, 1) := by decide +kernel
theorem dX8_drift_48 : decode cX8_drift 48 = .ok (.invokestatic 22, 3) := by decide +kernel
theorem dX8_drift_51 : decode cX8_drift 51 = .ok (.ldc2_w 76, 3) := by decide +kernel
theorem dX8_drift_54 : decode cX8_drift 54 = .ok (.ldiv, 1) := by decide +kernel
theorem dX8_drift_55 : decode cX8_drift 55 = .ok (.iload_n 1, 1) := by decide +kernel
theorem dX8_drift_56 : decode cX8_drift 56 = .ok (.i2l, 1) := by decide +kernel
theorem dX8_drift_57 : decode cX8_drift 57 = .ok (.lmul, 1) := by decide +kernel
theorem dX8_drift_58 : decode cX8_drift 58 = .ok (.aload_n 0, 1) := by decide +kernel
theorem dX8_drift_59 : decode cX8_drift 59 = .ok (.getfield 9, 3) := by decide +kernel
theorem dX8_drift_62 : decode cX8_drift 62 = .ok (.iload 5, 2) := by decide +kernel
theorem dX8_drift_64 : decode cX8_drift 64 = .ok (.invokestatic 22, 3) := by decide +kernel
theorem dX8_drift_67 : decode cX8_drift 67 = .ok (.ldc2_w 76, 3) := by decide +kernel
theorem dX8_drift_70 : decode cX8_drift 70 = .ok (.ldiv, 1) := by decide +kernel
theorem dX8_drift_71 : decode cX8_drift 71 = .ok (.iload 4, 2) := by decide +kernel
theorem dX8_drift_73 : decode cX8_drift 73 = .ok (.i2l, 1) := by decide +kernel
theorem dX8_drift_74 : decode cX8_drift 74 = .ok (.lmul, 1) := by decide +kernel
theorem dX8_drift_75 : decode cX8_drift 75 = .ok (.ladd, 1) := by decide +kernel
theorem dX8_drift_76 : decode cX8_drift 76 = .ok (.aload_n 0, 1) := by decide +kernel
theorem dX8_drift_77 : decode cX8_drift 77 = .ok (.getfield 9, 3) := by decide +kernel
theorem dX8_drift_80 : decode cX8_drift 80 = .ok (.iload 5, 2) := by decide +kernel
theorem dX8_drift_82 : decode cX8_drift 82 = .ok (.iconst 1, 1) := by decide +kernel
theorem dX8_drift_83 : decode cX8_drift 83 = .ok (.isub, 1) := by decide +kernel
theorem dX8_drift_84 : decode cX8_drift 84 = .ok (.invokestatic 22, 3) := by decide +kernel
theorem dX8_drift_87 : decode cX8_drift 87 = .ok (.ldc2_w 76, 3) := by decide +kernel
theorem dX8_drift_90 : decode cX8_drift 90 = .ok (.ldiv, 1) := by decide +kernel
theorem dX8_drift_91 : decode cX8_drift 91 = .ok (.iload_n 2, 1) := by decide +kernel
theorem dX8_drift_92 : decode cX8_drift 92 = .ok (.i2l, 1) := by decide +kernel
theorem dX8_drift_93 : decode cX8_drift 93 = .ok (.lmul, 1) := by decide +kernel
theorem dX8_drift_94 : decode cX8_drift 94 = .ok (.ladd, 1) := by decide +kernel
theorem dX8_drift_95 : decode cX8_drift 95 = .ok (.lastore, 1) := by decide +kernel
theorem dX8_drift_96 : decode cX8_drift 96 = .ok (.iinc 5 1, 3) := by decide +kernel
theorem dX8_drift_99 : decode cX8_drift 99 = .ok (.goto (-81), 3) := by decide +kernel
theorem dX8_drift_102 : decode cX8_drift 102 = .ok (.aload_n 0, 1) := by decide +kernel
theorem dX8_drift_103 : decode cX8_drift 103 = .ok (.getfield 15, 3) := by decide +kernel
theorem dX8_drift_106 : decode cX8_drift 106 = .ok (.iconst 0, 1) := by decide +kernel
theorem dX8_drift_107 : decode cX8_drift 107 = .ok (.aload_n 0, 1) := by decide +kernel
theorem dX8_drift_108 : decode cX8_drift 108 = .ok (.getfield 9, 3) := by decide +kernel
theorem dX8_drift_111 : decode cX8_drift 111 = .ok (.iconst 0, 1) := by decide +kernel
theorem dX8_drift_112 : decode cX8_drift 112 = .ok (.bipush 21, 2) := by decide +kernel
theorem dX8_drift_114 : decode cX8_drift 114 = .ok (.invokestatic 78, 3) := by decide +kernel
theorem dX8_drift_117 : decode cX8_drift 117 = .ok (.return_, 1) := by decide +kernel
theorem dX8_gather_0 : decode cX8_gather 0 = .ok (.iconst 0, 1) := by decide +kernel
theorem dX8_gather_1 : decode cX8_gather 1 = .ok (.istore_n 2, 1) := by decide +kernel
theorem dX8_gather_2 : decode cX8_gather 2 = .ok (.iload_n 2, 1) := by decide +kernel
theorem dX8_gather_3 : decode cX8_gather 3 = .ok (.bipush 21, 2) := by decide +kernel
theorem dX8_gather_5 : decode cX8_gather 5 = .ok (.if_icmp .ge 31, 3) := by decide +kernel
theorem dX8_gather_8 : decode cX8_gather 8 = .ok (.aload_n 0, 1) := by decide +kernel
theorem dX8_gather_9 : decode cX8_gather 9 = .ok (.getfield 9, 3) := by decide +kernel
theorem dX8_gather_12 : decode cX8_gather 12 = .ok (.iload_n 2, 1) := by decide +kernel
theorem dX8_gather_13 : decode cX8_gather 13 = .ok (.aload_n 0, 1) := by decide +kernel
theorem dX8_gather_14 : decode cX8_gather 14 = .ok (.getfield 9, 3) := by decide +kernel
theorem dX8_gather_17 : decode cX8_gather 17 = .ok (.iload_n 2, 1) := by decide +kernel
theorem dX8_gather_18 : decode cX8_gather 18 = .ok (.laload, 1) := by decide +kernel
theorem dX8_gather_19 : decode cX8_gather 19 = .ok (.ldc2_w 76, 3) := by decide +kernel
theorem dX8_gather_22 : decode cX8_gather 22 = .ok (.ldiv, 1) := by decide +kernel
theorem dX8_gather_23 : decode cX8_gather 23 = .ok (.bipush 16, 2) := by decide +kernel
theorem dX8_gather_25 : decode cX8_gather 25 = .ok (.iload_n 1, 1) := by decide +kernel
theorem dX8_gather_26 : decode cX8_gather 26 = .ok (.isub, 1) := by decide +kernel
theorem dX8_gather_27 : decode cX8_gather 27 = .ok (.i2l, 1) := by decide +kernel
theorem dX8_gather_28 : decode cX8_gather 28 = .ok (.lmul, 1) := by decide +kernel
theorem dX8_gather_29 : decode cX8_gather 29 = .ok (.lastore, 1) := by decide +kernel
theorem dX8_gather_30 : decode cX8_gather 30 = .ok (.iinc 2 1, 3) := by decide +kernel
theorem dX8_gather_33 : decode cX8_gather 33 = .ok (.goto (-31), 3) := by decide +kernel
theorem dX8_gather_36 : decode cX8_gather 36 = .ok (.aload_n 0, 1) := by decide +kernel
theorem dX8_gather_37 : decode cX8_gather 37 = .ok (.getfield 9, 3) := by decide +kernel
theorem dX8_gather_40 : decode cX8_gather 40 = .ok (.bipush 10, 2) := by decide +kernel
theorem dX8_gather_42 : decode cX8_gather 42 = .ok (.ldc2_w 84, 3) := by decide +kernel
theorem dX8_gather_45 : decode cX8_gather 45 = .ok (.iload_n 1, 1) := by decide +kernel
theorem dX8_gather_46 : decode cX8_gather 46 = .ok (.i2l, 1) := by decide +kernel
theorem dX8_gather_47 : decode cX8_gather 47 = .ok (.lmul, 1) := by decide +kernel
theorem dX8_gather_48 : decode cX8_gather 48 = .ok (.invokestatic 34, 3) := by decide +kernel
theorem dX8_gather_51 : decode cX8_gather 51 = .ok (.return_, 1) := by decide +kernel
theorem dX9_init_0 : decode cX9_init 0 = .ok (.aload_n 0, 1) := by decide +kernel
theorem dX9_init_1 : decode cX9_init 1 = .ok (.invokespecial 3, 3) := by decide +kernel
theorem dX9_init_4 : decode cX9_init 4 = .ok (.aload_n 0, 1) := by decide +kernel
theorem dX9_init_5 : decode cX9_init 5 = .ok (.sipush 2079, 3) := by decide +kernel
theorem dX9_init_8 : decode cX9_init 8 = .ok (.newarray .long, 2) := by decide +kernel
theorem dX9_init_10 : decode cX9_init 10 = .ok (.putfield 9, 3) := by decide +kernel
theorem dX9_init_13 : decode cX9_init 13 = .ok (.aload_n 0, 1) := by decide +kernel
theorem dX9_init_14 : decode cX9_init 14 = .ok (.bipush 111, 2) := by decide +kernel
theorem dX9_init_16 : decode cX9_init 16 = .ok (.newarray .long, 2) := by decide +kernel
theorem dX9_init_18 : decode cX9_init 18 = .ok (.putfield 15, 3) := by decide +kernel
theorem dX9_init_21 : decode cX9_init 21 = .ok (.aload_n 0, 1) := by decide +kernel
theorem dX9_init_22 : decode cX9_init 22 = .ok (.bipush 21, 2) := by decide +kernel
theorem dX9_init_24 : decode cX9_init 24 = .ok (.newarray .long, 2) := by decide +kernel
theorem dX9_init_26 : decode cX9_init 26 = .ok (.putfield 18, 3) := by decide +kernel
theorem dX9_init_29 : decode cX9_init 29 = .ok (.aload_n 0, 1) := by decide +kernel
theorem dX9_init_30 : decode cX9_init 30 = .ok (.bipush 21, 2) := by decide +kernel
theorem dX9_init_32 : decode cX9_init 32 = .ok (.newarray .long, 2) := by decide +kernel
theorem dX9_init_34 : decode cX9_init 34 = .ok (.putfield 21, 3) := by decide +kernel
theorem dX9_init_37 : decode cX9_init 37 = .ok (.aload_n 0, 1) := by decide +kernel
theorem dX9_init_38 : decode cX9_init 38 = .ok (.aload_n 1, 1) := by decide +kernel
theorem dX9_init_39 : decode cX9_init 39 = .ok (.putfield 24, 3) := by decide +kernel
theorem dX9_init_42 : decode cX9_init 42 = .ok (.aload_n 0, 1) := by decide +kernel
theorem dX9_init_43 : decode cX9_init 43 = .ok (.aload_n 2, 1) := by decide +kernel
theorem dX9_init_44 : decode cX9_init 44 = .ok (.putfield 28, 3) := by decide +kernel
theorem dX9_init_47 : decode cX9_init 47 = .ok (.aload_n 0, 1) := by decide +kernel
theorem dX9_init_48 : decode cX9_init 48 = .ok (.aload_n 3, 1) := by decide +kernel
theorem dX9_init_49 : decode cX9_init 49 = .ok (.putfield 32, 3) := by decide +kernel
theorem dX9_init_52 : decode cX9_init 52 = .ok (.aload_n 0, 1) := by decide +kernel
theorem dX9_init_53 : decode cX9_init 53 = .ok (.aload 4, 2) := by decide +kernel
theorem dX9_init_55 : decode cX9_init 55 = .ok (.putfield 36, 3) := by decide +kernel
theorem dX9_init_58 : decode cX9_init 58 = .ok (.return_, 1) := by decide +kernel
theorem dX9_ofAll_0 : decode cX9_ofAll 0 = .ok (.aload_n 0, 1) := by decide +kernel
theorem dX9_ofAll_1 : decode cX9_ofAll 1 = .ok (.getfield 15, 3) := by decide +kernel
theorem dX9_ofAll_4 : decode cX9_ofAll 4 = .ok (.iload_n 1, 1) := by decide +kernel
theorem dX9_ofAll_5 : decode cX9_ofAll 5 = .ok (.invokestatic 40, 3) := by decide +kernel
theorem dX9_ofAll_8 : decode cX9_ofAll 8 = .ok (.lreturn, 1) := by decide +kernel
theorem dX9_saidIn_0 : decode cX9_saidIn 0 = .ok (.iload_n 1, 1) := by decide +kernel
theorem dX9_saidIn_1 : decode cX9_saidIn 1 = .ok (.iconst 1, 1) := by decide +kernel
theorem dX9_saidIn_2 : decode cX9_saidIn 2 = .ok (.isub, 1) := by decide +kernel
theorem dX9_saidIn_3 : decode cX9_saidIn 3 = .ok (.iload_n 2, 1) := by decide +kernel
theorem dX9_saidIn_4 : decode cX9_saidIn 4 = .ok (.isub, 1) := by decide +kernel
theorem dX9_saidIn_5 : decode cX9_saidIn 5 = .ok (.bipush 10, 2) := by decide +kernel
theorem dX9_saidIn_7 : decode cX9_saidIn 7 = .ok (.iadd, 1) := by decide +kernel
theorem dX9_saidIn_8 : decode cX9_saidIn 8 = .ok (.istore_n 3, 1) := by decide +kernel
theorem dX9_saidIn_9 : decode cX9_saidIn 9 = .ok (.aload_n 0, 1) := by decide +kernel
theorem dX9_saidIn_10 : decode cX9_saidIn 10 = .ok (.getfield 24, 3) := by decide +kernel
theorem dX9_saidIn_13 : decode cX9_saidIn 13 = .ok (.iload_n 2, 1) := by decide +kernel
theorem dX9_saidIn_14 : decode cX9_saidIn 14 = .ok (.invokevirtual 44, 3) := by decide +kernel
theorem dX9_saidIn_17 : decode cX9_saidIn 17 = .ok (.ifCond .eq 29, 3) := by decide +kernel
theorem dX9_saidIn_20 : decode cX9_saidIn 20 = .ok (.iload_n 3, 1) := by decide +kernel
theorem dX9_saidIn_21 : decode cX9_saidIn 21 = .ok (.iconst 0, 1) := by decide +kernel
theorem dX9_saidIn_22 : decode cX9_saidIn 22 = .ok (.bipush 20, 2) := by decide +kernel
theorem dX9_saidIn_24 : decode cX9_saidIn 24 = .ok (.invokestatic 50, 3) := by decide +kernel
theorem dX9_saidIn_27 : decode cX9_saidIn 27 = .ok (.ifCond .eq 19, 3) := by decide +kernel
theorem dX9_saidIn_30 : decode cX9_saidIn 30 = .ok (.aload_n 0, 1) := by decide +kernel
theorem dX9_saidIn_31 : decode cX9_saidIn 31 = .ok (.getfield 9, 3) := by decide +kernel
theorem dX9_saidIn_34 : decode cX9_saidIn 34 = .ok (.iload_n 2, 1) := by decide +kernel
theorem dX9_saidIn_35 : decode cX9_saidIn 35 = .ok (.bipush 21, 2) := by decide +kernel
theorem dX9_saidIn_37 : decode cX9_saidIn 37 = .ok (.imul, 1) := by decide +kernel
theorem dX9_saidIn_38 : decode cX9_saidIn 38 = .ok (.iload_n 3, 1) := by decide +kernel
theorem dX9_saidIn_39 : decode cX9_saidIn 39 = .ok (.iadd, 1) := by decide +kernel
theorem dX9_saidIn_40 : decode cX9_saidIn 40 = .ok (.invokestatic 40, 3) := by decide +kernel
theorem dX9_saidIn_43 : decode cX9_saidIn 43 = .ok (.goto 4, 3) := by decide +kernel
theorem dX9_saidIn_46 : decode cX9_saidIn 46 = .ok (.lconst 0, 1) := by decide +kernel
theorem dX9_saidIn_47 : decode cX9_saidIn 47 = .ok (.lreturn, 1) := by decide +kernel
theorem dX9_find_0 : decode cX9_find 0 = .ok (.aload_n 0, 1) := by decide +kernel
theorem dX9_find_1 : decode cX9_find 1 = .ok (.getfield 9, 3) := by decide +kernel
theorem dX9_find_4 : decode cX9_find 4 = .ok (.lconst 0, 1) := by decide +kernel
theorem dX9_find_5 : decode cX9_find 5 = .ok (.invokestatic 54, 3) := by decide +kernel
theorem dX9_find_8 : decode cX9_find 8 = .ok (.aload_n 0, 1) := by decide +kernel
theorem dX9_find_9 : decode cX9_find 9 = .ok (.getfield 15, 3) := by decide +kernel
theorem dX9_find_12 : decode cX9_find 12 = .ok (.lconst 0, 1) := by decide +kernel
theorem dX9_find_13 : decode cX9_find 13 = .ok (.invokestatic 54, 3) := by decide +kernel
theorem dX9_find_16 : decode cX9_find 16 = .ok (.aload_n 0, 1) := by decide +kernel
theorem dX9_find_17 : decode cX9_find 17 = .ok (.getfield 18, 3) := by decide +kernel
theorem dX9_find_20 : decode cX9_find 20 = .ok (.lconst 0, 1) := by decide +kernel
theorem dX9_find_21 : decode cX9_find 21 = .ok (.invokestatic 54, 3) := by decide +kernel
theorem dX9_find_24 : decode cX9_find 24 = .ok (.aload_n 0, 1) := by decide +kernel
theorem dX9_find_25 : decode cX9_find 25 = .ok (.getfield 18, 3) := by decide +kernel
theorem dX9_find_28 : decode cX9_find 28 = .ok (.bipush 10, 2) := by decide +kernel
theorem dX9_find_30 : decode cX9_find 30 = .ok (.ldc2_w 60, 3) := by decide +kernel
theorem dX9_find_33 : decode cX9_find 33 = .ok (.invokestatic 62, 3) := by decide +kernel
theorem dX9_find_36 : decode cX9_find 36 = .ok (.iconst 0, 1) := by decide +kernel
theorem dX9_find_37 : decode cX9_find 37 = .ok (.istore_n 1, 1) := by decide +kernel
theorem dX9_find_38 : decode cX9_find 38 = .ok (.iconst 0, 1) := by decide +kernel
theorem dX9_find_39 : decode cX9_find 39 = .ok (.istore_n 2, 1) := by decide +kernel
theorem dX9_find_40 : decode cX9_find 40 = .ok (.iload_n 2, 1) := by decide +kernel
theorem dX9_find_41 : decode cX9_find 41 = .ok (.aload_n 0, 1) := by decide +kernel
theorem dX9_find_42 : decode cX9_find 42 = .ok (.getfield 24, 3) := by decide +kernel
theorem dX9_find_45 : decode cX9_find 45 = .ok (.getfield 66, 3) := by decide +kernel
theorem dX9_find_48 : decode cX9_find 48 = .ok (.if_icmp .ge 94, 3) := by decide +kernel
theorem dX9_find_51 : decode cX9_find 51 = .ok (.aload_n 0, 1) := by decide +kernel
theorem dX9_find_52 : decode cX9_find 52 = .ok (.getfield 21, 3) := by decide +kernel
theorem dX9_find_55 : decode cX9_find 55 = .ok (.lconst 0, 1) := by decide +kernel
theorem dX9_find_56 : decode cX9_find 56 = .ok (.invokestatic 54, 3) := by decide +kernel
theorem dX9_find_59 : decode cX9_find 59 = .ok (.bipush 10, 2) := by decide +kernel
theorem dX9_find_61 : decode cX9_find 61 = .ok (.iload_n 1, 1) := by decide +kernel
theorem dX9_find_62 : decode cX9_find 62 = .ok (.isub, 1) := by decide +kernel
theorem dX9_find_63 : decode cX9_find 63 = .ok (.istore_n 3, 1) := by decide +kernel
theorem dX9_find_64 : decode cX9_find 64 = .ok (.iload_n 3, 1) := by decide +kernel
theorem dX9_find_65 : decode cX9_find 65 = .ok (.bipush 10, 2) := by decide +kernel
theorem dX9_find_67 : decode cX9_find 67 = .ok (.iload_n 1, 1) := by decide +kernel
theorem dX9_find_68 : decode cX9_find 68 = .ok (.iadd, 1) := by decide +kernel
theorem dX9_find_69 : decode cX9_find 69 = .ok (.if_icmp .gt 28, 3) := by decide +kernel
theorem dX9_find_72 : decode cX9_find 72 = .ok (.aload_n 0, 1) := by decide +kernel
theorem dX9_find_73 : decode cX9_find 73 = .ok (.getfield 18, 3) := by decide +kernel
theorem dX9_find_76 : decode cX9_find 76 = .ok (.iload_n 3, 1) := by decide +kernel
theorem dX9_find_77 : decode cX9_find 77 = .ok (.invokestatic 40, 3) := by decide +kernel
theorem dX9_find_80 : decode cX9_find 80 = .ok (.lconst 0, 1) := by decide +kernel
theorem dX9_find_81 : decode cX9_find 81 = .ok (.lcmp, 1) := by decide +kernel
theorem dX9_find_82 : decode cX9_find 82 = .ok (.ifCond .eq 9, 3) := by decide +kernel
theorem dX9_find_85 : decode cX9_find 85 = .ok (.aload_n 0, 1) := by decide +kernel
theorem dX9_find_86 : decode cX9_find 86 = .ok (.iload_n 2, 1) := by decide +kernel
theorem dX9_find_87 : decode cX9_find 87 = .ok (.iload_n 3, 1) := by decide +kernel
theorem dX9_find_88 : decode cX9_find 88 = .ok (.invokevirtual 70, 3) := by decide +kernel
theorem dX9_find_91 : decode cX9_find 91 = .ok (.iinc 3 1, 3) := by decide +kernel
theorem dX9_find_94 : decode cX9_find 94 = .ok (.goto (-30), 3) := by decide +kernel
theorem dX9_find_97 : decode cX9_find 97 = .ok (.aload_n 0, 1) := by decide +kernel
theorem dX9_find_98 : decode cX9_find 98 = .ok (.getfield 21, 3) := by decide +kernel
theorem dX9_find_101 : decode cX9_find 101 = .ok (.iconst 0, 1) := by decide +kernel
theorem dX9_find_102 : decode cX9_find 102 = .ok (.aload_n 0, 1) := by decide +kernel
theorem dX9_find_103 : decode cX9_find 103 = .ok (.getfield 18, 3) := by decide +kernel
theorem dX9_find_106 : decode cX9_find 106 = .ok (.iconst 0, 1) := by decide +kernel
theorem dX9_find_107 : decode cX9_find 107 = .ok (.bipush 21, 2) := by decide +kernel
theorem dX9_find_109 : decode cX9_find 109 = .ok (.invokestatic 74, 3) := by decide +kernel
theorem dX9_find_112 : decode cX9_find 112 = .ok (.aload_n 0, 1) := by decide +kernel
theorem dX9_find_113 : decode cX9_find 113 = .ok (.getfield 24, 3) := by decide +kernel
theorem dX9_find_116 : decode cX9_find 116 = .ok (.iload_n 2, 1) := by decide +kernel
theorem dX9_find_117 : decode cX9_find 117 = .ok (.invokevirtual 80, 3) := by decide +kernel
theorem dX9_find_120 : decode cX9_find 120 = .ok (.ifCond .eq 14, 3) := by decide +kernel
theorem dX9_find_123 : decode cX9_find 123 = .ok (.bipush 10, 2) := by decide +kernel
theorem dX9_find_125 : decode cX9_find 125 = .ok (.iload_n 1, 1) := by decide +kernel
theorem dX9_find_126 : decode cX9_find 126 = .ok (.iconst 1, 1) := by decide +kernel
theorem dX9_find_127 : decode cX9_find 127 = .ok (.iadd, 1) := by decide +kernel
theorem dX9_find_128 : decode cX9_find 128 = .ok (.invokestatic 83, 3) := by decide +kernel
theorem dX9_find_131 : decode cX9_find 131 = .ok (.goto 4, 3) := by decide +kernel
theorem dX9_find_134 : decode cX9_find 134 = .ok (.iload_n 1, 1) := by decide +kernel
theorem dX9_find_135 : decode cX9_find 135 = .ok (.istore_n 1, 1) := by decide +kernel
theorem dX9_find_136 : decode cX9_find 136 = .ok (.iinc 2 1, 3) := by decide +kernel
theorem dX9_find_139 : decode cX9_find 139 = .ok (.goto (-99), 3) := by decide +kernel
theorem dX9_find_142 : decode cX9_find 142 = .ok (.return_, 1) := by decide +kernel
theorem dX9_pass_0 : decode cX9_pass 0 = .ok (.aload_n 0, 1) := by decide +kernel
theorem dX9_pass_1 : decode cX9_pass 1 = .ok (.getfield 24, 3) := by decide +kernel
theorem dX9_pass_4 : decode cX9_pass 4 = .ok (.iload_n 1, 1) := by decide +kernel
theorem dX9_pass_5 : decode cX9_pass 5 = .ok (.invokevirtual 89, 3) := by decide +kernel
theorem dX9_pass_8 : decode cX9_pass 8 = .ok (.istore_n 3, 1) := by decide +kernel
theorem dX9_pass_9 : decode cX9_pass 9 = .ok (.iload_n 1, 1) := by decide +kernel
theorem dX9_pass_10 : decode cX9_pass 10 = .ok (.iload_n 2, 1) := by decide +kernel
theorem dX9_pass_11 : decode cX9_pass 11 = .ok (.iadd, 1) := by decide +kernel
theorem dX9_pass_12 : decode cX9_pass 12 = .ok (.bipush 10, 2) := by decide +kernel
theorem dX9_pass_14 : decode cX9_pass 14 = .ok (.isub, 1) := by decide +kernel
theorem dX9_pass_15 : decode cX9_pass 15 = .ok (.iconst 1, 1) := by decide +kernel
theorem dX9_pass_16 : decode cX9_pass 16 = .ok (.iadd, 1) := by decide +kernel
theorem dX9_pass_17 : decode cX9_pass 17 = .ok (.istore 4, 2) := by decide +kernel
theorem dX9_pass_19 : decode cX9_pass 19 = .ok (.aload_n 0, 1) := by decide +kernel
theorem dX9_pass_20 : decode cX9_pass 20 = .ok (.getfield 18, 3) := by decide +kernel
theorem dX9_pass_23 : decode cX9_pass 23 = .ok (.iload_n 2, 1) := by decide +kernel
theorem dX9_pass_24 : decode cX9_pass 24 = .ok (.invokestatic 40, 3) := by decide +kernel
theorem dX9_pass_27 : decode cX9_pass 27 = .ok (.lstore 5, 2) := by decide +kernel
theorem dX9_pass_29 : decode cX9_pass 29 = .ok (.aload_n 0, 1) := by decide +kernel
theorem dX9_pass_30 : decode cX9_pass 30 = .ok (.getfield 32, 3) := by decide +kernel
theorem dX9_pass_33 : decode cX9_pass 33 = .ok (.iload 4, 2) := by decide +kernel
theorem dX9_pass_35 : decode cX9_pass 35 = .ok (.iload_n 1, 1) := by decide +kernel
theorem dX9_pass_36 : decode cX9_pass 36 = .ok (.iload_n 3, 1) := by decide +kernel
theorem dX9_pass_37 : decode cX9_pass 37 = .ok (.aload_n 0, 1) := by decide +kernel
theorem dX9_pass_38 : decode cX9_pass 38 = .ok (.getfield 36, 3) := by decide +kernel
theorem dX9_pass_41 : decode cX9_pass 41 = .ok (.invokevirtual 93, 3) := by decide +kernel
theorem dX9_pass_44 : decode cX9_pass 44 = .ok (.lstore 7, 2) := by decide +kernel
theorem dX9_pass_46 : decode cX9_pass 46 = .ok (.aload_n 0, 1) := by decide +kernel
theorem dX9_pass_47 : decode cX9_pass 47 = .ok (.getfield 24, 3) := by decide +kernel
theorem dX9_pass_50 : decode cX9_pass 50 = .ok (.iload_n 1, 1) := by decide +kernel
theorem dX9_pass_51 : decode cX9_pass 51 = .ok (.invokevirtual 80, 3) := by decide +kernel
theorem dX9_pass_54 : decode cX9_pass 54 = .ok (.ifCond .ne 28, 3) := by decide +kernel
theorem dX9_pass_57 : decode cX9_pass 57 = .ok (.aload_n 0, 1) := by decide +kernel
theorem dX9_pass_58 : decode cX9_pass 58 = .ok (.getfield 21, 3) := by decide +kernel
theorem dX9_pass_61 : decode cX9_pass 61 = .ok (.iload_n 2, 1) := by decide +kernel
theorem dX9_pass_62 : decode cX9_pass 62 = .ok (.lload 5, 2) := by decide +kernel
theorem dX9_pass_64 : decode cX9_pass 64 = .ok (.lload 7, 2) := by decide +kernel
theorem dX9_pass_66 : decode cX9_pass 66 = .ok (.lmul, 1) := by decide +kernel
theorem dX9_pass_67 : decode cX9_pass 67 = .ok (.invokestatic 62, 3) := by decide +kernel
theorem dX9_pass_70 : decode cX9_pass 70 = .ok (.aload_n 0, 1) := by decide +kernel
theorem dX9_pass_71 : decode cX9_pass 71 = .ok (.iload_n 1, 1) := by decide +kernel
theorem dX9_pass_72 : decode cX9_pass 72 = .ok (.iload_n 2, 1) := by decide +kernel
theorem dX9_pass_73 : decode cX9_pass 73 = .ok (.lload 5, 2) := by decide +kernel
theorem dX9_pass_75 : decode cX9_pass 75 = .ok (.lload 7, 2) := by decide +kernel
theorem dX9_pass_77 : decode cX9_pass 77 = .ok (.lmul, 1) := by decide +kernel
theorem dX9_pass_78 : decode cX9_pass 78 = .ok (.invokevirtual 99, 3) := by decide +kernel
theorem dX9_pass_81 : decode cX9_pass 81 = .ok (.return_, 1) := by decide +kernel
theorem dX9_pass_82 : decode cX9_pass 82 = .ok (.aload_n 0, 1) := by decide +kernel
theorem dX9_pass_83 : decode cX9_pass 83 = .ok (.getfield 24, 3) := by decide +kernel
theorem dX9_pass_86 : decode cX9_pass 86 = .ok (.iload_n 1, 1) := by decide +kernel
theorem dX9_pass_87 : decode cX9_pass 87 = .ok (.invokevirtual 103, 3) := by decide +kernel
theorem dX9_pass_90 : decode cX9_pass 90 = .ok (.istore 9, 2) := by decide +kernel
theorem dX9_pass_92 : decode cX9_pass 92 = .ok (.aload_n 0, 1) := by decide +kernel
theorem dX9_pass_93 : decode cX9_pass 93 = .ok (.getfield 28, 3) := by decide +kernel
theorem dX9_pass_96 : decode cX9_pass 96 = .ok (.iload 9, 2) := by decide +kernel
theorem dX9_pass_98 : decode cX9_pass 98 = .ok (.invokevirtual 106, 3) := by decide +kernel
theorem dX9_pass_101 : decode cX9_pass 101 = .ok (.istore 10, 2) := by decide +kernel
theorem dX9_pass_103 : decode cX9_pass 103 = .ok (.aload_n 0, 1) := by decide +kernel
theorem dX9_pass_104 : decode cX9_pass 104 = .ok (.getfield 28, 3) := by decide +kernel
theorem dX9_pass_107 : decode cX9_pass 107 = .ok (.iload 9, 2) := by decide +kernel
theorem dX9_pass_109 : decode cX9_pass 109 = .ok (.invokevirtual 111, 3) := by decide +kernel
theorem dX9_pass_112 : decode cX9_pass 112 = .ok (.istore 11, 2) := by decide +kernel
theorem dX9_pass_114 : decode cX9_pass 114 = .ok (.lload 5, 2) := by decide +kernel
theorem dX9_pass_116 : decode cX9_pass 116 = .ok (.ldc2_w 114, 3) := by decide +kernel
theorem dX9_pass_119 : decode cX9_pass 119 = .ok (.ldiv, 1) := by decide +kernel
theorem dX9_pass_120 : decode cX9_pass 120 = .ok (.lstore 12, 2) := by decide +kernel
theorem dX9_pass_122 : decode cX9_pass 122 = .ok (.lload 12, 2) := by decide +kernel
theorem dX9_pass_124 : decode cX9_pass 124 = .ok (.bipush 16, 2) := by decide +kernel
theorem dX9_pass_126 : decode cX9_pass 126 = .ok (.iload 10, 2) := by decide +kernel
theorem dX9_pass_128 : decode cX9_pass 128 = .ok (.isub, 1) := by decide +kernel
theorem dX9_pass_129 : decode cX9_pass 129 = .ok (.iload 11, 2) := by decide +kernel
theorem dX9_pass_131 : decode cX9_pass 131 = .ok (.isub, 1) := by decide +kernel
theorem dX9_pass_132 : decode cX9_pass 132 = .ok (.i2l, 1) := by decide +kernel
theorem dX9_pass_133 : decode cX9_pass 133 = .ok (.lmul, 1) := by decide +kernel
theorem dX9_pass_134 : decode cX9_pass 134 = .ok (.lload 7, 2) := by decide +kernel
theorem dX9_pass_136 : decode cX9_pass 136 = .ok (.lmul, 1) := by decide +kernel
theorem dX9_pass_137 : decode cX9_pass 137 = .ok (.lstore 14, 2) := by decide +kernel
theorem dX9_pass_139 : decode cX9_pass 139 = .ok (.lload 12, 2) := by decide +kernel
theorem dX9_pass_141 : decode cX9_pass 141 = .ok (.iload 11, 2) := by decide +kernel
theorem dX9_pass_143 : decode cX9_pass 143 = .ok (.i2l, 1) := by decide +kernel
theorem dX9_pass_144 : decode cX9_pass 144 = .ok (.lmul, 1) := by decide +kernel
theorem dX9_pass_145 : decode cX9_pass 145 = .ok (.lload 7, 2) := by decide +kernel
theorem dX9_pass_147 : decode cX9_pass 147 = .ok (.lmul, 1) := by decide +kernel
theorem dX9_pass_148 : decode cX9_pass 148 = .ok (.lstore 16, 2) := by decide +kernel
theorem dX9_pass_150 : decode cX9_pass 150 = .ok (.lload 16, 2) := by decide +kernel
theorem dX9_pass_152 : decode cX9_pass 152 = .ok (.aload_n 0, 1) := by decide +kernel
theorem dX9_pass_153 : decode cX9_pass 153 = .ok (.getfield 32, 3) := by decide +kernel
theorem dX9_pass_156 : decode cX9_pass 156 = .ok (.iload 4, 2) := by decide +kernel
theorem dX9_pass_158 : decode cX9_pass 158 = .ok (.iconst 1, 1) := by decide +kernel
theorem dX9_pass_159 : decode cX9_pass 159 = .ok (.iadd, 1) := by decide +kernel
theorem dX9_pass_160 : decode cX9_pass 160 = .ok (.iload_n 1, 1) := by decide +kernel
theorem dX9_pass_161 : decode cX9_pass 161 = .ok (.iload_n 3, 1) := by decide +kernel
theorem dX9_pass_162 : decode cX9_pass 162 = .ok (.aload_n 0, 1) := by decide +kernel
theorem dX9_pass_163 : decode cX9_pass 163 = .ok (.getfield 36, 3) := by decide +kernel
theorem dX9_pass_166 : decode cX9_pass 166 = .ok (.invokevirtual 93, 3) := by decide +kernel
theorem dX9_pass_169 : decode cX9_pass 169 = .ok (.lmul, 1) := by decide +kernel
theorem dX9_pass_170 : decode cX9_pass 170 = .ok (.lstore 18, 2) := by decide +kernel
theorem dX9_pass_172 : decode cX9_pass 172 = .ok (.aload_n 0, 1) := by decide +kernel
theorem dX9_pass_173 : decode cX9_pass 173 = .ok (.getfield 21, 3) := by decide +kernel
theorem dX9_pass_176 : decode cX9_pass 176 = .ok (.iload_n 2, 1) := by decide +kernel
theorem dX9_pass_177 : decode cX9_pass 177 = .ok (.iconst 1, 1) := by decide +kernel
theorem dX9_pass_178 : decode cX9_pass 178 = .ok (.isub, 1) := by decide +kernel
theorem dX9_pass_179 : decode cX9_pass 179 = .ok (.lload 12, 2) := by decide +kernel
theorem dX9_pass_181 : decode cX9_pass 181 = .ok (.iload 10, 2) := by decide +kernel
theorem dX9_pass_183 : decode cX9_pass 183 = .ok (.i2l, 1) := by decide +kernel
theorem dX9_pass_184 : decode cX9_pass 184 = .ok (.lmul, 1) := by decide +kernel
theorem dX9_pass_185 : decode cX9_pass 185 = .ok (.invokestatic 62, 3) := by decide +kernel
theorem dX9_pass_188 : decode cX9_pass 188 = .ok (.aload_n 0, 1) := by decide +kernel
theorem dX9_pass_189 : decode cX9_pass 189 = .ok (.getfield 21, 3) := by decide +kernel
theorem dX9_pass_192 : decode cX9_pass 192 = .ok (.iload_n 2, 1) := by decide +kernel
theorem dX9_pass_193 : decode cX9_pass 193 = .ok (.lload 14, 2) := by decide +kernel
theorem dX9_pass_195 : decode cX9_pass 195 = .ok (.invokestatic 62, 3) := by decide +kernel
theorem dX9_pass_198 : decode cX9_pass 198 = .ok (.aload_n 0, 1) := by decide +kernel
theorem dX9_pass_199 : decode cX9_pass 199 = .ok (.getfield 21, 3) := by decide +kernel
theorem dX9_pass_202 : decode cX9_pass 202 = .ok (.iload_n 2, 1) := by decide +kernel
theorem dX9_pass_203 : decode cX9_pass 203 = .ok (.iconst 1, 1) := by decide +kernel
theorem dX9_pass_204 : decode cX9_pass 204 = .ok (.iadd, 1) := by decide +kernel
theorem dX9_pass_205 : decode cX9_pass 205 = .ok (.lload 18, 2) := by decide +kernel
theorem dX9_pass_207 : decode cX9_pass 207 = .ok (.invokestatic 62, 3) := by decide +kernel
theorem dX9_pass_210 : decode cX9_pass 210 = .ok (.aload_n 0, 1) := by decide +kernel
theorem dX9_pass_211 : decode cX9_pass 211 = .ok (.iload_n 1, 1) := by decide +kernel
theorem dX9_pass_212 : decode cX9_pass 212 = .ok (.iload_n 2, 1) := by decide +kernel
theorem dX9_pass_213 : decode cX9_pass 213 = .ok (.lload 14, 2) := by decide +kernel
theorem dX9_pass_215 : decode cX9_pass 215 = .ok (.lload 16, 2) := by decide +kernel
theorem dX9_pass_217 : decode cX9_pass 217 = .ok (.ladd, 1) := by decide +kernel
theorem dX9_pass_218 : decode cX9_pass 218 = .ok (.invokevirtual 99, 3) := by decide +kernel
theorem dX9_pass_221 : decode cX9_pass 221 = .ok (.aload_n 0, 1) := by decide +kernel
theorem dX9_pass_222 : decode cX9_pass 222 = .ok (.iload_n 1, 1) := by decide +kernel
theorem dX9_pass_223 : decode cX9_pass 223 = .ok (.iload_n 2, 1) := by decide +kernel
theorem dX9_pass_224 : decode cX9_pass 224 = .ok (.iconst 1, 1) := by decide +kernel
theorem dX9_pass_225 : decode cX9_pass 225 = .ok (.iadd, 1) := by decide +kernel
theorem dX9_pass_226 : decode cX9_pass 226 = .ok (.lload 18, 2) := by decide +kernel
theorem dX9_pass_228 : decode cX9_pass 228 = .ok (.invokevirtual 99, 3) := by decide +kernel
theorem dX9_pass_231 : decode cX9_pass 231 = .ok (.return_, 1) := by decide +kernel
theorem dX9_addSaid_0 : decode cX9_addSaid 0 = .ok (.iload_n 2, 1) := by decide +kernel
theorem dX9_addSaid_1 : decode cX9_addSaid 1 = .ok (.iconst 0, 1) := by decide +kernel
theorem dX9_addSaid_2 : decode cX9_addSaid 2 = .ok (.bipush 20, 2) := by decide +kernel
theorem dX9_addSaid_4 : decode cX9_addSaid 4 = .ok (.invokestatic 50, 3) := by decide +kernel
theorem dX9_addSaid_7 : decode cX9_addSaid 7 = .ok (.ifCond .eq 33, 3) := by decide +kernel
theorem dX9_addSaid_10 : decode cX9_addSaid 10 = .ok (.aload_n 0, 1) := by decide +kernel
theorem dX9_addSaid_11 : decode cX9_addSaid 11 = .ok (.getfield 9, 3) := by decide +kernel
theorem dX9_addSaid_14 : decode cX9_addSaid 14 = .ok (.iload_n 1, 1) := by decide +kernel
theorem dX9_addSaid_15 : decode cX9_addSaid 15 = .ok (.bipush 21, 2) := by decide +kernel
theorem dX9_addSaid_17 : decode cX9_addSaid 17 = .ok (.imul, 1) := by decide +kernel
theorem dX9_addSaid_18 : decode cX9_addSaid 18 = .ok (.iload_n 2, 1) := by decide +kernel
theorem dX9_addSaid_19 : decode cX9_addSaid 19 = .ok (.iadd, 1) := by decide +kernel
theorem dX9_addSaid_20 : decode cX9_addSaid 20 = .ok (.lload_n 3, 1) := by decide +kernel
theorem dX9_addSaid_21 : decode cX9_addSaid 21 = .ok (.invokestatic 62, 3) := by decide +kernel
theorem dX9_addSaid_24 : decode cX9_addSaid 24 = .ok (.aload_n 0, 1) := by decide +kernel
theorem dX9_addSaid_25 : decode cX9_addSaid 25 = .ok (.getfield 15, 3) := by decide +kernel
theorem dX9_addSaid_28 : decode cX9_addSaid 28 = .ok (.iload_n 1, 1) := by decide +kernel
theorem dX9_addSaid_29 : decode cX9_addSaid 29 = .ok (.iload_n 2, 1) := by decide +kernel
theorem dX9_addSaid_30 : decode cX9_addSaid 30 = .ok (.iadd, 1) := by decide +kernel
theorem dX9_addSaid_31 : decode cX9_addSaid 31 = .ok (.bipush 10, 2) := by decide +kernel
theorem dX9_addSaid_33 : decode cX9_addSaid 33 = .ok (.isub, 1) := by decide +kernel
theorem dX9_addSaid_34 : decode cX9_addSaid 34 = .ok (.iconst 1, 1) := by decide +kernel
theorem dX9_addSaid_35 : decode cX9_addSaid 35 = .ok (.iadd, 1) := by decide +kernel
theorem dX9_addSaid_36 : decode cX9_addSaid 36 = .ok (.lload_n 3, 1) := by decide +kernel
theorem dX9_addSaid_37 : decode cX9_addSaid 37 = .ok (.invokestatic 62, 3) := by decide +kernel
theorem dX9_addSaid_40 : decode cX9_addSaid 40 = .ok (.return_, 1) := by decide +kernel
theorem dX10_init_0 : decode cX10_init 0 = .ok (.aload_n 0, 1) := by decide +kernel
theorem dX10_init_1 : decode cX10_init 1 = .ok (.invokespecial 3, 3) := by decide +kernel
theorem dX10_init_4 : decode cX10_init 4 = .ok (.aload_n 0, 1) := by decide +kernel
theorem dX10_init_5 : decode cX10_init 5 = .ok (.new 9, 3) := by decide +kernel
theorem dX10_init_8 : decode cX10_init 8 = .ok (.dup, 1) := by decide +kernel
theorem dX10_init_9 : decode cX10_init 9 = .ok (.invokespecial 11, 3) := by decide +kernel
theorem dX10_init_12 : decode cX10_init 12 = .ok (.putfield 12, 3) := by decide +kernel
theorem dX10_init_15 : decode cX10_init 15 = .ok (.aload_n 0, 1) := by decide +kernel
theorem dX10_init_16 : decode cX10_init 16 = .ok (.new 16, 3) := by decide +kernel
theorem dX10_init_19 : decode cX10_init 19 = .ok (.dup, 1) := by decide +kernel
theorem dX10_init_20 : decode cX10_init 20 = .ok (.invokespecial 18, 3) := by decide +kernel
theorem dX10_init_23 : decode cX10_init 23 = .ok (.putfield 19, 3) := by decide +kernel
theorem dX10_init_26 : decode cX10_init 26 = .ok (.aload_n 0, 1) := by decide +kernel
theorem dX10_init_27 : decode cX10_init 27 = .ok (.new 23, 3) := by decide +kernel
theorem dX10_init_30 : decode cX10_init 30 = .ok (.dup, 1) := by decide +kernel
theorem dX10_init_31 : decode cX10_init 31 = .ok (.invokespecial 25, 3) := by decide +kernel
theorem dX10_init_34 : decode cX10_init 34 = .ok (.putfield 26, 3) := by decide +kernel
theorem dX10_init_37 : decode cX10_init 37 = .ok (.aload_n 0, 1) := by decide +kernel
theorem dX10_init_38 : decode cX10_init 38 = .ok (.new 23, 3) := by decide +kernel
theorem dX10_init_41 : decode cX10_init 41 = .ok (.dup, 1) := by decide +kernel
theorem dX10_init_42 : decode cX10_init 42 = .ok (.invokespecial 25, 3) := by decide +kernel
theorem dX10_init_45 : decode cX10_init 45 = .ok (.putfield 30, 3) := by decide +kernel
theorem dX10_init_48 : decode cX10_init 48 = .ok (.aload_n 0, 1) := by decide +kernel
theorem dX10_init_49 : decode cX10_init 49 = .ok (.new 33, 3) := by decide +kernel
theorem dX10_init_52 : decode cX10_init 52 = .ok (.dup, 1) := by decide +kernel
theorem dX10_init_53 : decode cX10_init 53 = .ok (.invokespecial 35, 3) := by decide +kernel
theorem dX10_init_56 : decode cX10_init 56 = .ok (.putfield 36, 3) := by decide +kernel
theorem dX10_init_59 : decode cX10_init 59 = .ok (.aload_n 0, 1) := by decide +kernel
theorem dX10_init_60 : decode cX10_init 60 = .ok (.new 40, 3) := by decide +kernel
theorem dX10_init_63 : decode cX10_init 63 = .ok (.dup, 1) := by decide +kernel
theorem dX10_init_64 : decode cX10_init 64 = .ok (.aload_n 0, 1) := by decide +kernel
theorem dX10_init_65 : decode cX10_init 65 = .ok (.getfield 12, 3) := by decide +kernel
theorem dX10_init_68 : decode cX10_init 68 = .ok (.aload_n 0, 1) := by decide +kernel
theorem dX10_init_69 : decode cX10_init 69 = .ok (.getfield 26, 3) := by decide +kernel
theorem dX10_init_72 : decode cX10_init 72 = .ok (.aload_n 0, 1) := by decide +kernel
theorem dX10_init_73 : decode cX10_init 73 = .ok (.getfield 36, 3) := by decide +kernel
theorem dX10_init_76 : decode cX10_init 76 = .ok (.aload_n 0, 1) := by decide +kernel
theorem dX10_init_77 : decode cX10_init 77 = .ok (.getfield 19, 3) := by decide +kernel
theorem dX10_init_80 : decode cX10_init 80 = .ok (.invokespecial 42, 3) := by decide +kernel
theorem dX10_init_83 : decode cX10_init 83 = .ok (.putfield 45, 3) := by decide +kernel
theorem dX10_init_86 : decode cX10_init 86 = .ok (.aload_n 0, 1) := by decide +kernel
theorem dX10_init_87 : decode cX10_init 87 = .ok (.new 49, 3) := by decide +kernel
theorem dX10_init_90 : decode cX10_init 90 = .ok (.dup, 1) := by decide +kernel
theorem dX10_init_91 : decode cX10_init 91 = .ok (.aload_n 0, 1) := by decide +kernel
theorem dX10_init_92 : decode cX10_init 92 = .ok (.getfield 12, 3) := by decide +kernel
theorem dX10_init_95 : decode cX10_init 95 = .ok (.invokespecial 51, 3) := by decide +kernel
theorem dX10_init_98 : decode cX10_init 98 = .ok (.putfield 54, 3) := by decide +kernel
theorem dX10_init_101 : decode cX10_init 101 = .ok (.aload_n 0, 1) := by decide +kernel
theorem dX10_init_102 : decode cX10_init 102 = .ok (.new 58, 3) := by decide +kernel
theorem dX10_init_105 : decode cX10_init 105 = .ok (.dup, 1) := by decide +kernel
theorem dX10_init_106 : decode cX10_init 106 = .ok (.invokespecial 60, 3) := by decide +kernel
theorem dX10_init_109 : decode cX10_init 109 = .ok (.putfield 61, 3) := by decide +kernel
theorem dX10_init_112 : decode cX10_init 112 = .ok (.aload_n 0, 1) := by decide +kernel
theorem dX10_init_113 : decode cX10_init 113 = .ok (.new 65, 3) := by decide +kernel
theorem dX10_init_116 : decode cX10_init 116 = .ok (.dup, 1) := by decide +kernel
theorem dX10_init_117 : decode cX10_init 117 = .ok (.invokespecial 67, 3) := by decide +kernel
theorem dX10_init_120 : decode cX10_init 120 = .ok (.putfield 68, 3) := by decide +kernel
theorem dX10_init_123 : decode cX10_init 123 = .ok (.aload_n 0, 1) := by decide +kernel
theorem dX10_init_124 : decode cX10_init 124 = .ok (.new 72, 3) := by decide +kernel
theorem dX10_init_127 : decode cX10_init 127 = .ok (.dup, 1) := by decide +kernel
theorem dX10_init_128 : decode cX10_init 128 = .ok (.invokespecial 74, 3) := by decide +kernel
theorem dX10_init_131 : decode cX10_init 131 = .ok (.putfield 75, 3) := by decide +kernel
theorem dX10_init_134 : decode cX10_init 134 = .ok (.aload_n 0, 1) := by decide +kernel
theorem dX10_init_135 : decode cX10_init 135 = .ok (.iconst 4, 1) := by decide +kernel
theorem dX10_init_136 : decode cX10_init 136 = .ok (.anewarray 79, 3) := by decide +kernel
theorem dX10_init_139 : decode cX10_init 139 = .ok (.putfield 81, 3) := by decide +kernel
theorem dX10_init_142 : decode cX10_init 142 = .ok (.iconst 0, 1) := by decide +kernel
theorem dX10_init_143 : decode cX10_init 143 = .ok (.istore_n 1, 1) := by decide +kernel
theorem dX10_init_144 : decode cX10_init 144 = .ok (.iload_n 1, 1) := by decide +kernel
theorem dX10_init_145 : decode cX10_init 145 = .ok (.aload_n 0, 1) := by decide +kernel
theorem dX10_init_146 : decode cX10_init 146 = .ok (.getfield 81, 3) := by decide +kernel
theorem dX10_init_149 : decode cX10_init 149 = .ok (.arraylength, 1) := by decide +kernel
theorem dX10_init_150 : decode cX10_init 150 = .ok (.if_icmp .ge 22, 3) := by decide +kernel
theorem dX10_init_153 : decode cX10_init 153 = .ok (.aload_n 0, 1) := by decide +kernel
theorem dX10_init_154 : decode cX10_init 154 = .ok (.getfield 81, 3) := by decide +kernel
theorem dX10_init_157 : decode cX10_init 157 = .ok (.iload_n 1, 1) := by decide +kernel
theorem dX10_init_158 : decode cX10_init 158 = .ok (.new 79, 3) := by decide +kernel
theorem dX10_init_161 : decode cX10_init 161 = .ok (.dup, 1) := by decide +kernel
theorem dX10_init_162 : decode cX10_init 162 = .ok (.invokespecial 85, 3) := by decide +kernel
theorem dX10_init_165 : decode cX10_init 165 = .ok (.aastore, 1) := by decide +kernel
theorem dX10_init_166 : decode cX10_init 166 = .ok (.iinc 1 1, 3) := by decide +kernel
theorem dX10_init_169 : decode cX10_init 169 = .ok (.goto (-25), 3) := by decide +kernel
theorem dX10_init_172 : decode cX10_init 172 = .ok (.aload_n 0, 1) := by decide +kernel
theorem dX10_init_173 : decode cX10_init 173 = .ok (.iconst 1, 1) := by decide +kernel
theorem dX10_init_174 : decode cX10_init 174 = .ok (.putfield 86, 3) := by decide +kernel
theorem dX10_init_177 : decode cX10_init 177 = .ok (.aload_n 0, 1) := by decide +kernel
theorem dX10_init_178 : decode cX10_init 178 = .ok (.iconst 0, 1) := by decide +kernel
theorem dX10_init_179 : decode cX10_init 179 = .ok (.putfield 90, 3) := by decide +kernel
theorem dX10_init_182 : decode cX10_init 182 = .ok (.return_, 1) := by decide +kernel
theorem dX10_type_0 : decode cX10_type 0 = .ok (.iload_n 1, 1) := by decide +kernel
theorem dX10_type_1 : decode cX10_type 1 = .ok (.iconst 0, 1) := by decide +kernel
theorem dX10_type_2 : decode cX10_type 2 = .ok (.sipush 255, 3) := by decide +kernel
theorem dX10_type_5 : decode cX10_type 5 = .ok (.invokestatic 94, 3) := by decide +kernel
theorem dX10_type_8 : decode cX10_type 8 = .ok (.ifCond .ne 6, 3) := by decide +kernel
theorem dX10_type_11 : decode cX10_type 11 = .ok (.bipush (-2), 2) := by decide +kernel
theorem dX10_type_13 : decode cX10_type 13 = .ok (.ireturn, 1) := by decide +kernel
theorem dX10_type_14 : decode cX10_type 14 = .ok (.aload_n 0, 1) := by decide +kernel
theorem dX10_type_15 : decode cX10_type 15 = .ok (.getfield 12, 3) := by decide +kernel
theorem dX10_type_18 : decode cX10_type 18 = .ok (.iload_n 1, 1) := by decide +kernel
theorem dX10_type_19 : decode cX10_type 19 = .ok (.invokevirtual 98, 3) := by decide +kernel
theorem dX10_type_22 : decode cX10_type 22 = .ok (.ifCond .ne 6, 3) := by decide +kernel
theorem dX10_type_25 : decode cX10_type 25 = .ok (.bipush (-4), 2) := by decide +kernel
theorem dX10_type_27 : decode cX10_type 27 = .ok (.ireturn, 1) := by decide +kernel
theorem dX10_type_28 : decode cX10_type 28 = .ok (.aload_n 0, 1) := by decide +kernel
theorem dX10_type_29 : decode cX10_type 29 = .ok (.iconst 1, 1) := by decide +kernel
theorem dX10_type_30 : decode cX10_type 30 = .ok (.putfield 86, 3) := by decide +kernel
theorem dX10_type_33 : decode cX10_type 33 = .ok (.aload_n 0, 1) := by decide +kernel
theorem dX10_type_34 : decode cX10_type 34 = .ok (.getfield 12, 3) := by decide +kernel
theorem dX10_type_37 : decode cX10_type 37 = .ok (.getfield 102, 3) := by decide +kernel
theorem dX10_type_40 : decode cX10_type 40 = .ok (.ireturn, 1) := by decide +kernel
theorem dX10_wipe_0 : decode cX10_wipe 0 = .ok (.aload_n 0, 1) := by decide +kernel
theorem dX10_wipe_1 : decode cX10_wipe 1 = .ok (.getfield 12, 3) := by decide +kernel
theorem dX10_wipe_4 : decode cX10_wipe 4 = .ok (.getfield 102, 3) := by decide +kernel
theorem dX10_wipe_7 : decode cX10_wipe 7 = .ok (.istore_n 1, 1) := by decide +kernel
theorem dX10_wipe_8 : decode cX10_wipe 8 = .ok (.aload_n 0, 1) := by decide +kernel
theorem dX10_wipe_9 : decode cX10_wipe 9 = .ok (.getfield 12, 3) := by decide +kernel
theorem dX10_wipe_12 : decode cX10_wipe 12 = .ok (.iload_n 1, 1) := by decide +kernel
theorem dX10_wipe_13 : decode cX10_wipe 13 = .ok (.invokevirtual 105, 3) := by decide +kernel
theorem dX10_wipe_16 : decode cX10_wipe 16 = .ok (.aload_n 0, 1) := by decide +kernel
theorem dX10_wipe_17 : decode cX10_wipe 17 = .ok (.iconst 1, 1) := by decide +kernel
theorem dX10_wipe_18 : decode cX10_wipe 18 = .ok (.putfield 86, 3) := by decide +kernel
theorem dX10_wipe_21 : decode cX10_wipe 21 = .ok (.iload_n 1, 1) := by decide +kernel
theorem dX10_wipe_22 : decode cX10_wipe 22 = .ok (.ireturn, 1) := by decide +kernel
theorem dX10_undo_0 : decode cX10_undo 0 = .ok (.aload_n 0, 1) := by decide +kernel
theorem dX10_undo_1 : decode cX10_undo 1 = .ok (.getfield 12, 3) := by decide +kernel
theorem dX10_undo_4 : decode cX10_undo 4 = .ok (.getfield 102, 3) := by decide +kernel
theorem dX10_undo_7 : decode cX10_undo 7 = .ok (.ifCond .ne 6, 3) := by decide +kernel
theorem dX10_undo_10 : decode cX10_undo 10 = .ok (.bipush (-3), 2) := by decide +kernel
theorem dX10_undo_12 : decode cX10_undo 12 = .ok (.ireturn, 1) := by decide +kernel
theorem dX10_undo_13 : decode cX10_undo 13 = .ok (.aload_n 0, 1) := by decide +kernel
theorem dX10_undo_14 : decode cX10_undo 14 = .ok (.getfield 12, 3) := by decide +kernel
theorem dX10_undo_17 : decode cX10_undo 17 = .ok (.iconst 1, 1) := by decide +kernel
theorem dX10_undo_18 : decode cX10_undo 18 = .ok (.invokevirtual 105, 3) := by decide +kernel
theorem dX10_undo_21 : decode cX10_undo 21 = .ok (.aload_n 0, 1) := by decide +kernel
theorem dX10_undo_22 : decode cX10_undo 22 = .ok (.iconst 1, 1) := by decide +kernel
theorem dX10_undo_23 : decode cX10_undo 23 = .ok (.putfield 86, 3) := by decide +kernel
theorem dX10_undo_26 : decode cX10_undo 26 = .ok (.aload_n 0, 1) := by decide +kernel
theorem dX10_undo_27 : decode cX10_undo 27 = .ok (.getfield 12, 3) := by decide +kernel
theorem dX10_undo_30 : decode cX10_undo 30 = .ok (.getfield 102, 3) := by decide +kernel
theorem dX10_undo_33 : decode cX10_undo 33 = .ok (.ireturn, 1) := by decide +kernel
theorem dX10_fault_0 : decode cX10_fault 0 = .ok (.aload_n 0, 1) := by decide +kernel
theorem dX10_fault_1 : decode cX10_fault 1 = .ok (.getfield 12, 3) := by decide +kernel
theorem dX10_fault_4 : decode cX10_fault 4 = .ok (.getfield 109, 3) := by decide +kernel
theorem dX10_fault_7 : decode cX10_fault 7 = .ok (.ireturn, 1) := by decide +kernel
theorem dX10_bar_0 : decode cX10_bar 0 = .ok (.aload_n 0, 1) := by decide +kernel
theorem dX10_bar_1 : decode cX10_bar 1 = .ok (.getfield 12, 3) := by decide +kernel
theorem dX10_bar_4 : decode cX10_bar 4 = .ok (.iload_n 1, 1) := by decide +kernel
theorem dX10_bar_5 : decode cX10_bar 5 = .ok (.invokevirtual 112, 3) := by decide +kernel
theorem dX10_bar_8 : decode cX10_bar 8 = .ok (.ifCond .eq 12, 3) := by decide +kernel
theorem dX10_bar_11 : decode cX10_bar 11 = .ok (.iload_n 2, 1) := by decide +kernel
theorem dX10_bar_12 : decode cX10_bar 12 = .ok (.iconst 0, 1) := by decide +kernel
theorem dX10_bar_13 : decode cX10_bar 13 = .ok (.iconst 2, 1) := by decide +kernel
theorem dX10_bar_14 : decode cX10_bar 14 = .ok (.invokestatic 94, 3) := by decide +kernel
theorem dX10_bar_17 : decode cX10_bar 17 = .ok (.ifCond .ne 6, 3) := by decide +kernel
theorem dX10_bar_20 : decode cX10_bar 20 = .ok (.bipush (-2), 2) := by decide +kernel
theorem dX10_bar_22 : decode cX10_bar 22 = .ok (.ireturn, 1) := by decide +kernel
theorem dX10_bar_23 : decode cX10_bar 23 = .ok (.iload_n 2, 1) := by decide +kernel
theorem dX10_bar_24 : decode cX10_bar 24 = .ok (.ifCond .ne 12, 3) := by decide +kernel
theorem dX10_bar_27 : decode cX10_bar 27 = .ok (.aload_n 0, 1) := by decide +kernel
theorem dX10_bar_28 : decode cX10_bar 28 = .ok (.getfield 12, 3) := by decide +kernel
theorem dX10_bar_31 : decode cX10_bar 31 = .ok (.iload_n 1, 1) := by decide +kernel
theorem dX10_bar_32 : decode cX10_bar 32 = .ok (.invokevirtual 115, 3) := by decide +kernel
theorem dX10_bar_35 : decode cX10_bar 35 = .ok (.ireturn, 1) := by decide +kernel
theorem dX10_bar_36 : decode cX10_bar 36 = .ok (.iload_n 2, 1) := by decide +kernel
theorem dX10_bar_37 : decode cX10_bar 37 = .ok (.iconst 1, 1) := by decide +kernel
theorem dX10_bar_38 : decode cX10_bar 38 = .ok (.if_icmp .ne 14, 3) := by decide +kernel
theorem dX10_bar_41 : decode cX10_bar 41 = .ok (.aload_n 0, 1) := by decide +kernel
theorem dX10_bar_42 : decode cX10_bar 42 = .ok (.getfield 12, 3) := by decide +kernel
theorem dX10_bar_45 : decode cX10_bar 45 = .ok (.iload_n 1, 1) := by decide +kernel
theorem dX10_bar_46 : decode cX10_bar 46 = .ok (.invokevirtual 119, 3) := by decide +kernel
theorem dX10_bar_49 : decode cX10_bar 49 = .ok (.goto 11, 3) := by decide +kernel
theorem dX10_bar_52 : decode cX10_bar 52 = .ok (.aload_n 0, 1) := by decide +kernel
theorem dX10_bar_53 : decode cX10_bar 53 = .ok (.getfield 12, 3) := by decide +kernel
theorem dX10_bar_56 : decode cX10_bar 56 = .ok (.iload_n 1, 1) := by decide +kernel
theorem dX10_bar_57 : decode cX10_bar 57 = .ok (.invokevirtual 122, 3) := by decide +kernel
theorem dX10_bar_60 : decode cX10_bar 60 = .ok (.ireturn, 1) := by decide +kernel
theorem dX10_odds_0 : decode cX10_odds 0 = .ok (.iload_n 1, 1) := by decide +kernel
theorem dX10_odds_1 : decode cX10_odds 1 = .ok (.iconst 0, 1) := by decide +kernel
theorem dX10_odds_2 : decode cX10_odds 2 = .ok (.iconst 2, 1) := by decide +kernel
theorem dX10_odds_3 : decode cX10_odds 3 = .ok (.invokestatic 94, 3) := by decide +kernel
theorem dX10_odds_6 : decode cX10_odds 6 = .ok (.ifCond .eq 25, 3) := by decide +kernel
theorem dX10_odds_9 : decode cX10_odds 9 = .ok (.iload_n 2, 1) := by decide +kernel
theorem dX10_odds_10 : decode cX10_odds 10 = .ok (.iconst 0, 1) := by decide +kernel
theorem dX10_odds_11 : decode cX10_odds 11 = .ok (.bipush 16, 2) := by decide +kernel
theorem dX10_odds_13 : decode cX10_odds 13 = .ok (.invokestatic 94, 3) := by decide +kernel
theorem dX10_odds_16 : decode cX10_odds 16 = .ok (.ifCond .eq 15, 3) := by decide +kernel
theorem dX10_odds_19 : decode cX10_odds 19 = .ok (.iload_n 3, 1) := by decide +kernel
theorem dX10_odds_20 : decode cX10_odds 20 = .ok (.iconst 0, 1) := by decide +kernel
theorem dX10_odds_21 : decode cX10_odds 21 = .ok (.bipush 16, 2) := by decide +kernel
theorem dX10_odds_23 : decode cX10_odds 23 = .ok (.iload_n 2, 1) := by decide +kernel
theorem dX10_odds_24 : decode cX10_odds 24 = .ok (.isub, 1) := by decide +kernel
theorem dX10_odds_25 : decode cX10_odds 25 = .ok (.invokestatic 94, 3) := by decide +kernel
theorem dX10_odds_28 : decode cX10_odds 28 = .ok (.ifCond .ne 6, 3) := by decide +kernel
theorem dX10_odds_31 : decode cX10_odds 31 = .ok (.bipush (-2), 2) := by decide +kernel
theorem dX10_odds_33 : decode cX10_odds 33 = .ok (.ireturn, 1) := by decide +kernel
theorem dX10_odds_34 : decode cX10_odds 34 = .ok (.bipush 16, 2) := by decide +kernel
theorem dX10_odds_36 : decode cX10_odds 36 = .ok (.aload_n 0, 1) := by decide +kernel
theorem dX10_odds_37 : decode cX10_odds 37 = .ok (.getfield 26, 3) := by decide +kernel
theorem dX10_odds_40 : decode cX10_odds 40 = .ok (.iload_n 1, 1) := by decide +kernel
theorem dX10_odds_41 : decode cX10_odds 41 = .ok (.invokevirtual 125, 3) := by decide +kernel
theorem dX10_odds_44 : decode cX10_odds 44 = .ok (.imul, 1) := by decide +kernel
theorem dX10_odds_45 : decode cX10_odds 45 = .ok (.aload_n 0, 1) := by decide +kernel
theorem dX10_odds_46 : decode cX10_odds 46 = .ok (.getfield 26, 3) := by decide +kernel
theorem dX10_odds_49 : decode cX10_odds 49 = .ok (.iload_n 1, 1) := by decide +kernel
theorem dX10_odds_50 : decode cX10_odds 50 = .ok (.invokevirtual 128, 3) := by decide +kernel
theorem dX10_odds_53 : decode cX10_odds 53 = .ok (.iadd, 1) := by decide +kernel
theorem dX10_odds_54 : decode cX10_odds 54 = .ok (.istore 4, 2) := by decide +kernel
theorem dX10_odds_56 : decode cX10_odds 56 = .ok (.aload_n 0, 1) := by decide +kernel
theorem dX10_odds_57 : decode cX10_odds 57 = .ok (.getfield 26, 3) := by decide +kernel
theorem dX10_odds_60 : decode cX10_odds 60 = .ok (.iload_n 1, 1) := by decide +kernel
theorem dX10_odds_61 : decode cX10_odds 61 = .ok (.iload_n 2, 1) := by decide +kernel
theorem dX10_odds_62 : decode cX10_odds 62 = .ok (.iload_n 3, 1) := by decide +kernel
theorem dX10_odds_63 : decode cX10_odds 63 = .ok (.invokevirtual 131, 3) := by decide +kernel
theorem dX10_odds_66 : decode cX10_odds 66 = .ok (.aload_n 0, 1) := by decide +kernel
theorem dX10_odds_67 : decode cX10_odds 67 = .ok (.iconst 1, 1) := by decide +kernel
theorem dX10_odds_68 : decode cX10_odds 68 = .ok (.putfield 86, 3) := by decide +kernel
theorem dX10_odds_71 : decode cX10_odds 71 = .ok (.iload 4, 2) := by decide +kernel
theorem dX10_odds_73 : decode cX10_odds 73 = .ok (.ireturn, 1) := by decide +kernel
theorem dX10_set_0 : decode cX10_set 0 = .ok (.iload_n 1, 1) := by decide +kernel
theorem dX10_set_1 : decode cX10_set 1 = .ok (.iconst 0, 1) := by decide +kernel
theorem dX10_set_2 : decode cX10_set 2 = .ok (.bipush 8, 2) := by decide +kernel
theorem dX10_set_4 : decode cX10_set 4 = .ok (.invokestatic 94, 3) := by decide +kernel
theorem dX10_set_7 : decode cX10_set 7 = .ok (.ifCond .eq 15, 3) := by decide +kernel
theorem dX10_set_10 : decode cX10_set 10 = .ok (.iload_n 2, 1) := by decide +kernel
theorem dX10_set_11 : decode cX10_set 11 = .ok (.iconst 0, 1) := by decide +kernel
theorem dX10_set_12 : decode cX10_set 12 = .ok (.iload_n 1, 1) := by decide +kernel
theorem dX10_set_13 : decode cX10_set 13 = .ok (.invokestatic 135, 3) := by decide +kernel
theorem dX10_set_16 : decode cX10_set 16 = .ok (.invokestatic 94, 3) := by decide +kernel
theorem dX10_set_19 : decode cX10_set 19 = .ok (.ifCond .ne 6, 3) := by decide +kernel
theorem dX10_set_22 : decode cX10_set 22 = .ok (.bipush (-2), 2) := by decide +kernel
theorem dX10_set_24 : decode cX10_set 24 = .ok (.ireturn, 1) := by decide +kernel
theorem dX10_set_25 : decode cX10_set 25 = .ok (.aload_n 0, 1) := by decide +kernel
theorem dX10_set_26 : decode cX10_set 26 = .ok (.getfield 19, 3) := by decide +kernel
theorem dX10_set_29 : decode cX10_set 29 = .ok (.iload_n 1, 1) := by decide +kernel
theorem dX10_set_30 : decode cX10_set 30 = .ok (.invokevirtual 138, 3) := by decide +kernel
theorem dX10_set_33 : decode cX10_set 33 = .ok (.istore_n 3, 1) := by decide +kernel
theorem dX10_set_34 : decode cX10_set 34 = .ok (.aload_n 0, 1) := by decide +kernel
theorem dX10_set_35 : decode cX10_set 35 = .ok (.getfield 19, 3) := by decide +kernel
theorem dX10_set_38 : decode cX10_set 38 = .ok (.iload_n 1, 1) := by decide +kernel
theorem dX10_set_39 : decode cX10_set 39 = .ok (.iload_n 2, 1) := by decide +kernel
theorem dX10_set_40 : decode cX10_set 40 = .ok (.invokevirtual 141, 3) := by decide +kernel
theorem dX10_set_43 : decode cX10_set 43 = .ok (.aload_n 0, 1) := by decide +kernel
theorem dX10_set_44 : decode cX10_set 44 = .ok (.iconst 1, 1) := by decide +kernel
theorem dX10_set_45 : decode cX10_set 45 = .ok (.putfield 86, 3) := by decide +kernel
theorem dX10_set_48 : decode cX10_set 48 = .ok (.iload_n 3, 1) := by decide +kernel
theorem dX10_set_49 : decode cX10_set 49 = .ok (.ireturn, 1) := by decide +kernel
theorem dX10_read_0 : decode cX10_read 0 = .ok (.aload_n 0, 1) := by decide +kernel
theorem dX10_read_1 : decode cX10_read 1 = .ok (.iload_n 1, 1) := by decide +kernel
theorem dX10_read_2 : decode cX10_read 2 = .ok (.invokevirtual 144, 3) := by decide +kernel
theorem dX10_read_5 : decode cX10_read 5 = .ok (.astore_n 2, 1) := by decide +kernel
theorem dX10_read_6 : decode cX10_read 6 = .ok (.aload_n 2, 1) := by decide +kernel
theorem dX10_read_7 : decode cX10_read 7 = .ok (.ifnonnull 6, 3) := by decide +kernel
theorem dX10_read_10 : decode cX10_read 10 = .ok (.bipush (-2), 2) := by decide +kernel
theorem dX10_read_12 : decode cX10_read 12 = .ok (.ireturn, 1) := by decide +kernel
theorem dX10_read_13 : decode cX10_read 13 = .ok (.aload_n 2, 1) := by decide +kernel
theorem dX10_read_14 : decode cX10_read 14 = .ok (.getfield 148, 3) := by decide +kernel
theorem dX10_read_17 : decode cX10_read 17 = .ok (.ifCond .eq 9, 3) := by decide +kernel
theorem dX10_read_20 : decode cX10_read 20 = .ok (.aload_n 0, 1) := by decide +kernel
theorem dX10_read_21 : decode cX10_read 21 = .ok (.iconst 1, 1) := by decide +kernel
theorem dX10_read_22 : decode cX10_read 22 = .ok (.invokevirtual 151, 3) := by decide +kernel
theorem dX10_read_25 : decode cX10_read 25 = .ok (.ireturn, 1) := by decide +kernel
theorem dX10_read_26 : decode cX10_read 26 = .ok (.aload_n 0, 1) := by decide +kernel
theorem dX10_read_27 : decode cX10_read 27 = .ok (.getfield 68, 3) := by decide +kernel
theorem dX10_read_30 : decode cX10_read 30 = .ok (.invokevirtual 154, 3) := by decide +kernel
theorem dX10_read_33 : decode cX10_read 33 = .ok (.iconst 1, 1) := by decide +kernel
theorem dX10_read_34 : decode cX10_read 34 = .ok (.istore_n 3, 1) := by decide +kernel
theorem dX10_read_35 : decode cX10_read 35 = .ok (.iconst 0, 1) := by decide +kernel
theorem dX10_read_36 : decode cX10_read 36 = .ok (.istore 4, 2) := by decide +kernel
theorem dX10_read_38 : decode cX10_read 38 = .ok (.iload 4, 2) := by decide +kernel
theorem dX10_read_40 : decode cX10_read 40 = .ok (.aload_n 2, 1) := by decide +kernel
theorem dX10_read_41 : decode cX10_read 41 = .ok (.getfield 157, 3) := by decide +kernel
theorem dX10_read_44 : decode cX10_read 44 = .ok (.if_icmp .ge 47, 3) := by decide +kernel
theorem dX10_read_47 : decode cX10_read 47 = .ok (.iload_n 3, 1) := by decide +kernel
theorem dX10_read_48 : decode cX10_read 48 = .ok (.ifCond .eq 43, 3) := by decide +kernel
theorem dX10_read_51 : decode cX10_read 51 = .ok (.aload_n 2, 1) := by decide +kernel
theorem dX10_read_52 : decode cX10_read 52 = .ok (.iload 4, 2) := by decide +kernel
theorem dX10_read_54 : decode cX10_read 54 = .ok (.invokevirtual 158, 3) := by decide +kernel
theorem dX10_read_57 : decode cX10_read 57 = .ok (.istore 5, 2) := by decide +kernel
theorem dX10_read_59 : decode cX10_read 59 = .ok (.iload 5, 2) := by decide +kernel
theorem dX10_read_61 : decode cX10_read 61 = .ok (.invokestatic 161, 3) := by decide +kernel
theorem dX10_read_64 : decode cX10_read 64 = .ok (.ifCond .eq 19, 3) := by decide +kernel
theorem dX10_read_67 : decode cX10_read 67 = .ok (.aload_n 0, 1) := by decide +kernel
theorem dX10_read_68 : decode cX10_read 68 = .ok (.getfield 68, 3) := by decide +kernel
theorem dX10_read_71 : decode cX10_read 71 = .ok (.iload 5, 2) := by decide +kernel
theorem dX10_read_73 : decode cX10_read 73 = .ok (.invokevirtual 164, 3) := by decide +kernel
theorem dX10_read_76 : decode cX10_read 76 = .ok (.ifCond .eq 7, 3) := by decide +kernel
theorem dX10_read_79 : decode cX10_read 79 = .ok (.iconst 1, 1) := by decide +kernel
theorem dX10_read_80 : decode cX10_read 80 = .ok (.goto 4, 3) := by decide +kernel
theorem dX10_read_83 : decode cX10_read 83 = .ok (.iconst 0, 1) := by decide +kernel
theorem dX10_read_84 : decode cX10_read 84 = .ok (.istore_n 3, 1) := by decide +kernel
theorem dX10_read_85 : decode cX10_read 85 = .ok (.iinc 4 1, 3) := by decide +kernel
theorem dX10_read_88 : decode cX10_read 88 = .ok (.goto (-50), 3) := by decide +kernel
theorem dX10_read_91 : decode cX10_read 91 = .ok (.aload_n 0, 1) := by decide +kernel
theorem dX10_read_92 : decode cX10_read 92 = .ok (.getfield 68, 3) := by decide +kernel
theorem dX10_read_95 : decode cX10_read 95 = .ok (.getfield 165, 3) := by decide +kernel
theorem dX10_read_98 : decode cX10_read 98 = .ok (.ireturn, 1) := by decide +kernel
theorem dX10_hear_0 : decode cX10_hear 0 = .ok (.iload_n 1, 1) := by decide +kernel
theorem dX10_hear_1 : decode cX10_hear 1 = .ok (.invokestatic 161, 3) := by decide +kernel
theorem dX10_hear_4 : decode cX10_hear 4 = .ok (.ifCond .eq 12, 3) := by decide +kernel
theorem dX10_hear_7 : decode cX10_hear 7 = .ok (.iload_n 2, 1) := by decide +kernel
theorem dX10_hear_8 : decode cX10_hear 8 = .ok (.iconst 0, 1) := by decide +kernel
theorem dX10_hear_9 : decode cX10_hear 9 = .ok (.iconst 3, 1) := by decide +kernel
theorem dX10_hear_10 : decode cX10_hear 10 = .ok (.invokestatic 94, 3) := by decide +kernel
theorem dX10_hear_13 : decode cX10_hear 13 = .ok (.ifCond .ne 6, 3) := by decide +kernel
theorem dX10_hear_16 : decode cX10_hear 16 = .ok (.bipush (-2), 2) := by decide +kernel
theorem dX10_hear_18 : decode cX10_hear 18 = .ok (.ireturn, 1) := by decide +kernel
theorem dX10_hear_19 : decode cX10_hear 19 = .ok (.aload_n 0, 1) := by decide +kernel
theorem dX10_hear_20 : decode cX10_hear 20 = .ok (.iload_n 1, 1) := by decide +kernel
theorem dX10_hear_21 : decode cX10_hear 21 = .ok (.iload_n 2, 1) := by decide +kernel
theorem dX10_hear_22 : decode cX10_hear 22 = .ok (.iconst (-1), 1) := by decide +kernel
theorem dX10_hear_23 : decode cX10_hear 23 = .ok (.invokevirtual 166, 3) := by decide +kernel
theorem dX10_hear_26 : decode cX10_hear 26 = .ok (.ireturn, 1) := by decide +kernel
theorem dX10_shown_0 : decode cX10_shown 0 = .ok (.iload_n 1, 1) := by decide +kernel
theorem dX10_shown_1 : decode cX10_shown 1 = .ok (.invokestatic 161, 3) := by decide +kernel
theorem dX10_shown_4 : decode cX10_shown 4 = .ok (.ifCond .eq 13, 3) := by decide +kernel
theorem dX10_shown_7 : decode cX10_shown 7 = .ok (.iload_n 2, 1) := by decide +kernel
theorem dX10_shown_8 : decode cX10_shown 8 = .ok (.iconst 0, 1) := by decide +kernel
theorem dX10_shown_9 : decode cX10_shown 9 = .ok (.bipush 98, 2) := by decide +kernel
theorem dX10_shown_11 : decode cX10_shown 11 = .ok (.invokestatic 94, 3) := by decide +kernel
theorem dX10_shown_14 : decode cX10_shown 14 = .ok (.ifCond .ne 6, 3) := by decide +kernel
theorem dX10_shown_17 : decode cX10_shown 17 = .ok (.bipush (-2), 2) := by decide +kernel
theorem dX10_shown_19 : decode cX10_shown 19 = .ok (.ireturn, 1) := by decide +kernel
theorem dX10_shown_20 : decode cX10_shown 20 = .ok (.aload_n 0, 1) := by decide +kernel
theorem dX10_shown_21 : decode cX10_shown 21 = .ok (.iload_n 1, 1) := by decide +kernel
theorem dX10_shown_22 : decode cX10_shown 22 = .ok (.iconst (-1), 1) := by decide +kernel
theorem dX10_shown_23 : decode cX10_shown 23 = .ok (.iload_n 2, 1) := by decide +kernel
theorem dX10_shown_24 : decode cX10_shown 24 = .ok (.invokevirtual 166, 3) := by decide +kernel
theorem dX10_shown_27 : decode cX10_shown 27 = .ok (.ireturn, 1) := by decide +kernel
theorem dX10_forget_0 : decode cX10_forget 0 = .ok (.aload_n 0, 1) := by decide +kernel
theorem dX10_forget_1 : decode cX10_forget 1 = .ok (.getfield 36, 3) := by decide +kernel
theorem dX10_forget_4 : decode cX10_forget 4 = .ok (.getfield 170, 3) := by decide +kernel
theorem dX10_forget_7 : decode cX10_forget 7 = .ok (.istore_n 1, 1) := by decide +kernel
theorem dX10_forget_8 : decode cX10_forget 8 = .ok (.aload_n 0, 1) := by decide +kernel
theorem dX10_forget_9 : decode cX10_forget 9 = .ok (.getfield 36, 3) := by decide +kernel
theorem dX10_forget_12 : decode cX10_forget 12 = .ok (.iconst 0, 1) := by decide +kernel
theorem dX10_forget_13 : decode cX10_forget 13 = .ok (.putfield 170, 3) := by decide +kernel
theorem dX10_forget_16 : decode cX10_forget 16 = .ok (.aload_n 0, 1) := by decide +kernel
theorem dX10_forget_17 : decode cX10_forget 17 = .ok (.iconst 1, 1) := by decide +kernel
theorem dX10_forget_18 : decode cX10_forget 18 = .ok (.putfield 86, 3) := by decide +kernel
theorem dX10_forget_21 : decode cX10_forget 21 = .ok (.iload_n 1, 1) := by decide +kernel
theorem dX10_forget_22 : decode cX10_forget 22 = .ok (.ireturn, 1) := by decide +kernel
theorem dX10_where_0 : decode cX10_where 0 = .ok (.iload_n 1, 1) := by decide +kernel
theorem dX10_where_1 : decode cX10_where 1 = .ok (.invokestatic 161, 3) := by decide +kernel
theorem dX10_where_4 : decode cX10_where 4 = .ok (.ifCond .eq 21, 3) := by decide +kernel
theorem dX10_where_7 : decode cX10_where 7 = .ok (.aload_n 0, 1) := by decide +kernel
theorem dX10_where_8 : decode cX10_where 8 = .ok (.getfield 12, 3) := by decide +kernel
theorem dX10_where_11 : decode cX10_where 11 = .ok (.iload_n 2, 1) := by decide +kernel
theorem dX10_where_12 : decode cX10_where 12 = .ok (.invokevirtual 112, 3) := by decide +kernel
theorem dX10_where_15 : decode cX10_where 15 = .ok (.ifCond .eq 10, 3) := by decide +kernel
theorem dX10_where_18 : decode cX10_where 18 = .ok (.iload_n 3, 1) := by decide +kernel
theorem dX10_where_19 : decode cX10_where 19 = .ok (.invokestatic 171, 3) := by decide +kernel
theorem dX10_where_22 : decode cX10_where 22 = .ok (.ifCond .ne 9, 3) := by decide +kernel
theorem dX10_where_25 : decode cX10_where 25 = .ok (.bipush (-2), 2) := by decide +kernel
theorem dX10_where_27 : decode cX10_where 27 = .ok (.invokestatic 174, 3) := by decide +kernel
theorem dX10_where_30 : decode cX10_where 30 = .ok (.lreturn, 1) := by decide +kernel
theorem dX10_where_31 : decode cX10_where 31 = .ok (.aload_n 0, 1) := by decide +kernel
theorem dX10_where_32 : decode cX10_where 32 = .ok (.invokevirtual 178, 3) := by decide +kernel
theorem dX10_where_35 : decode cX10_where 35 = .ok (.aload_n 0, 1) := by decide +kernel
theorem dX10_where_36 : decode cX10_where 36 = .ok (.getfield 45, 3) := by decide +kernel
theorem dX10_where_39 : decode cX10_where 39 = .ok (.iload_n 1, 1) := by decide +kernel
theorem dX10_where_40 : decode cX10_where 40 = .ok (.invokevirtual 181, 3) := by decide +kernel
theorem dX10_where_43 : decode cX10_where 43 = .ok (.lstore 4, 2) := by decide +kernel
theorem dX10_where_45 : decode cX10_where 45 = .ok (.lload 4, 2) := by decide +kernel
theorem dX10_where_47 : decode cX10_where 47 = .ok (.lconst 0, 1) := by decide +kernel
theorem dX10_where_48 : decode cX10_where 48 = .ok (.lcmp, 1) := by decide +kernel
theorem dX10_where_49 : decode cX10_where 49 = .ok (.ifCond .ne 11, 3) := by decide +kernel
theorem dX10_where_52 : decode cX10_where 52 = .ok (.bipush (-3), 2) := by decide +kernel
theorem dX10_where_54 : decode cX10_where 54 = .ok (.invokestatic 174, 3) := by decide +kernel
theorem dX10_where_57 : decode cX10_where 57 = .ok (.goto 18, 3) := by decide +kernel
theorem dX10_where_60 : decode cX10_where 60 = .ok (.aload_n 0, 1) := by decide +kernel
theorem dX10_where_61 : decode cX10_where 61 = .ok (.getfield 45, 3) := by decide +kernel
theorem dX10_where_64 : decode cX10_where 64 = .ok (.iload_n 1, 1) := by decide +kernel
theorem dX10_where_65 : decode cX10_where 65 = .ok (.iload_n 2, 1) := by decide +kernel
theorem dX10_where_66 : decode cX10_where 66 = .ok (.invokevirtual 184, 3) := by decide +kernel
theorem dX10_where_69 : decode cX10_where 69 = .ok (.lload 4, 2) := by decide +kernel
theorem dX10_where_71 : decode cX10_where 71 = .ok (.iload_n 3, 1) := by decide +kernel
theorem dX10_where_72 : decode cX10_where 72 = .ok (.invokestatic 188, 3) := by decide +kernel
theorem dX10_where_75 : decode cX10_where 75 = .ok (.lreturn, 1) := by decide +kernel
theorem dX10_likeliest_0 : decode cX10_likeliest 0 = .ok (.iload_n 1, 1) := by decide +kernel
theorem dX10_likeliest_1 : decode cX10_likeliest 1 = .ok (.invokestatic 161, 3) := by decide +kernel
theorem dX10_likeliest_4 : decode cX10_likeliest 4 = .ok (.ifCond .ne 6, 3) := by decide +kernel
theorem dX10_likeliest_7 : decode cX10_likeliest 7 = .ok (.bipush (-2), 2) := by decide +kernel
theorem dX10_likeliest_9 : decode cX10_likeliest 9 = .ok (.ireturn, 1) := by decide +kernel
theorem dX10_likeliest_10 : decode cX10_likeliest 10 = .ok (.aload_n 0, 1) := by decide +kernel
theorem dX10_likeliest_11 : decode cX10_likeliest 11 = .ok (.invokevirtual 178, 3) := by decide +kernel
theorem dX10_likeliest_14 : decode cX10_likeliest 14 = .ok (.bipush (-3), 2) := by decide +kernel
theorem dX10_likeliest_16 : decode cX10_likeliest 16 = .ok (.istore_n 2, 1) := by decide +kernel
theorem dX10_likeliest_17 : decode cX10_likeliest 17 = .ok (.lconst 0, 1) := by decide +kernel
theorem dX10_likeliest_18 : decode cX10_likeliest 18 = .ok (.lstore_n 3, 1) := by decide +kernel
theorem dX10_likeliest_19 : decode cX10_likeliest 19 = .ok (.iconst 0, 1) := by decide +kernel
theorem dX10_likeliest_20 : decode cX10_likeliest 20 = .ok (.istore 5, 2) := by decide +kernel
theorem dX10_likeliest_22 : decode cX10_likeliest 22 = .ok (.iload 5, 2) := by decide +kernel
theorem dX10_likeliest_24 : decode cX10_likeliest 24 = .ok (.aload_n 0, 1) := by decide +kernel
theorem dX10_likeliest_25 : decode cX10_likeliest 25 = .ok (.getfield 12, 3) := by decide +kernel
theorem dX10_likeliest_28 : decode cX10_likeliest 28 = .ok (.getfield 192, 3) := by decide +kernel
theorem dX10_likeliest_31 : decode cX10_likeliest 31 = .ok (.if_icmp .ge 34, 3) := by decide +kernel
theorem dX10_likeliest_34 : decode cX10_likeliest 34 = .ok (.aload_n 0, 1) := by decide +kernel
theorem dX10_likeliest_35 : decode cX10_likeliest 35 = .ok (.getfield 45, 3) := by decide +kernel
theorem dX10_likeliest_38 : decode cX10_likeliest 38 = .ok (.iload_n 1, 1) := by decide +kernel
theorem dX10_likeliest_39 : decode cX10_likeliest 39 = .ok (.iload 5, 2) := by decide +kernel
theorem dX10_likeliest_41 : decode cX10_likeliest 41 = .ok (.invokevirtual 184, 3) := by decide +kernel
theorem dX10_likeliest_44 : decode cX10_likeliest 44 = .ok (.lstore 6, 2) := by decide +kernel
theorem dX10_likeliest_46 : decode cX10_likeliest 46 = .ok (.lload 6, 2) := by decide +kernel
theorem dX10_likeliest_48 : decode cX10_likeliest 48 = .ok (.lload_n 3, 1) := by decide +kernel
theorem dX10_likeliest_49 : decode cX10_likeliest 49 = .ok (.lcmp, 1) := by decide +kernel
theorem dX10_likeliest_50 : decode cX10_likeliest 50 = .ok (.ifCond .le 9, 3) := by decide +kernel
theorem dX10_likeliest_53 : decode cX10_likeliest 53 = .ok (.lload 6, 2) := by decide +kernel
theorem dX10_likeliest_55 : decode cX10_likeliest 55 = .ok (.lstore_n 3, 1) := by decide +kernel
theorem dX10_likeliest_56 : decode cX10_likeliest 56 = .ok (.iload 5, 2) := by decide +kernel
theorem dX10_likeliest_58 : decode cX10_likeliest 58 = .ok (.istore_n 2, 1) := by decide +kernel
theorem dX10_likeliest_59 : decode cX10_likeliest 59 = .ok (.iinc 5 1, 3) := by decide +kernel
theorem dX10_likeliest_62 : decode cX10_likeliest 62 = .ok (.goto (-40), 3) := by decide +kernel
theorem dX10_likeliest_65 : decode cX10_likeliest 65 = .ok (.iload_n 2, 1) := by decide +kernel
theorem dX10_likeliest_66 : decode cX10_likeliest 66 = .ok (.ireturn, 1) := by decide +kernel
theorem dX10_strike_0 : decode cX10_strike 0 = .ok (.iload_n 1, 1) := by decide +kernel
theorem dX10_strike_1 : decode cX10_strike 1 = .ok (.invokestatic 161, 3) := by decide +kernel
theorem dX10_strike_4 : decode cX10_strike 4 = .ok (.ifCond .eq 10, 3) := by decide +kernel
theorem dX10_strike_7 : decode cX10_strike 7 = .ok (.iload_n 2, 1) := by decide +kernel
theorem dX10_strike_8 : decode cX10_strike 8 = .ok (.invokestatic 171, 3) := by decide +kernel
theorem dX10_strike_11 : decode cX10_strike 11 = .ok (.ifCond .ne 9, 3) := by decide +kernel
theorem dX10_strike_14 : decode cX10_strike 14 = .ok (.bipush (-2), 2) := by decide +kernel
theorem dX10_strike_16 : decode cX10_strike 16 = .ok (.invokestatic 174, 3) := by decide +kernel
theorem dX10_strike_19 : decode cX10_strike 19 = .ok (.lreturn, 1) := by decide +kernel
theorem dX10_strike_20 : decode cX10_strike 20 = .ok (.aload_n 0, 1) := by decide +kernel
theorem dX10_strike_21 : decode cX10_strike 21 = .ok (.invokevirtual 178, 3) := by decide +kernel
theorem dX10_strike_24 : decode cX10_strike 24 = .ok (.aload_n 0, 1) := by decide +kernel
theorem dX10_strike_25 : decode cX10_strike 25 = .ok (.getfield 45, 3) := by decide +kernel
theorem dX10_strike_28 : decode cX10_strike 28 = .ok (.iload_n 1, 1) := by decide +kernel
theorem dX10_strike_29 : decode cX10_strike 29 = .ok (.invokevirtual 181, 3) := by decide +kernel
theorem dX10_strike_32 : decode cX10_strike 32 = .ok (.lstore_n 3, 1) := by decide +kernel
theorem dX10_strike_33 : decode cX10_strike 33 = .ok (.lload_n 3, 1) := by decide +kernel
theorem dX10_strike_34 : decode cX10_strike 34 = .ok (.lconst 0, 1) := by decide +kernel
theorem dX10_strike_35 : decode cX10_strike 35 = .ok (.lcmp, 1) := by decide +kernel
theorem dX10_strike_36 : decode cX10_strike 36 = .ok (.ifCond .ne 11, 3) := by decide +kernel
theorem dX10_strike_39 : decode cX10_strike 39 = .ok (.bipush (-3), 2) := by decide +kernel
theorem dX10_strike_41 : decode cX10_strike 41 = .ok (.invokestatic 174, 3) := by decide +kernel
theorem dX10_strike_44 : decode cX10_strike 44 = .ok (.goto 13, 3) := by decide +kernel
theorem dX10_strike_47 : decode cX10_strike 47 = .ok (.aload_n 0, 1) := by decide +kernel
theorem dX10_strike_48 : decode cX10_strike 48 = .ok (.iload_n 1, 1) := by decide +kernel
theorem dX10_strike_49 : decode cX10_strike 49 = .ok (.invokevirtual 195, 3) := by decide +kernel
theorem dX10_strike_52 : decode cX10_strike 52 = .ok (.lload_n 3, 1) := by decide +kernel
theorem dX10_strike_53 : decode cX10_strike 53 = .ok (.iload_n 2, 1) := by decide +kernel
theorem dX10_strike_54 : decode cX10_strike 54 = .ok (.invokestatic 188, 3) := by decide +kernel
theorem dX10_strike_57 : decode cX10_strike 57 = .ok (.lreturn, 1) := by decide +kernel
theorem dX10_line_0 : decode cX10_line 0 = .ok (.aload_n 0, 1) := by decide +kernel
theorem dX10_line_1 : decode cX10_line 1 = .ok (.invokevirtual 178, 3) := by decide +kernel
theorem dX10_line_4 : decode cX10_line 4 = .ok (.iconst (-1), 1) := by decide +kernel
theorem dX10_line_5 : decode cX10_line 5 = .ok (.istore_n 1, 1) := by decide +kernel
theorem dX10_line_6 : decode cX10_line 6 = .ok (.aload_n 0, 1) := by decide +kernel
theorem dX10_line_7 : decode cX10_line 7 = .ok (.getfield 19, 3) := by decide +kernel
theorem dX10_line_10 : decode cX10_line 10 = .ok (.iconst 5, 1) := by decide +kernel
theorem dX10_line_11 : decode cX10_line 11 = .ok (.invokevirtual 138, 3) := by decide +kernel
theorem dX10_line_14 : decode cX10_line 14 = .ok (.i2l, 1) := by decide +kernel
theorem dX10_line_15 : decode cX10_line 15 = .ok (.lstore_n 2, 1) := by decide +kernel
theorem dX10_line_16 : decode cX10_line 16 = .ok (.lconst 1, 1) := by decide +kernel
theorem dX10_line_17 : decode cX10_line 17 = .ok (.lstore 4, 2) := by decide +kernel
theorem dX10_line_19 : decode cX10_line 19 = .ok (.iconst 1, 1) := by decide +kernel
theorem dX10_line_20 : decode cX10_line 20 = .ok (.istore 6, 2) := by decide +kernel
theorem dX10_line_22 : decode cX10_line 22 = .ok (.iload 6, 2) := by decide +kernel
theorem dX10_line_24 : decode cX10_line 24 = .ok (.bipush 110, 2) := by decide +kernel
theorem dX10_line_26 : decode cX10_line 26 = .ok (.if_icmp .gt 58, 3) := by decide +kernel
theorem dX10_line_29 : decode cX10_line 29 = .ok (.aload_n 0, 1) := by decide +kernel
theorem dX10_line_30 : decode cX10_line 30 = .ok (.getfield 45, 3) := by decide +kernel
theorem dX10_line_33 : decode cX10_line 33 = .ok (.iload 6, 2) := by decide +kernel
theorem dX10_line_35 : decode cX10_line 35 = .ok (.invokevirtual 181, 3) := by decide +kernel
theorem dX10_line_38 : decode cX10_line 38 = .ok (.lstore 7, 2) := by decide +kernel
theorem dX10_line_40 : decode cX10_line 40 = .ok (.lload 7, 2) := by decide +kernel
theorem dX10_line_42 : decode cX10_line 42 = .ok (.lconst 0, 1) := by decide +kernel
theorem dX10_line_43 : decode cX10_line 43 = .ok (.lcmp, 1) := by decide +kernel
theorem dX10_line_44 : decode cX10_line 44 = .ok (.ifCond .eq 34, 3) := by decide +kernel
theorem dX10_line_47 : decode cX10_line 47 = .ok (.aload_n 0, 1) := by decide +kernel
theorem dX10_line_48 : decode cX10_line 48 = .ok (.iload 6, 2) := by decide +kernel
theorem dX10_line_50 : decode cX10_line 50 = .ok (.invokevirtual 195, 3) := by decide +kernel
theorem dX10_line_53 : decode cX10_line 53 = .ok (.lload 7, 2) := by decide +kernel
theorem dX10_line_55 : decode cX10_line 55 = .ok (.lload_n 2, 1) := by decide +kernel
theorem dX10_line_56 : decode cX10_line 56 = .ok (.lload 4, 2) := by decide +kernel
theorem dX10_line_58 : decode cX10_line 58 = .ok (.invokestatic 198, 3) := by decide +kernel
theorem dX10_line_61 : decode cX10_line 61 = .ok (.ifCond .eq 17, 3) := by decide +kernel
theorem dX10_line_64 : decode cX10_line 64 = .ok (.iload 6, 2) := by decide +kernel
theorem dX10_line_66 : decode cX10_line 66 = .ok (.istore_n 1, 1) := by decide +kernel
theorem dX10_line_67 : decode cX10_line 67 = .ok (.aload_n 0, 1) := by decide +kernel
theorem dX10_line_68 : decode cX10_line 68 = .ok (.iload 6, 2) := by decide +kernel
theorem dX10_line_70 : decode cX10_line 70 = .ok (.invokevirtual 195, 3) := by decide +kernel
theorem dX10_line_73 : decode cX10_line 73 = .ok (.lstore_n 2, 1) := by decide +kernel
theorem dX10_line_74 : decode cX10_line 74 = .ok (.lload 7, 2) := by decide +kernel
theorem dX10_line_76 : decode cX10_line 76 = .ok (.lstore 4, 2) := by decide +kernel
theorem dX10_line_78 : decode cX10_line 78 = .ok (.iinc 6 1, 3) := by decide +kernel
theorem dX10_line_81 : decode cX10_line 81 = .ok (.goto (-59), 3) := by decide +kernel
theorem dX10_line_84 : decode cX10_line 84 = .ok (.iload_n 1, 1) := by decide +kernel
theorem dX10_line_85 : decode cX10_line 85 = .ok (.ireturn, 1) := by decide +kernel
theorem dX10_slips_0 : decode cX10_slips 0 = .ok (.aload_n 0, 1) := by decide +kernel
theorem dX10_slips_1 : decode cX10_slips 1 = .ok (.getfield 12, 3) := by decide +kernel
theorem dX10_slips_4 : decode cX10_slips 4 = .ok (.iload_n 1, 1) := by decide +kernel
theorem dX10_slips_5 : decode cX10_slips 5 = .ok (.invokevirtual 112, 3) := by decide +kernel
theorem dX10_slips_8 : decode cX10_slips 8 = .ok (.ifCond .eq 21, 3) := by decide +kernel
theorem dX10_slips_11 : decode cX10_slips 11 = .ok (.iload_n 2, 1) := by decide +kernel
theorem dX10_slips_12 : decode cX10_slips 12 = .ok (.bipush (-10), 2) := by decide +kernel
theorem dX10_slips_14 : decode cX10_slips 14 = .ok (.bipush 10, 2) := by decide +kernel
theorem dX10_slips_16 : decode cX10_slips 16 = .ok (.invokestatic 94, 3) := by decide +kernel
theorem dX10_slips_19 : decode cX10_slips 19 = .ok (.ifCond .eq 10, 3) := by decide +kernel
theorem dX10_slips_22 : decode cX10_slips 22 = .ok (.iload_n 3, 1) := by decide +kernel
theorem dX10_slips_23 : decode cX10_slips 23 = .ok (.invokestatic 171, 3) := by decide +kernel
theorem dX10_slips_26 : decode cX10_slips 26 = .ok (.ifCond .ne 9, 3) := by decide +kernel
theorem dX10_slips_29 : decode cX10_slips 29 = .ok (.bipush (-2), 2) := by decide +kernel
theorem dX10_slips_31 : decode cX10_slips 31 = .ok (.invokestatic 174, 3) := by decide +kernel
theorem dX10_slips_34 : decode cX10_slips 34 = .ok (.lreturn, 1) := by decide +kernel
theorem dX10_slips_35 : decode cX10_slips 35 = .ok (.aload_n 0, 1) := by decide +kernel
theorem dX10_slips_36 : decode cX10_slips 36 = .ok (.getfield 54, 3) := by decide +kernel
theorem dX10_slips_39 : decode cX10_slips 39 = .ok (.aload_n 0, 1) := by decide +kernel
theorem dX10_slips_40 : decode cX10_slips 40 = .ok (.getfield 26, 3) := by decide +kernel
theorem dX10_slips_43 : decode cX10_slips 43 = .ok (.iload_n 1, 1) := by decide +kernel
theorem dX10_slips_44 : decode cX10_slips 44 = .ok (.iconst 0, 1) := by decide +kernel
theorem dX10_slips_45 : decode cX10_slips 45 = .ok (.iconst 0, 1) := by decide +kernel
theorem dX10_slips_46 : decode cX10_slips 46 = .ok (.invokevirtual 202, 3) := by decide +kernel
theorem dX10_slips_49 : decode cX10_slips 49 = .ok (.aload_n 0, 1) := by decide +kernel
theorem dX10_slips_50 : decode cX10_slips 50 = .ok (.getfield 54, 3) := by decide +kernel
theorem dX10_slips_53 : decode cX10_slips 53 = .ok (.iload_n 2, 1) := by decide +kernel
theorem dX10_slips_54 : decode cX10_slips 54 = .ok (.invokevirtual 206, 3) := by decide +kernel
theorem dX10_slips_57 : decode cX10_slips 57 = .ok (.ldc2_w 209, 3) := by decide +kernel
theorem dX10_slips_60 : decode cX10_slips 60 = .ok (.iload_n 3, 1) := by decide +kernel
theorem dX10_slips_61 : decode cX10_slips 61 = .ok (.invokestatic 188, 3) := by decide +kernel
theorem dX10_slips_64 : decode cX10_slips 64 = .ok (.lreturn, 1) := by decide +kernel
theorem dX10_safe_0 : decode cX10_safe 0 = .ok (.iload_n 1, 1) := by decide +kernel
theorem dX10_safe_1 : decode cX10_safe 1 = .ok (.iconst 0, 1) := by decide +kernel
theorem dX10_safe_2 : decode cX10_safe 2 = .ok (.bipush 63, 2) := by decide +kernel
theorem dX10_safe_4 : decode cX10_safe 4 = .ok (.invokestatic 94, 3) := by decide +kernel
theorem dX10_safe_7 : decode cX10_safe 7 = .ok (.ifCond .eq 10, 3) := by decide +kernel
theorem dX10_safe_10 : decode cX10_safe 10 = .ok (.iload_n 2, 1) := by decide +kernel
theorem dX10_safe_11 : decode cX10_safe 11 = .ok (.invokestatic 171, 3) := by decide +kernel
theorem dX10_safe_14 : decode cX10_safe 14 = .ok (.ifCond .ne 9, 3) := by decide +kernel
theorem dX10_safe_17 : decode cX10_safe 17 = .ok (.bipush (-2), 2) := by decide +kernel
theorem dX10_safe_19 : decode cX10_safe 19 = .ok (.invokestatic 174, 3) := by decide +kernel
theorem dX10_safe_22 : decode cX10_safe 22 = .ok (.lreturn, 1) := by decide +kernel
theorem dX10_safe_23 : decode cX10_safe 23 = .ok (.iload_n 1, 1) := by decide +kernel
theorem dX10_safe_24 : decode cX10_safe 24 = .ok (.iconst 1, 1) := by decide +kernel
theorem dX10_safe_25 : decode cX10_safe 25 = .ok (.aload_n 0, 1) := by decide +kernel
theorem dX10_safe_26 : decode cX10_safe 26 = .ok (.getfield 12, 3) := by decide +kernel
theorem dX10_safe_29 : decode cX10_safe 29 = .ok (.getfield 211, 3) := by decide +kernel
theorem dX10_safe_32 : decode cX10_safe 32 = .ok (.ishl, 1) := by decide +kernel
theorem dX10_safe_33 : decode cX10_safe 33 = .ok (.iconst 1, 1) := by decide +kernel
theorem dX10_safe_34 : decode cX10_safe 34 = .ok (.isub, 1) := by decide +kernel
theorem dX10_safe_35 : decode cX10_safe 35 = .ok (.iand, 1) := by decide +kernel
theorem dX10_safe_36 : decode cX10_safe 36 = .ok (.istore_n 3, 1) := by decide +kernel
theorem dX10_safe_37 : decode cX10_safe 37 = .ok (.iload_n 3, 1) := by decide +kernel
theorem dX10_safe_38 : decode cX10_safe 38 = .ok (.invokestatic 214, 3) := by decide +kernel
theorem dX10_safe_41 : decode cX10_safe 41 = .ok (.iconst 3, 1) := by decide +kernel
theorem dX10_safe_42 : decode cX10_safe 42 = .ok (.if_icmp .le 9, 3) := by decide +kernel
theorem dX10_safe_45 : decode cX10_safe 45 = .ok (.bipush (-2), 2) := by decide +kernel
theorem dX10_safe_47 : decode cX10_safe 47 = .ok (.invokestatic 174, 3) := by decide +kernel
theorem dX10_safe_50 : decode cX10_safe 50 = .ok (.lreturn, 1) := by decide +kernel
theorem dX10_safe_51 : decode cX10_safe 51 = .ok (.aload_n 0, 1) := by decide +kernel
theorem dX10_safe_52 : decode cX10_safe 52 = .ok (.getfield 12, 3) := by decide +kernel
theorem dX10_safe_55 : decode cX10_safe 55 = .ok (.getfield 192, 3) := by decide +kernel
theorem dX10_safe_58 : decode cX10_safe 58 = .ok (.ifCond .ne 9, 3) := by decide +kernel
theorem dX10_safe_61 : decode cX10_safe 61 = .ok (.bipush (-3), 2) := by decide +kernel
theorem dX10_safe_63 : decode cX10_safe 63 = .ok (.invokestatic 174, 3) := by decide +kernel
theorem dX10_safe_66 : decode cX10_safe 66 = .ok (.lreturn, 1) := by decide +kernel
theorem dX10_safe_67 : decode cX10_safe 67 = .ok (.aload_n 0, 1) := by decide +kernel
theorem dX10_safe_68 : decode cX10_safe 68 = .ok (.iload_n 3, 1) := by decide +kernel
theorem dX10_safe_69 : decode cX10_safe 69 = .ok (.invokevirtual 219, 3) := by decide +kernel
theorem dX10_safe_72 : decode cX10_safe 72 = .ok (.ldc2_w 209, 3) := by decide +kernel
theorem dX10_safe_75 : decode cX10_safe 75 = .ok (.iload_n 2, 1) := by decide +kernel
theorem dX10_safe_76 : decode cX10_safe 76 = .ok (.invokestatic 188, 3) := by decide +kernel
theorem dX10_safe_79 : decode cX10_safe 79 = .ok (.lreturn, 1) := by decide +kernel
theorem dX10_write_0 : decode cX10_write 0 = .ok (.iload_n 1, 1) := by decide +kernel
theorem dX10_write_1 : decode cX10_write 1 = .ok (.iconst 0, 1) := by decide +kernel
theorem dX10_write_2 : decode cX10_write 2 = .ok (.iconst 3, 1) := by decide +kernel
theorem dX10_write_3 : decode cX10_write 3 = .ok (.aload_n 0, 1) := by decide +kernel
theorem dX10_write_4 : decode cX10_write 4 = .ok (.getfield 12, 3) := by decide +kernel
theorem dX10_write_7 : decode cX10_write 7 = .ok (.getfield 211, 3) := by decide +kernel
theorem dX10_write_10 : decode cX10_write 10 = .ok (.invokestatic 222, 3) := by decide +kernel
theorem dX10_write_13 : decode cX10_write 13 = .ok (.invokestatic 94, 3) := by decide +kernel
theorem dX10_write_16 : decode cX10_write 16 = .ok (.ifCond .ne 6, 3) := by decide +kernel
theorem dX10_write_19 : decode cX10_write 19 = .ok (.bipush (-2), 2) := by decide +kernel
theorem dX10_write_21 : decode cX10_write 21 = .ok (.ireturn, 1) := by decide +kernel
theorem dX10_write_22 : decode cX10_write 22 = .ok (.aload_n 0, 1) := by decide +kernel
theorem dX10_write_23 : decode cX10_write 23 = .ok (.getfield 12, 3) := by decide +kernel
theorem dX10_write_26 : decode cX10_write 26 = .ok (.getfield 192, 3) := by decide +kernel
theorem dX10_write_29 : decode cX10_write 29 = .ok (.ifCond .ne 6, 3) := by decide +kernel
theorem dX10_write_32 : decode cX10_write 32 = .ok (.bipush (-3), 2) := by decide +kernel
theorem dX10_write_34 : decode cX10_write 34 = .ok (.ireturn, 1) := by decide +kernel
theorem dX10_write_35 : decode cX10_write 35 = .ok (.iconst 0, 1) := by decide +kernel
theorem dX10_write_36 : decode cX10_write 36 = .ok (.istore_n 2, 1) := by decide +kernel
theorem dX10_write_37 : decode cX10_write 37 = .ok (.ldc2_w 228, 3) := by decide +kernel
theorem dX10_write_40 : decode cX10_write 40 = .ok (.lstore_n 3, 1) := by decide +kernel
theorem dX10_write_41 : decode cX10_write 41 = .ok (.iconst 0, 1) := by decide +kernel
theorem dX10_write_42 : decode cX10_write 42 = .ok (.istore 5, 2) := by decide +kernel
theorem dX10_write_44 : decode cX10_write 44 = .ok (.iload 5, 2) := by decide +kernel
theorem dX10_write_46 : decode cX10_write 46 = .ok (.iconst 1, 1) := by decide +kernel
theorem dX10_write_47 : decode cX10_write 47 = .ok (.aload_n 0, 1) := by decide +kernel
theorem dX10_write_48 : decode cX10_write 48 = .ok (.getfield 12, 3) := by decide +kernel
theorem dX10_write_51 : decode cX10_write 51 = .ok (.getfield 211, 3) := by decide +kernel
theorem dX10_write_54 : decode cX10_write 54 = .ok (.ishl, 1) := by decide +kernel
theorem dX10_write_55 : decode cX10_write 55 = .ok (.if_icmp .ge 39, 3) := by decide +kernel
theorem dX10_write_58 : decode cX10_write 58 = .ok (.iload 5, 2) := by decide +kernel
theorem dX10_write_60 : decode cX10_write 60 = .ok (.invokestatic 214, 3) := by decide +kernel
theorem dX10_write_63 : decode cX10_write 63 = .ok (.iload_n 1, 1) := by decide +kernel
theorem dX10_write_64 : decode cX10_write 64 = .ok (.if_icmp .ne 24, 3) := by decide +kernel
theorem dX10_write_67 : decode cX10_write 67 = .ok (.aload_n 0, 1) := by decide +kernel
theorem dX10_write_68 : decode cX10_write 68 = .ok (.iload 5, 2) := by decide +kernel
theorem dX10_write_70 : decode cX10_write 70 = .ok (.invokevirtual 219, 3) := by decide +kernel
theorem dX10_write_73 : decode cX10_write 73 = .ok (.lstore 6, 2) := by decide +kernel
theorem dX10_write_75 : decode cX10_write 75 = .ok (.lload 6, 2) := by decide +kernel
theorem dX10_write_77 : decode cX10_write 77 = .ok (.lload_n 3, 1) := by decide +kernel
theorem dX10_write_78 : decode cX10_write 78 = .ok (.lcmp, 1) := by decide +kernel
theorem dX10_write_79 : decode cX10_write 79 = .ok (.ifCond .le 9, 3) := by decide +kernel
theorem dX10_write_82 : decode cX10_write 82 = .ok (.lload 6, 2) := by decide +kernel
theorem dX10_write_84 : decode cX10_write 84 = .ok (.lstore_n 3, 1) := by decide +kernel
theorem dX10_write_85 : decode cX10_write 85 = .ok (.iload 5, 2) := by decide +kernel
theorem dX10_write_87 : decode cX10_write 87 = .ok (.istore_n 2, 1) := by decide +kernel
theorem dX10_write_88 : decode cX10_write 88 = .ok (.iinc 5 1, 3) := by decide +kernel
theorem dX10_write_91 : decode cX10_write 91 = .ok (.goto (-47), 3) := by decide +kernel
theorem dX10_write_94 : decode cX10_write 94 = .ok (.iload_n 2, 1) := by decide +kernel
theorem dX10_write_95 : decode cX10_write 95 = .ok (.ireturn, 1) := by decide +kernel
theorem dX10_few_0 : decode cX10_few 0 = .ok (.iload_n 1, 1) := by decide +kernel
theorem dX10_few_1 : decode cX10_few 1 = .ok (.iconst 0, 1) := by decide +kernel
theorem dX10_few_2 : decode cX10_few 2 = .ok (.bipush 16, 2) := by decide +kernel
theorem dX10_few_4 : decode cX10_few 4 = .ok (.invokestatic 94, 3) := by decide +kernel
theorem dX10_few_7 : decode cX10_few 7 = .ok (.ifCond .ne 6, 3) := by decide +kernel
theorem dX10_few_10 : decode cX10_few 10 = .ok (.bipush (-2), 2) := by decide +kernel
theorem dX10_few_12 : decode cX10_few 12 = .ok (.ireturn, 1) := by decide +kernel
theorem dX10_few_13 : decode cX10_few 13 = .ok (.aload_n 0, 1) := by decide +kernel
theorem dX10_few_14 : decode cX10_few 14 = .ok (.getfield 12, 3) := by decide +kernel
theorem dX10_few_17 : decode cX10_few 17 = .ok (.getfield 192, 3) := by decide +kernel
theorem dX10_few_20 : decode cX10_few 20 = .ok (.ifCond .ne 6, 3) := by decide +kernel
theorem dX10_few_23 : decode cX10_few 23 = .ok (.bipush (-3), 2) := by decide +kernel
theorem dX10_few_25 : decode cX10_few 25 = .ok (.ireturn, 1) := by decide +kernel
theorem dX10_few_26 : decode cX10_few 26 = .ok (.ldc2_w 230, 3) := by decide +kernel
theorem dX10_few_29 : decode cX10_few 29 = .ok (.iload_n 1, 1) := by decide +kernel
theorem dX10_few_30 : decode cX10_few 30 = .ok (.i2l, 1) := by decide +kernel
theorem dX10_few_31 : decode cX10_few 31 = .ok (.lmul, 1) := by decide +kernel
theorem dX10_few_32 : decode cX10_few 32 = .ok (.lstore_n 2, 1) := by decide +kernel
theorem dX10_few_33 : decode cX10_few 33 = .ok (.iconst 0, 1) := by decide +kernel
theorem dX10_few_34 : decode cX10_few 34 = .ok (.istore 4, 2) := by decide +kernel
theorem dX10_few_36 : decode cX10_few 36 = .ok (.iload 4, 2) := by decide +kernel
theorem dX10_few_38 : decode cX10_few 38 = .ok (.iconst 3, 1) := by decide +kernel
theorem dX10_few_39 : decode cX10_few 39 = .ok (.if_icmp .gt 56, 3) := by decide +kernel
theorem dX10_few_42 : decode cX10_few 42 = .ok (.iconst 0, 1) := by decide +kernel
theorem dX10_few_43 : decode cX10_few 43 = .ok (.istore 5, 2) := by decide +kernel
theorem dX10_few_45 : decode cX10_few 45 = .ok (.iload 5, 2) := by decide +kernel
theorem dX10_few_47 : decode cX10_few 47 = .ok (.iconst 1, 1) := by decide +kernel
theorem dX10_few_48 : decode cX10_few 48 = .ok (.aload_n 0, 1) := by decide +kernel
theorem dX10_few_49 : decode cX10_few 49 = .ok (.getfield 12, 3) := by decide +kernel
theorem dX10_few_52 : decode cX10_few 52 = .ok (.getfield 211, 3) := by decide +kernel
theorem dX10_few_55 : decode cX10_few 55 = .ok (.ishl, 1) := by decide +kernel
theorem dX10_few_56 : decode cX10_few 56 = .ok (.if_icmp .ge 33, 3) := by decide +kernel
theorem dX10_few_59 : decode cX10_few 59 = .ok (.iload 5, 2) := by decide +kernel
theorem dX10_few_61 : decode cX10_few 61 = .ok (.invokestatic 214, 3) := by decide +kernel
theorem dX10_few_64 : decode cX10_few 64 = .ok (.iload 4, 2) := by decide +kernel
theorem dX10_few_66 : decode cX10_few 66 = .ok (.if_icmp .ne 17, 3) := by decide +kernel
theorem dX10_few_69 : decode cX10_few 69 = .ok (.aload_n 0, 1) := by decide +kernel
theorem dX10_few_70 : decode cX10_few 70 = .ok (.iload 5, 2) := by decide +kernel
theorem dX10_few_72 : decode cX10_few 72 = .ok (.invokevirtual 219, 3) := by decide +kernel
theorem dX10_few_75 : decode cX10_few 75 = .ok (.lload_n 2, 1) := by decide +kernel
theorem dX10_few_76 : decode cX10_few 76 = .ok (.lcmp, 1) := by decide +kernel
theorem dX10_few_77 : decode cX10_few 77 = .ok (.ifCond .lt 6, 3) := by decide +kernel
theorem dX10_few_80 : decode cX10_few 80 = .ok (.iload 5, 2) := by decide +kernel
theorem dX10_few_82 : decode cX10_few 82 = .ok (.ireturn, 1) := by decide +kernel
theorem dX10_few_83 : decode cX10_few 83 = .ok (.iinc 5 1, 3) := by decide +kernel
theorem dX10_few_86 : decode cX10_few 86 = .ok (.goto (-41), 3) := by decide +kernel
theorem dX10_few_89 : decode cX10_few 89 = .ok (.iinc 4 1, 3) := by decide +kernel
theorem dX10_few_92 : decode cX10_few 92 = .ok (.goto (-56), 3) := by decide +kernel
theorem dX10_few_95 : decode cX10_few 95 = .ok (.iconst (-1), 1) := by decide +kernel
theorem dX10_few_96 : decode cX10_few 96 = .ok (.ireturn, 1) := by decide +kernel
theorem dX10_anew_0 : decode cX10_anew 0 = .ok (.iload_n 1, 1) := by decide +kernel
theorem dX10_anew_1 : decode cX10_anew 1 = .ok (.iconst 0, 1) := by decide +kernel
theorem dX10_anew_2 : decode cX10_anew 2 = .ok (.aload_n 0, 1) := by decide +kernel
theorem dX10_anew_3 : decode cX10_anew 3 = .ok (.getfield 12, 3) := by decide +kernel
theorem dX10_anew_6 : decode cX10_anew 6 = .ok (.getfield 211, 3) := by decide +kernel
theorem dX10_anew_9 : decode cX10_anew 9 = .ok (.iconst 1, 1) := by decide +kernel
theorem dX10_anew_10 : decode cX10_anew 10 = .ok (.isub, 1) := by decide +kernel
theorem dX10_anew_11 : decode cX10_anew 11 = .ok (.invokestatic 94, 3) := by decide +kernel
theorem dX10_anew_14 : decode cX10_anew 14 = .ok (.ifCond .ne 6, 3) := by decide +kernel
theorem dX10_anew_17 : decode cX10_anew 17 = .ok (.bipush (-2), 2) := by decide +kernel
theorem dX10_anew_19 : decode cX10_anew 19 = .ok (.ireturn, 1) := by decide +kernel
theorem dX10_anew_20 : decode cX10_anew 20 = .ok (.aload_n 0, 1) := by decide +kernel
theorem dX10_anew_21 : decode cX10_anew 21 = .ok (.getfield 12, 3) := by decide +kernel
theorem dX10_anew_24 : decode cX10_anew 24 = .ok (.iload_n 1, 1) := by decide +kernel
theorem dX10_anew_25 : decode cX10_anew 25 = .ok (.invokevirtual 232, 3) := by decide +kernel
theorem dX10_anew_28 : decode cX10_anew 28 = .ok (.istore_n 2, 1) := by decide +kernel
theorem dX10_anew_29 : decode cX10_anew 29 = .ok (.aload_n 0, 1) := by decide +kernel
theorem dX10_anew_30 : decode cX10_anew 30 = .ok (.getfield 19, 3) := by decide +kernel
theorem dX10_anew_33 : decode cX10_anew 33 = .ok (.iconst 0, 1) := by decide +kernel
theorem dX10_anew_34 : decode cX10_anew 34 = .ok (.invokevirtual 138, 3) := by decide +kernel
theorem dX10_anew_37 : decode cX10_anew 37 = .ok (.i2l, 1) := by decide +kernel
theorem dX10_anew_38 : decode cX10_anew 38 = .ok (.lstore_n 3, 1) := by decide +kernel
theorem dX10_anew_39 : decode cX10_anew 39 = .ok (.lconst 0, 1) := by decide +kernel
theorem dX10_anew_40 : decode cX10_anew 40 = .ok (.lstore 5, 2) := by decide +kernel
theorem dX10_anew_42 : decode cX10_anew 42 = .ok (.iconst 0, 1) := by decide +kernel
theorem dX10_anew_43 : decode cX10_anew 43 = .ok (.istore 7, 2) := by decide +kernel
theorem dX10_anew_45 : decode cX10_anew 45 = .ok (.iload 7, 2) := by decide +kernel
theorem dX10_anew_47 : decode cX10_anew 47 = .ok (.aload_n 0, 1) := by decide +kernel
theorem dX10_anew_48 : decode cX10_anew 48 = .ok (.getfield 12, 3) := by decide +kernel
theorem dX10_anew_51 : decode cX10_anew 51 = .ok (.getfield 211, 3) := by decide +kernel
theorem dX10_anew_54 : decode cX10_anew 54 = .ok (.if_icmp .ge 66, 3) := by decide +kernel
theorem dX10_anew_57 : decode cX10_anew 57 = .ok (.aload_n 0, 1) := by decide +kernel
theorem dX10_anew_58 : decode cX10_anew 58 = .ok (.getfield 12, 3) := by decide +kernel
theorem dX10_anew_61 : decode cX10_anew 61 = .ok (.aload_n 0, 1) := by decide +kernel
theorem dX10_anew_62 : decode cX10_anew 62 = .ok (.getfield 12, 3) := by decide +kernel
theorem dX10_anew_65 : decode cX10_anew 65 = .ok (.iload 7, 2) := by decide +kernel
theorem dX10_anew_67 : decode cX10_anew 67 = .ok (.invokevirtual 232, 3) := by decide +kernel
theorem dX10_anew_70 : decode cX10_anew 70 = .ok (.invokevirtual 119, 3) := by decide +kernel
theorem dX10_anew_73 : decode cX10_anew 73 = .ok (.aload_n 0, 1) := by decide +kernel
theorem dX10_anew_74 : decode cX10_anew 74 = .ok (.getfield 12, 3) := by decide +kernel
theorem dX10_anew_77 : decode cX10_anew 77 = .ok (.iload_n 2, 1) := by decide +kernel
theorem dX10_anew_78 : decode cX10_anew 78 = .ok (.invokevirtual 119, 3) := by decide +kernel
theorem dX10_anew_81 : decode cX10_anew 81 = .ok (.if_icmp .ne 7, 3) := by decide +kernel
theorem dX10_anew_84 : decode cX10_anew 84 = .ok (.iconst 1, 1) := by decide +kernel
theorem dX10_anew_85 : decode cX10_anew 85 = .ok (.goto 4, 3) := by decide +kernel
theorem dX10_anew_88 : decode cX10_anew 88 = .ok (.iconst 0, 1) := by decide +kernel
theorem dX10_anew_89 : decode cX10_anew 89 = .ok (.istore 8, 2) := by decide +kernel
theorem dX10_anew_91 : decode cX10_anew 91 = .ok (.lload 5, 2) := by decide +kernel
theorem dX10_anew_93 : decode cX10_anew 93 = .ok (.iload 8, 2) := by decide +kernel
theorem dX10_anew_95 : decode cX10_anew 95 = .ok (.ifCond .eq 7, 3) := by decide +kernel
theorem dX10_anew_98 : decode cX10_anew 98 = .ok (.lload_n 3, 1) := by decide +kernel
theorem dX10_anew_99 : decode cX10_anew 99 = .ok (.goto 12, 3) := by decide +kernel
theorem dX10_anew_102 : decode cX10_anew 102 = .ok (.aload_n 0, 1) := by decide +kernel
theorem dX10_anew_103 : decode cX10_anew 103 = .ok (.getfield 19, 3) := by decide +kernel
theorem dX10_anew_106 : decode cX10_anew 106 = .ok (.iconst 1, 1) := by decide +kernel
theorem dX10_anew_107 : decode cX10_anew 107 = .ok (.invokevirtual 138, 3) := by decide +kernel
theorem dX10_anew_110 : decode cX10_anew 110 = .ok (.i2l, 1) := by decide +kernel
theorem dX10_anew_111 : decode cX10_anew 111 = .ok (.ladd, 1) := by decide +kernel
theorem dX10_anew_112 : decode cX10_anew 112 = .ok (.lstore 5, 2) := by decide +kernel
theorem dX10_anew_114 : decode cX10_anew 114 = .ok (.iinc 7 1, 3) := by decide +kernel
theorem dX10_anew_117 : decode cX10_anew 117 = .ok (.goto (-72), 3) := by decide +kernel
theorem dX10_anew_120 : decode cX10_anew 120 = .ok (.aload_n 0, 1) := by decide +kernel
theorem dX10_anew_121 : decode cX10_anew 121 = .ok (.getfield 54, 3) := by decide +kernel
theorem dX10_anew_124 : decode cX10_anew 124 = .ok (.aload_n 0, 1) := by decide +kernel
theorem dX10_anew_125 : decode cX10_anew 125 = .ok (.getfield 26, 3) := by decide +kernel
theorem dX10_anew_128 : decode cX10_anew 128 = .ok (.iload_n 2, 1) := by decide +kernel
theorem dX10_anew_129 : decode cX10_anew 129 = .ok (.iconst 0, 1) := by decide +kernel
theorem dX10_anew_130 : decode cX10_anew 130 = .ok (.iconst 0, 1) := by decide +kernel
theorem dX10_anew_131 : decode cX10_anew 131 = .ok (.invokevirtual 202, 3) := by decide +kernel
theorem dX10_anew_134 : decode cX10_anew 134 = .ok (.lload_n 3, 1) := by decide +kernel
theorem dX10_anew_135 : decode cX10_anew 135 = .ok (.ldc2_w 209, 3) := by decide +kernel
theorem dX10_anew_138 : decode cX10_anew 138 = .ok (.lmul, 1) := by decide +kernel
theorem dX10_anew_139 : decode cX10_anew 139 = .ok (.aload_n 0, 1) := by decide +kernel
theorem dX10_anew_140 : decode cX10_anew 140 = .ok (.getfield 54, 3) := by decide +kernel
theorem dX10_anew_143 : decode cX10_anew 143 = .ok (.iconst 0, 1) := by decide +kernel
theorem dX10_anew_144 : decode cX10_anew 144 = .ok (.invokevirtual 206, 3) := by decide +kernel
theorem dX10_anew_147 : decode cX10_anew 147 = .ok (.lload 5, 2) := by decide +kernel
theorem dX10_anew_149 : decode cX10_anew 149 = .ok (.lmul, 1) := by decide +kernel
theorem dX10_anew_150 : decode cX10_anew 150 = .ok (.lcmp, 1) := by decide +kernel
theorem dX10_anew_151 : decode cX10_anew 151 = .ok (.ifCond .le 7, 3) := by decide +kernel
theorem dX10_anew_154 : decode cX10_anew 154 = .ok (.iconst 1, 1) := by decide +kernel
theorem dX10_anew_155 : decode cX10_anew 155 = .ok (.goto 4, 3) := by decide +kernel
theorem dX10_anew_158 : decode cX10_anew 158 = .ok (.iconst 0, 1) := by decide +kernel
theorem dX10_anew_159 : decode cX10_anew 159 = .ok (.ireturn, 1) := by decide +kernel
theorem dX10_joint_0 : decode cX10_joint 0 = .ok (.iload_n 1, 1) := by decide +kernel
theorem dX10_joint_1 : decode cX10_joint 1 = .ok (.iconst 0, 1) := by decide +kernel
theorem dX10_joint_2 : decode cX10_joint 2 = .ok (.bipush 16, 2) := by decide +kernel
theorem dX10_joint_4 : decode cX10_joint 4 = .ok (.invokestatic 94, 3) := by decide +kernel
theorem dX10_joint_7 : decode cX10_joint 7 = .ok (.ifCond .eq 20, 3) := by decide +kernel
theorem dX10_joint_10 : decode cX10_joint 10 = .ok (.iload_n 2, 1) := by decide +kernel
theorem dX10_joint_11 : decode cX10_joint 11 = .ok (.iconst 0, 1) := by decide +kernel
theorem dX10_joint_12 : decode cX10_joint 12 = .ok (.bipush 16, 2) := by decide +kernel
theorem dX10_joint_14 : decode cX10_joint 14 = .ok (.invokestatic 94, 3) := by decide +kernel
theorem dX10_joint_17 : decode cX10_joint 17 = .ok (.ifCond .eq 10, 3) := by decide +kernel
theorem dX10_joint_20 : decode cX10_joint 20 = .ok (.iload_n 3, 1) := by decide +kernel
theorem dX10_joint_21 : decode cX10_joint 21 = .ok (.invokestatic 171, 3) := by decide +kernel
theorem dX10_joint_24 : decode cX10_joint 24 = .ok (.ifCond .ne 9, 3) := by decide +kernel
theorem dX10_joint_27 : decode cX10_joint 27 = .ok (.bipush (-2), 2) := by decide +kernel
theorem dX10_joint_29 : decode cX10_joint 29 = .ok (.invokestatic 174, 3) := by decide +kernel
theorem dX10_joint_32 : decode cX10_joint 32 = .ok (.lreturn, 1) := by decide +kernel
theorem dX10_joint_33 : decode cX10_joint 33 = .ok (.iload_n 1, 1) := by decide +kernel
theorem dX10_joint_34 : decode cX10_joint 34 = .ok (.iload_n 2, 1) := by decide +kernel
theorem dX10_joint_35 : decode cX10_joint 35 = .ok (.imul, 1) := by decide +kernel
theorem dX10_joint_36 : decode cX10_joint 36 = .ok (.istore 4, 2) := by decide +kernel
theorem dX10_joint_38 : decode cX10_joint 38 = .ok (.iload 4, 2) := by decide +kernel
theorem dX10_joint_40 : decode cX10_joint 40 = .ok (.bipush 16, 2) := by decide +kernel
theorem dX10_joint_42 : decode cX10_joint 42 = .ok (.iload_n 1, 1) := by decide +kernel
theorem dX10_joint_43 : decode cX10_joint 43 = .ok (.isub, 1) := by decide +kernel
theorem dX10_joint_44 : decode cX10_joint 44 = .ok (.bipush 16, 2) := by decide +kernel
theorem dX10_joint_46 : decode cX10_joint 46 = .ok (.iload_n 2, 1) := by decide +kernel
theorem dX10_joint_47 : decode cX10_joint 47 = .ok (.isub, 1) := by decide +kernel
theorem dX10_joint_48 : decode cX10_joint 48 = .ok (.imul, 1) := by decide +kernel
theorem dX10_joint_49 : decode cX10_joint 49 = .ok (.iadd, 1) := by decide +kernel
theorem dX10_joint_50 : decode cX10_joint 50 = .ok (.istore 5, 2) := by decide +kernel
theorem dX10_joint_52 : decode cX10_joint 52 = .ok (.iload 5, 2) := by decide +kernel
theorem dX10_joint_54 : decode cX10_joint 54 = .ok (.ifCond .ne 11, 3) := by decide +kernel
theorem dX10_joint_57 : decode cX10_joint 57 = .ok (.bipush (-3), 2) := by decide +kernel
theorem dX10_joint_59 : decode cX10_joint 59 = .ok (.invokestatic 174, 3) := by decide +kernel
theorem dX10_joint_62 : decode cX10_joint 62 = .ok (.goto 13, 3) := by decide +kernel
theorem dX10_joint_65 : decode cX10_joint 65 = .ok (.iload 4, 2) := by decide +kernel
theorem dX10_joint_67 : decode cX10_joint 67 = .ok (.i2l, 1) := by decide +kernel
theorem dX10_joint_68 : decode cX10_joint 68 = .ok (.iload 5, 2) := by decide +kernel
theorem dX10_joint_70 : decode cX10_joint 70 = .ok (.i2l, 1) := by decide +kernel
theorem dX10_joint_71 : decode cX10_joint 71 = .ok (.iload_n 3, 1) := by decide +kernel
theorem dX10_joint_72 : decode cX10_joint 72 = .ok (.invokestatic 188, 3) := by decide +kernel
theorem dX10_joint_75 : decode cX10_joint 75 = .ok (.lreturn, 1) := by decide +kernel
theorem dX10_evening_0 : decode cX10_evening 0 = .ok (.iload_n 1, 1) := by decide +kernel
theorem dX10_evening_1 : decode cX10_evening 1 = .ok (.iconst 0, 1) := by decide +kernel
theorem dX10_evening_2 : decode cX10_evening 2 = .ok (.bipush 59, 2) := by decide +kernel
theorem dX10_evening_4 : decode cX10_evening 4 = .ok (.invokestatic 94, 3) := by decide +kernel
theorem dX10_evening_7 : decode cX10_evening 7 = .ok (.ifCond .eq 10, 3) := by decide +kernel
theorem dX10_evening_10 : decode cX10_evening 10 = .ok (.iload_n 2, 1) := by decide +kernel
theorem dX10_evening_11 : decode cX10_evening 11 = .ok (.invokestatic 171, 3) := by decide +kernel
theorem dX10_evening_14 : decode cX10_evening 14 = .ok (.ifCond .ne 9, 3) := by decide +kernel
theorem dX10_evening_17 : decode cX10_evening 17 = .ok (.bipush (-2), 2) := by decide +kernel
theorem dX10_evening_19 : decode cX10_evening 19 = .ok (.invokestatic 174, 3) := by decide +kernel
theorem dX10_evening_22 : decode cX10_evening 22 = .ok (.lreturn, 1) := by decide +kernel
theorem dX10_evening_23 : decode cX10_evening 23 = .ok (.aload_n 0, 1) := by decide +kernel
theorem dX10_evening_24 : decode cX10_evening 24 = .ok (.getfield 12, 3) := by decide +kernel
theorem dX10_evening_27 : decode cX10_evening 27 = .ok (.getfield 192, 3) := by decide +kernel
theorem dX10_evening_30 : decode cX10_evening 30 = .ok (.ifCond .ne 9, 3) := by decide +kernel
theorem dX10_evening_33 : decode cX10_evening 33 = .ok (.bipush (-3), 2) := by decide +kernel
theorem dX10_evening_35 : decode cX10_evening 35 = .ok (.invokestatic 174, 3) := by decide +kernel
theorem dX10_evening_38 : decode cX10_evening 38 = .ok (.lreturn, 1) := by decide +kernel
theorem dX10_evening_39 : decode cX10_evening 39 = .ok (.aload_n 0, 1) := by decide +kernel
theorem dX10_evening_40 : decode cX10_evening 40 = .ok (.iload_n 1, 1) := by decide +kernel
theorem dX10_evening_41 : decode cX10_evening 41 = .ok (.invokevirtual 235, 3) := by decide +kernel
theorem dX10_evening_44 : decode cX10_evening 44 = .ok (.pop, 1) := by decide +kernel
theorem dX10_evening_45 : decode cX10_evening 45 = .ok (.aload_n 0, 1) := by decide +kernel
theorem dX10_evening_46 : decode cX10_evening 46 = .ok (.invokevirtual 238, 3) := by decide +kernel
theorem dX10_evening_49 : decode cX10_evening 49 = .ok (.ldc2_w 209, 3) := by decide +kernel
theorem dX10_evening_52 : decode cX10_evening 52 = .ok (.iload_n 2, 1) := by decide +kernel
theorem dX10_evening_53 : decode cX10_evening 53 = .ok (.invokestatic 188, 3) := by decide +kernel
theorem dX10_evening_56 : decode cX10_evening 56 = .ok (.lreturn, 1) := by decide +kernel
theorem dX10_prime_0 : decode cX10_prime 0 = .ok (.iload_n 1, 1) := by decide +kernel
theorem dX10_prime_1 : decode cX10_prime 1 = .ok (.iconst 0, 1) := by decide +kernel
theorem dX10_prime_2 : decode cX10_prime 2 = .ok (.iconst 1, 1) := by decide +kernel
theorem dX10_prime_3 : decode cX10_prime 3 = .ok (.invokestatic 94, 3) := by decide +kernel
theorem dX10_prime_6 : decode cX10_prime 6 = .ok (.ifCond .ne 6, 3) := by decide +kernel
theorem dX10_prime_9 : decode cX10_prime 9 = .ok (.bipush (-2), 2) := by decide +kernel
theorem dX10_prime_11 : decode cX10_prime 11 = .ok (.ireturn, 1) := by decide +kernel
theorem dX10_prime_12 : decode cX10_prime 12 = .ok (.aload_n 0, 1) := by decide +kernel
theorem dX10_prime_13 : decode cX10_prime 13 = .ok (.getfield 12, 3) := by decide +kernel
theorem dX10_prime_16 : decode cX10_prime 16 = .ok (.getfield 192, 3) := by decide +kernel
theorem dX10_prime_19 : decode cX10_prime 19 = .ok (.ifCond .ne 6, 3) := by decide +kernel
theorem dX10_prime_22 : decode cX10_prime 22 = .ok (.bipush (-3), 2) := by decide +kernel
theorem dX10_prime_24 : decode cX10_prime 24 = .ok (.ireturn, 1) := by decide +kernel
theorem dX10_prime_25 : decode cX10_prime 25 = .ok (.iconst 0, 1) := by decide +kernel
theorem dX10_prime_26 : decode cX10_prime 26 = .ok (.istore_n 2, 1) := by decide +kernel
theorem dX10_prime_27 : decode cX10_prime 27 = .ok (.iconst 0, 1) := by decide +kernel
theorem dX10_prime_28 : decode cX10_prime 28 = .ok (.istore_n 3, 1) := by decide +kernel
theorem dX10_prime_29 : decode cX10_prime 29 = .ok (.ldc2_w 228, 3) := by decide +kernel
theorem dX10_prime_32 : decode cX10_prime 32 = .ok (.lstore 4, 2) := by decide +kernel
theorem dX10_prime_34 : decode cX10_prime 34 = .ok (.lconst 0, 1) := by decide +kernel
theorem dX10_prime_35 : decode cX10_prime 35 = .ok (.lstore 6, 2) := by decide +kernel
theorem dX10_prime_37 : decode cX10_prime 37 = .ok (.iconst 0, 1) := by decide +kernel
theorem dX10_prime_38 : decode cX10_prime 38 = .ok (.istore 8, 2) := by decide +kernel
theorem dX10_prime_40 : decode cX10_prime 40 = .ok (.iload 8, 2) := by decide +kernel
theorem dX10_prime_42 : decode cX10_prime 42 = .ok (.bipush 60, 2) := by decide +kernel
theorem dX10_prime_44 : decode cX10_prime 44 = .ok (.if_icmp .ge 68, 3) := by decide +kernel
theorem dX10_prime_47 : decode cX10_prime 47 = .ok (.aload_n 0, 1) := by decide +kernel
theorem dX10_prime_48 : decode cX10_prime 48 = .ok (.iload 8, 2) := by decide +kernel
theorem dX10_prime_50 : decode cX10_prime 50 = .ok (.invokevirtual 235, 3) := by decide +kernel
theorem dX10_prime_53 : decode cX10_prime 53 = .ok (.ifCond .ne 8, 3) := by decide +kernel
theorem dX10_prime_56 : decode cX10_prime 56 = .ok (.iload 8, 2) := by decide +kernel
theorem dX10_prime_58 : decode cX10_prime 58 = .ok (.ifCond .ne 9, 3) := by decide +kernel
theorem dX10_prime_61 : decode cX10_prime 61 = .ok (.aload_n 0, 1) := by decide +kernel
theorem dX10_prime_62 : decode cX10_prime 62 = .ok (.invokevirtual 238, 3) := by decide +kernel
theorem dX10_prime_65 : decode cX10_prime 65 = .ok (.lstore 6, 2) := by decide +kernel
theorem dX10_prime_67 : decode cX10_prime 67 = .ok (.lload 6, 2) := by decide +kernel
theorem dX10_prime_69 : decode cX10_prime 69 = .ok (.lload 4, 2) := by decide +kernel
theorem dX10_prime_71 : decode cX10_prime 71 = .ok (.lcmp, 1) := by decide +kernel
theorem dX10_prime_72 : decode cX10_prime 72 = .ok (.ifCond .le 15, 3) := by decide +kernel
theorem dX10_prime_75 : decode cX10_prime 75 = .ok (.lload 6, 2) := by decide +kernel
theorem dX10_prime_77 : decode cX10_prime 77 = .ok (.lstore 4, 2) := by decide +kernel
theorem dX10_prime_79 : decode cX10_prime 79 = .ok (.iload 8, 2) := by decide +kernel
theorem dX10_prime_81 : decode cX10_prime 81 = .ok (.istore_n 2, 1) := by decide +kernel
theorem dX10_prime_82 : decode cX10_prime 82 = .ok (.iconst 1, 1) := by decide +kernel
theorem dX10_prime_83 : decode cX10_prime 83 = .ok (.istore_n 3, 1) := by decide +kernel
theorem dX10_prime_84 : decode cX10_prime 84 = .ok (.goto 22, 3) := by decide +kernel
theorem dX10_prime_87 : decode cX10_prime 87 = .ok (.lload 6, 2) := by decide +kernel
theorem dX10_prime_89 : decode cX10_prime 89 = .ok (.lload 4, 2) := by decide +kernel
theorem dX10_prime_91 : decode cX10_prime 91 = .ok (.lcmp, 1) := by decide +kernel
theorem dX10_prime_92 : decode cX10_prime 92 = .ok (.ifCond .ne 14, 3) := by decide +kernel
theorem dX10_prime_95 : decode cX10_prime 95 = .ok (.iload_n 2, 1) := by decide +kernel
theorem dX10_prime_96 : decode cX10_prime 96 = .ok (.iload_n 3, 1) := by decide +kernel
theorem dX10_prime_97 : decode cX10_prime 97 = .ok (.iadd, 1) := by decide +kernel
theorem dX10_prime_98 : decode cX10_prime 98 = .ok (.iload 8, 2) := by decide +kernel
theorem dX10_prime_100 : decode cX10_prime 100 = .ok (.if_icmp .ne 6, 3) := by decide +kernel
theorem dX10_prime_103 : decode cX10_prime 103 = .ok (.iinc 3 1, 3) := by decide +kernel
theorem dX10_prime_106 : decode cX10_prime 106 = .ok (.iinc 8 1, 3) := by decide +kernel
theorem dX10_prime_109 : decode cX10_prime 109 = .ok (.goto (-69), 3) := by decide +kernel
theorem dX10_prime_112 : decode cX10_prime 112 = .ok (.iload_n 1, 1) := by decide +kernel
theorem dX10_prime_113 : decode cX10_prime 113 = .ok (.ifCond .ne 7, 3) := by decide +kernel
theorem dX10_prime_116 : decode cX10_prime 116 = .ok (.iload_n 2, 1) := by decide +kernel
theorem dX10_prime_117 : decode cX10_prime 117 = .ok (.goto 4, 3) := by decide +kernel
theorem dX10_prime_120 : decode cX10_prime 120 = .ok (.iload_n 3, 1) := by decide +kernel
theorem dX10_prime_121 : decode cX10_prime 121 = .ok (.ireturn, 1) := by decide +kernel
theorem dX10_player_0 : decode cX10_player 0 = .ok (.iload_n 1, 1) := by decide +kernel
theorem dX10_player_1 : decode cX10_player 1 = .ok (.iconst 1, 1) := by decide +kernel
theorem dX10_player_2 : decode cX10_player 2 = .ok (.bipush 98, 2) := by decide +kernel
theorem dX10_player_4 : decode cX10_player 4 = .ok (.invokestatic 94, 3) := by decide +kernel
theorem dX10_player_7 : decode cX10_player 7 = .ok (.ifCond .eq 13, 3) := by decide +kernel
theorem dX10_player_10 : decode cX10_player 10 = .ok (.iload_n 2, 1) := by decide +kernel
theorem dX10_player_11 : decode cX10_player 11 = .ok (.iconst 1, 1) := by decide +kernel
theorem dX10_player_12 : decode cX10_player 12 = .ok (.bipush 99, 2) := by decide +kernel
theorem dX10_player_14 : decode cX10_player 14 = .ok (.invokestatic 94, 3) := by decide +kernel
theorem dX10_player_17 : decode cX10_player 17 = .ok (.ifCond .ne 6, 3) := by decide +kernel
theorem dX10_player_20 : decode cX10_player 20 = .ok (.bipush (-2), 2) := by decide +kernel
theorem dX10_player_22 : decode cX10_player 22 = .ok (.ireturn, 1) := by decide +kernel
theorem dX10_player_23 : decode cX10_player 23 = .ok (.aload_n 0, 1) := by decide +kernel
theorem dX10_player_24 : decode cX10_player 24 = .ok (.getfield 61, 3) := by decide +kernel
theorem dX10_player_27 : decode cX10_player 27 = .ok (.iload_n 1, 1) := by decide +kernel
theorem dX10_player_28 : decode cX10_player 28 = .ok (.iload_n 2, 1) := by decide +kernel
theorem dX10_player_29 : decode cX10_player 29 = .ok (.invokevirtual 242, 3) := by decide +kernel
theorem dX10_player_32 : decode cX10_player 32 = .ok (.ifCond .eq 13, 3) := by decide +kernel
theorem dX10_player_35 : decode cX10_player 35 = .ok (.aload_n 0, 1) := by decide +kernel
theorem dX10_player_36 : decode cX10_player 36 = .ok (.getfield 61, 3) := by decide +kernel
theorem dX10_player_39 : decode cX10_player 39 = .ok (.getfield 245, 3) := by decide +kernel
theorem dX10_player_42 : decode cX10_player 42 = .ok (.goto 5, 3) := by decide +kernel
theorem dX10_player_45 : decode cX10_player 45 = .ok (.bipush (-4), 2) := by decide +kernel
theorem dX10_player_47 : decode cX10_player 47 = .ok (.ireturn, 1) := by decide +kernel
theorem dX10_leave_0 : decode cX10_leave 0 = .ok (.aload_n 0, 1) := by decide +kernel
theorem dX10_leave_1 : decode cX10_leave 1 = .ok (.getfield 61, 3) := by decide +kernel
theorem dX10_leave_4 : decode cX10_leave 4 = .ok (.getfield 245, 3) := by decide +kernel
theorem dX10_leave_7 : decode cX10_leave 7 = .ok (.istore_n 1, 1) := by decide +kernel
theorem dX10_leave_8 : decode cX10_leave 8 = .ok (.aload_n 0, 1) := by decide +kernel
theorem dX10_leave_9 : decode cX10_leave 9 = .ok (.getfield 61, 3) := by decide +kernel
theorem dX10_leave_12 : decode cX10_leave 12 = .ok (.iconst 0, 1) := by decide +kernel
theorem dX10_leave_13 : decode cX10_leave 13 = .ok (.putfield 245, 3) := by decide +kernel
theorem dX10_leave_16 : decode cX10_leave 16 = .ok (.iload_n 1, 1) := by decide +kernel
theorem dX10_leave_17 : decode cX10_leave 17 = .ok (.ireturn, 1) := by decide +kernel
theorem dX10_worth_0 : decode cX10_worth 0 = .ok (.iload_n 1, 1) := by decide +kernel
theorem dX10_worth_1 : decode cX10_worth 1 = .ok (.iconst 0, 1) := by decide +kernel
theorem dX10_worth_2 : decode cX10_worth 2 = .ok (.iconst 1, 1) := by decide +kernel
theorem dX10_worth_3 : decode cX10_worth 3 = .ok (.invokestatic 94, 3) := by decide +kernel
theorem dX10_worth_6 : decode cX10_worth 6 = .ok (.ifCond .ne 6, 3) := by decide +kernel
theorem dX10_worth_9 : decode cX10_worth 9 = .ok (.bipush (-2), 2) := by decide +kernel
theorem dX10_worth_11 : decode cX10_worth 11 = .ok (.ireturn, 1) := by decide +kernel
theorem dX10_worth_12 : decode cX10_worth 12 = .ok (.aload_n 0, 1) := by decide +kernel
theorem dX10_worth_13 : decode cX10_worth 13 = .ok (.getfield 61, 3) := by decide +kernel
theorem dX10_worth_16 : decode cX10_worth 16 = .ok (.invokevirtual 246, 3) := by decide +kernel
theorem dX10_worth_19 : decode cX10_worth 19 = .ok (.istore_n 2, 1) := by decide +kernel
theorem dX10_worth_20 : decode cX10_worth 20 = .ok (.iload_n 1, 1) := by decide +kernel
theorem dX10_worth_21 : decode cX10_worth 21 = .ok (.ifCond .ne 14, 3) := by decide +kernel
theorem dX10_worth_24 : decode cX10_worth 24 = .ok (.aload_n 0, 1) := by decide +kernel
theorem dX10_worth_25 : decode cX10_worth 25 = .ok (.getfield 61, 3) := by decide +kernel
theorem dX10_worth_28 : decode cX10_worth 28 = .ok (.iload_n 2, 1) := by decide +kernel
theorem dX10_worth_29 : decode cX10_worth 29 = .ok (.invokevirtual 250, 3) := by decide +kernel
theorem dX10_worth_32 : decode cX10_worth 32 = .ok (.goto 4, 3) := by decide +kernel
theorem dX10_worth_35 : decode cX10_worth 35 = .ok (.iload_n 2, 1) := by decide +kernel
theorem dX10_worth_36 : decode cX10_worth 36 = .ok (.ireturn, 1) := by decide +kernel
theorem dX10_look_0 : decode cX10_look 0 = .ok (.iload_n 1, 1) := by decide +kernel
theorem dX10_look_1 : decode cX10_look 1 = .ok (.iconst 0, 1) := by decide +kernel
theorem dX10_look_2 : decode cX10_look 2 = .ok (.bipush 98, 2) := by decide +kernel
theorem dX10_look_4 : decode cX10_look 4 = .ok (.invokestatic 94, 3) := by decide +kernel
theorem dX10_look_7 : decode cX10_look 7 = .ok (.ifCond .ne 6, 3) := by decide +kernel
theorem dX10_look_10 : decode cX10_look 10 = .ok (.bipush (-2), 2) := by decide +kernel
theorem dX10_look_12 : decode cX10_look 12 = .ok (.ireturn, 1) := by decide +kernel
theorem dX10_look_13 : decode cX10_look 13 = .ok (.aload_n 0, 1) := by decide +kernel
theorem dX10_look_14 : decode cX10_look 14 = .ok (.getfield 61, 3) := by decide +kernel
theorem dX10_look_17 : decode cX10_look 17 = .ok (.aload_n 0, 1) := by decide +kernel
theorem dX10_look_18 : decode cX10_look 18 = .ok (.getfield 61, 3) := by decide +kernel
theorem dX10_look_21 : decode cX10_look 21 = .ok (.invokevirtual 246, 3) := by decide +kernel
theorem dX10_look_24 : decode cX10_look 24 = .ok (.invokevirtual 250, 3) := by decide +kernel
theorem dX10_look_27 : decode cX10_look 27 = .ok (.pop, 1) := by decide +kernel
theorem dX10_look_28 : decode cX10_look 28 = .ok (.aload_n 0, 1) := by decide +kernel
theorem dX10_look_29 : decode cX10_look 29 = .ok (.getfield 61, 3) := by decide +kernel
theorem dX10_look_32 : decode cX10_look 32 = .ok (.iload_n 1, 1) := by decide +kernel
theorem dX10_look_33 : decode cX10_look 33 = .ok (.invokevirtual 253, 3) := by decide +kernel
theorem dX10_look_36 : decode cX10_look 36 = .ok (.ireturn, 1) := by decide +kernel
theorem dX10_from_0 : decode cX10_from 0 = .ok (.iload_n 1, 1) := by decide +kernel
theorem dX10_from_1 : decode cX10_from 1 = .ok (.iconst 0, 1) := by decide +kernel
theorem dX10_from_2 : decode cX10_from 2 = .ok (.bipush 98, 2) := by decide +kernel
theorem dX10_from_4 : decode cX10_from 4 = .ok (.invokestatic 94, 3) := by decide +kernel
theorem dX10_from_7 : decode cX10_from 7 = .ok (.ifCond .ne 6, 3) := by decide +kernel
theorem dX10_from_10 : decode cX10_from 10 = .ok (.bipush (-2), 2) := by decide +kernel
theorem dX10_from_12 : decode cX10_from 12 = .ok (.ireturn, 1) := by decide +kernel
theorem dX10_from_13 : decode cX10_from 13 = .ok (.aload_n 0, 1) := by decide +kernel
theorem dX10_from_14 : decode cX10_from 14 = .ok (.getfield 68, 3) := by decide +kernel
theorem dX10_from_17 : decode cX10_from 17 = .ok (.getfield 256, 3) := by decide +kernel
theorem dX10_from_20 : decode cX10_from 20 = .ok (.istore_n 2, 1) := by decide +kernel
theorem dX10_from_21 : decode cX10_from 21 = .ok (.aload_n 0, 1) := by decide +kernel
theorem dX10_from_22 : decode cX10_from 22 = .ok (.getfield 68, 3) := by decide +kernel
theorem dX10_from_25 : decode cX10_from 25 = .ok (.iload_n 1, 1) := by decide +kernel
theorem dX10_from_26 : decode cX10_from 26 = .ok (.putfield 256, 3) := by decide +kernel
theorem dX10_from_29 : decode cX10_from 29 = .ok (.iload_n 2, 1) := by decide +kernel
theorem dX10_from_30 : decode cX10_from 30 = .ok (.ireturn, 1) := by decide +kernel
theorem dX10_said_0 : decode cX10_said 0 = .ok (.iload_n 1, 1) := by decide +kernel
theorem dX10_said_1 : decode cX10_said 1 = .ok (.invokestatic 161, 3) := by decide +kernel
theorem dX10_said_4 : decode cX10_said 4 = .ok (.ifCond .ne 6, 3) := by decide +kernel
theorem dX10_said_7 : decode cX10_said 7 = .ok (.bipush (-2), 2) := by decide +kernel
theorem dX10_said_9 : decode cX10_said 9 = .ok (.ireturn, 1) := by decide +kernel
theorem dX10_said_10 : decode cX10_said 10 = .ok (.aload_n 0, 1) := by decide +kernel
theorem dX10_said_11 : decode cX10_said 11 = .ok (.getfield 68, 3) := by decide +kernel
theorem dX10_said_14 : decode cX10_said 14 = .ok (.iload_n 1, 1) := by decide +kernel
theorem dX10_said_15 : decode cX10_said 15 = .ok (.invokevirtual 164, 3) := by decide +kernel
theorem dX10_said_18 : decode cX10_said 18 = .ok (.ifCond .eq 13, 3) := by decide +kernel
theorem dX10_said_21 : decode cX10_said 21 = .ok (.aload_n 0, 1) := by decide +kernel
theorem dX10_said_22 : decode cX10_said 22 = .ok (.getfield 68, 3) := by decide +kernel
theorem dX10_said_25 : decode cX10_said 25 = .ok (.getfield 165, 3) := by decide +kernel
theorem dX10_said_28 : decode cX10_said 28 = .ok (.goto 5, 3) := by decide +kernel
theorem dX10_said_31 : decode cX10_said 31 = .ok (.bipush (-4), 2) := by decide +kernel
theorem dX10_said_33 : decode cX10_said 33 = .ok (.ireturn, 1) := by decide +kernel
theorem dX10_wrong_0 : decode cX10_wrong 0 = .ok (.iload_n 1, 1) := by decide +kernel
theorem dX10_wrong_1 : decode cX10_wrong 1 = .ok (.iconst 0, 1) := by decide +kernel
theorem dX10_wrong_2 : decode cX10_wrong 2 = .ok (.iconst 1, 1) := by decide +kernel
theorem dX10_wrong_3 : decode cX10_wrong 3 = .ok (.invokestatic 94, 3) := by decide +kernel
theorem dX10_wrong_6 : decode cX10_wrong 6 = .ok (.ifCond .ne 6, 3) := by decide +kernel
theorem dX10_wrong_9 : decode cX10_wrong 9 = .ok (.bipush (-2), 2) := by decide +kernel
theorem dX10_wrong_11 : decode cX10_wrong 11 = .ok (.ireturn, 1) := by decide +kernel
theorem dX10_wrong_12 : decode cX10_wrong 12 = .ok (.iload_n 1, 1) := by decide +kernel
theorem dX10_wrong_13 : decode cX10_wrong 13 = .ok (.ifCond .ne 13, 3) := by decide +kernel
theorem dX10_wrong_16 : decode cX10_wrong 16 = .ok (.aload_n 0, 1) := by decide +kernel
theorem dX10_wrong_17 : decode cX10_wrong 17 = .ok (.getfield 68, 3) := by decide +kernel
theorem dX10_wrong_20 : decode cX10_wrong 20 = .ok (.invokevirtual 259, 3) := by decide +kernel
theorem dX10_wrong_23 : decode cX10_wrong 23 = .ok (.goto 10, 3) := by decide +kernel
theorem dX10_wrong_26 : decode cX10_wrong 26 = .ok (.aload_n 0, 1) := by decide +kernel
theorem dX10_wrong_27 : decode cX10_wrong 27 = .ok (.getfield 68, 3) := by decide +kernel
theorem dX10_wrong_30 : decode cX10_wrong 30 = .ok (.invokevirtual 262, 3) := by decide +kernel
theorem dX10_wrong_33 : decode cX10_wrong 33 = .ok (.ireturn, 1) := by decide +kernel
theorem dX10_blame_0 : decode cX10_blame 0 = .ok (.aload_n 0, 1) := by decide +kernel
theorem dX10_blame_1 : decode cX10_blame 1 = .ok (.getfield 68, 3) := by decide +kernel
theorem dX10_blame_4 : decode cX10_blame 4 = .ok (.invokevirtual 259, 3) := by decide +kernel
theorem dX10_blame_7 : decode cX10_blame 7 = .ok (.istore_n 1, 1) := by decide +kernel
theorem dX10_blame_8 : decode cX10_blame 8 = .ok (.aload_n 0, 1) := by decide +kernel
theorem dX10_blame_9 : decode cX10_blame 9 = .ok (.getfield 68, 3) := by decide +kernel
theorem dX10_blame_12 : decode cX10_blame 12 = .ok (.getfield 256, 3) := by decide +kernel
theorem dX10_blame_15 : decode cX10_blame 15 = .ok (.iload_n 1, 1) := by decide +kernel
theorem dX10_blame_16 : decode cX10_blame 16 = .ok (.iadd, 1) := by decide +kernel
theorem dX10_blame_17 : decode cX10_blame 17 = .ok (.iconst 1, 1) := by decide +kernel
theorem dX10_blame_18 : decode cX10_blame 18 = .ok (.isub, 1) := by decide +kernel
theorem dX10_blame_19 : decode cX10_blame 19 = .ok (.istore_n 2, 1) := by decide +kernel
theorem dX10_blame_20 : decode cX10_blame 20 = .ok (.iload_n 1, 1) := by decide +kernel
theorem dX10_blame_21 : decode cX10_blame 21 = .ok (.iconst (-1), 1) := by decide +kernel
theorem dX10_blame_22 : decode cX10_blame 22 = .ok (.if_icmp .eq 25, 3) := by decide +kernel
theorem dX10_blame_25 : decode cX10_blame 25 = .ok (.aload_n 0, 1) := by decide +kernel
theorem dX10_blame_26 : decode cX10_blame 26 = .ok (.getfield 12, 3) := by decide +kernel
theorem dX10_blame_29 : decode cX10_blame 29 = .ok (.iload_n 2, 1) := by decide +kernel
theorem dX10_blame_30 : decode cX10_blame 30 = .ok (.invokevirtual 265, 3) := by decide +kernel
theorem dX10_blame_33 : decode cX10_blame 33 = .ok (.ifCond .eq 14, 3) := by decide +kernel
theorem dX10_blame_36 : decode cX10_blame 36 = .ok (.aload_n 0, 1) := by decide +kernel
theorem dX10_blame_37 : decode cX10_blame 37 = .ok (.getfield 12, 3) := by decide +kernel
theorem dX10_blame_40 : decode cX10_blame 40 = .ok (.iload_n 2, 1) := by decide +kernel
theorem dX10_blame_41 : decode cX10_blame 41 = .ok (.invokevirtual 115, 3) := by decide +kernel
theorem dX10_blame_44 : decode cX10_blame 44 = .ok (.goto 4, 3) := by decide +kernel
theorem dX10_blame_47 : decode cX10_blame 47 = .ok (.iconst (-1), 1) := by decide +kernel
theorem dX10_blame_48 : decode cX10_blame 48 = .ok (.ireturn, 1) := by decide +kernel
theorem dX10_night_0 : decode cX10_night 0 = .ok (.iload_n 2, 1) := by decide +kernel
theorem dX10_night_1 : decode cX10_night 1 = .ok (.iconst 0, 1) := by decide +kernel
theorem dX10_night_2 : decode cX10_night 2 = .ok (.bipush 99, 2) := by decide +kernel
theorem dX10_night_4 : decode cX10_night 4 = .ok (.invokestatic 94, 3) := by decide +kernel
theorem dX10_night_7 : decode cX10_night 7 = .ok (.ifCond .ne 6, 3) := by decide +kernel
theorem dX10_night_10 : decode cX10_night 10 = .ok (.bipush (-102), 2) := by decide +kernel
theorem dX10_night_12 : decode cX10_night 12 = .ok (.ireturn, 1) := by decide +kernel
theorem dX10_night_13 : decode cX10_night 13 = .ok (.aload_n 0, 1) := by decide +kernel
theorem dX10_night_14 : decode cX10_night 14 = .ok (.getfield 75, 3) := by decide +kernel
theorem dX10_night_17 : decode cX10_night 17 = .ok (.iload_n 1, 1) := by decide +kernel
theorem dX10_night_18 : decode cX10_night 18 = .ok (.putfield 268, 3) := by decide +kernel
theorem dX10_night_21 : decode cX10_night 21 = .ok (.iload_n 2, 1) := by decide +kernel
theorem dX10_night_22 : decode cX10_night 22 = .ok (.ifCond .ne 8, 3) := by decide +kernel
theorem dX10_night_25 : decode cX10_night 25 = .ok (.aload_n 0, 1) := by decide +kernel
theorem dX10_night_26 : decode cX10_night 26 = .ok (.invokevirtual 271, 3) := by decide +kernel
theorem dX10_night_29 : decode cX10_night 29 = .ok (.ireturn, 1) := by decide +kernel
theorem dX10_night_30 : decode cX10_night 30 = .ok (.iconst 0, 1) := by decide +kernel
theorem dX10_night_31 : decode cX10_night 31 = .ok (.istore_n 3, 1) := by decide +kernel
theorem dX10_night_32 : decode cX10_night 32 = .ok (.iconst 0, 1) := by decide +kernel
theorem dX10_night_33 : decode cX10_night 33 = .ok (.istore 4, 2) := by decide +kernel
theorem dX10_night_35 : decode cX10_night 35 = .ok (.iload 4, 2) := by decide +kernel
theorem dX10_night_37 : decode cX10_night 37 = .ok (.iload_n 2, 1) := by decide +kernel
theorem dX10_night_38 : decode cX10_night 38 = .ok (.if_icmp .ge 19, 3) := by decide +kernel
theorem dX10_night_41 : decode cX10_night 41 = .ok (.aload_n 0, 1) := by decide +kernel
theorem dX10_night_42 : decode cX10_night 42 = .ok (.invokevirtual 271, 3) := by decide +kernel
theorem dX10_night_45 : decode cX10_night 45 = .ok (.ifCond .ne 6, 3) := by decide +kernel
theorem dX10_night_48 : decode cX10_night 48 = .ok (.iinc 3 1, 3) := by decide +kernel
theorem dX10_night_51 : decode cX10_night 51 = .ok (.iinc 4 1, 3) := by decide +kernel
theorem dX10_night_54 : decode cX10_night 54 = .ok (.goto (-19), 3) := by decide +kernel
theorem dX10_night_57 : decode cX10_night 57 = .ok (.iload_n 3, 1) := by decide +kernel
theorem dX10_night_58 : decode cX10_night 58 = .ok (.ireturn, 1) := by decide +kernel
theorem dX10_sheet_0 : decode cX10_sheet 0 = .ok (.aload_n 0, 1) := by decide +kernel
theorem dX10_sheet_1 : decode cX10_sheet 1 = .ok (.iload_n 1, 1) := by decide +kernel
theorem dX10_sheet_2 : decode cX10_sheet 2 = .ok (.invokevirtual 144, 3) := by decide +kernel
theorem dX10_sheet_5 : decode cX10_sheet 5 = .ok (.astore 4, 2) := by decide +kernel
theorem dX10_sheet_7 : decode cX10_sheet 7 = .ok (.aload 4, 2) := by decide +kernel
theorem dX10_sheet_9 : decode cX10_sheet 9 = .ok (.ifnull 18, 3) := by decide +kernel
theorem dX10_sheet_12 : decode cX10_sheet 12 = .ok (.iload_n 2, 1) := by decide +kernel
theorem dX10_sheet_13 : decode cX10_sheet 13 = .ok (.iconst 0, 1) := by decide +kernel
theorem dX10_sheet_14 : decode cX10_sheet 14 = .ok (.iconst 2, 1) := by decide +kernel
theorem dX10_sheet_15 : decode cX10_sheet 15 = .ok (.invokestatic 94, 3) := by decide +kernel
theorem dX10_sheet_18 : decode cX10_sheet 18 = .ok (.ifCond .eq 9, 3) := by decide +kernel
theorem dX10_sheet_21 : decode cX10_sheet 21 = .ok (.iload_n 3, 1) := by decide +kernel
theorem dX10_sheet_22 : decode cX10_sheet 22 = .ok (.bipush 48, 2) := by decide +kernel
theorem dX10_sheet_24 : decode cX10_sheet 24 = .ok (.if_icmp .le 6, 3) := by decide +kernel
theorem dX10_sheet_27 : decode cX10_sheet 27 = .ok (.bipush (-2), 2) := by decide +kernel
theorem dX10_sheet_29 : decode cX10_sheet 29 = .ok (.ireturn, 1) := by decide +kernel
theorem dX10_sheet_30 : decode cX10_sheet 30 = .ok (.iload_n 3, 1) := by decide +kernel
theorem dX10_sheet_31 : decode cX10_sheet 31 = .ok (.ifCond .ge 9, 3) := by decide +kernel
theorem dX10_sheet_34 : decode cX10_sheet 34 = .ok (.aload_n 0, 1) := by decide +kernel
theorem dX10_sheet_35 : decode cX10_sheet 35 = .ok (.iconst 5, 1) := by decide +kernel
theorem dX10_sheet_36 : decode cX10_sheet 36 = .ok (.invokevirtual 151, 3) := by decide +kernel
theorem dX10_sheet_39 : decode cX10_sheet 39 = .ok (.ireturn, 1) := by decide +kernel
theorem dX10_sheet_40 : decode cX10_sheet 40 = .ok (.aload 4, 2) := by decide +kernel
theorem dX10_sheet_42 : decode cX10_sheet 42 = .ok (.iload_n 2, 1) := by decide +kernel
theorem dX10_sheet_43 : decode cX10_sheet 43 = .ok (.iload_n 3, 1) := by decide +kernel
theorem dX10_sheet_44 : decode cX10_sheet 44 = .ok (.invokevirtual 274, 3) := by decide +kernel
theorem dX10_sheet_47 : decode cX10_sheet 47 = .ok (.iload_n 3, 1) := by decide +kernel
theorem dX10_sheet_48 : decode cX10_sheet 48 = .ok (.ireturn, 1) := by decide +kernel
theorem dX10_lose_0 : decode cX10_lose 0 = .ok (.aload_n 0, 1) := by decide +kernel
theorem dX10_lose_1 : decode cX10_lose 1 = .ok (.iload_n 1, 1) := by decide +kernel
theorem dX10_lose_2 : decode cX10_lose 2 = .ok (.invokevirtual 144, 3) := by decide +kernel
theorem dX10_lose_5 : decode cX10_lose 5 = .ok (.astore_n 2, 1) := by decide +kernel
theorem dX10_lose_6 : decode cX10_lose 6 = .ok (.aload_n 2, 1) := by decide +kernel
theorem dX10_lose_7 : decode cX10_lose 7 = .ok (.ifnonnull 6, 3) := by decide +kernel
theorem dX10_lose_10 : decode cX10_lose 10 = .ok (.bipush (-2), 2) := by decide +kernel
theorem dX10_lose_12 : decode cX10_lose 12 = .ok (.ireturn, 1) := by decide +kernel
theorem dX10_lose_13 : decode cX10_lose 13 = .ok (.aload_n 2, 1) := by decide +kernel
theorem dX10_lose_14 : decode cX10_lose 14 = .ok (.getfield 148, 3) := by decide +kernel
theorem dX10_lose_17 : decode cX10_lose 17 = .ok (.ifCond .eq 9, 3) := by decide +kernel
theorem dX10_lose_20 : decode cX10_lose 20 = .ok (.aload_n 0, 1) := by decide +kernel
theorem dX10_lose_21 : decode cX10_lose 21 = .ok (.iconst 1, 1) := by decide +kernel
theorem dX10_lose_22 : decode cX10_lose 22 = .ok (.invokevirtual 151, 3) := by decide +kernel
theorem dX10_lose_25 : decode cX10_lose 25 = .ok (.ireturn, 1) := by decide +kernel
theorem dX10_lose_26 : decode cX10_lose 26 = .ok (.aload_n 2, 1) := by decide +kernel
theorem dX10_lose_27 : decode cX10_lose 27 = .ok (.iconst 1, 1) := by decide +kernel
theorem dX10_lose_28 : decode cX10_lose 28 = .ok (.putfield 148, 3) := by decide +kernel
theorem dX10_lose_31 : decode cX10_lose 31 = .ok (.aload_n 2, 1) := by decide +kernel
theorem dX10_lose_32 : decode cX10_lose 32 = .ok (.getfield 157, 3) := by decide +kernel
theorem dX10_lose_35 : decode cX10_lose 35 = .ok (.ireturn, 1) := by decide +kernel
theorem dX10_put_0 : decode cX10_put 0 = .ok (.aload_n 0, 1) := by decide +kernel
theorem dX10_put_1 : decode cX10_put 1 = .ok (.iload_n 1, 1) := by decide +kernel
theorem dX10_put_2 : decode cX10_put 2 = .ok (.invokevirtual 144, 3) := by decide +kernel
theorem dX10_put_5 : decode cX10_put 5 = .ok (.astore 5, 2) := by decide +kernel
theorem dX10_put_7 : decode cX10_put 7 = .ok (.aload 5, 2) := by decide +kernel
theorem dX10_put_9 : decode cX10_put 9 = .ok (.ifnull 12, 3) := by decide +kernel
theorem dX10_put_12 : decode cX10_put 12 = .ok (.iload_n 2, 1) := by decide +kernel
theorem dX10_put_13 : decode cX10_put 13 = .ok (.iconst 0, 1) := by decide +kernel
theorem dX10_put_14 : decode cX10_put 14 = .ok (.iconst 2, 1) := by decide +kernel
theorem dX10_put_15 : decode cX10_put 15 = .ok (.invokestatic 94, 3) := by decide +kernel
theorem dX10_put_18 : decode cX10_put 18 = .ok (.ifCond .ne 6, 3) := by decide +kernel
theorem dX10_put_21 : decode cX10_put 21 = .ok (.bipush (-2), 2) := by decide +kernel
theorem dX10_put_23 : decode cX10_put 23 = .ok (.ireturn, 1) := by decide +kernel
theorem dX10_put_24 : decode cX10_put 24 = .ok (.aload 5, 2) := by decide +kernel
theorem dX10_put_26 : decode cX10_put 26 = .ok (.iload_n 2, 1) := by decide +kernel
theorem dX10_put_27 : decode cX10_put 27 = .ok (.iload_n 3, 1) := by decide +kernel
theorem dX10_put_28 : decode cX10_put 28 = .ok (.invokevirtual 277, 3) := by decide +kernel
theorem dX10_put_31 : decode cX10_put 31 = .ok (.istore 6, 2) := by decide +kernel
theorem dX10_put_33 : decode cX10_put 33 = .ok (.iload 6, 2) := by decide +kernel
theorem dX10_put_35 : decode cX10_put 35 = .ok (.ifCond .eq 10, 3) := by decide +kernel
theorem dX10_put_38 : decode cX10_put 38 = .ok (.aload_n 0, 1) := by decide +kernel
theorem dX10_put_39 : decode cX10_put 39 = .ok (.iload 6, 2) := by decide +kernel
theorem dX10_put_41 : decode cX10_put 41 = .ok (.invokevirtual 151, 3) := by decide +kernel
theorem dX10_put_44 : decode cX10_put 44 = .ok (.ireturn, 1) := by decide +kernel
theorem dX10_put_45 : decode cX10_put 45 = .ok (.aload 5, 2) := by decide +kernel
theorem dX10_put_47 : decode cX10_put 47 = .ok (.iload_n 3, 1) := by decide +kernel
theorem dX10_put_48 : decode cX10_put 48 = .ok (.iload 4, 2) := by decide +kernel
theorem dX10_put_50 : decode cX10_put 50 = .ok (.invokevirtual 280, 3) := by decide +kernel
theorem dX10_put_53 : decode cX10_put 53 = .ok (.iconst 1, 1) := by decide +kernel
theorem dX10_put_54 : decode cX10_put 54 = .ok (.ireturn, 1) := by decide +kernel
theorem dX10_get_0 : decode cX10_get 0 = .ok (.aload_n 0, 1) := by decide +kernel
theorem dX10_get_1 : decode cX10_get 1 = .ok (.iload_n 1, 1) := by decide +kernel
theorem dX10_get_2 : decode cX10_get 2 = .ok (.invokevirtual 144, 3) := by decide +kernel
theorem dX10_get_5 : decode cX10_get 5 = .ok (.astore 4, 2) := by decide +kernel
theorem dX10_get_7 : decode cX10_get 7 = .ok (.aload 4, 2) := by decide +kernel
theorem dX10_get_9 : decode cX10_get 9 = .ok (.ifnull 12, 3) := by decide +kernel
theorem dX10_get_12 : decode cX10_get 12 = .ok (.iload_n 2, 1) := by decide +kernel
theorem dX10_get_13 : decode cX10_get 13 = .ok (.iconst 0, 1) := by decide +kernel
theorem dX10_get_14 : decode cX10_get 14 = .ok (.iconst 2, 1) := by decide +kernel
theorem dX10_get_15 : decode cX10_get 15 = .ok (.invokestatic 94, 3) := by decide +kernel
theorem dX10_get_18 : decode cX10_get 18 = .ok (.ifCond .ne 7, 3) := by decide +kernel
theorem dX10_get_21 : decode cX10_get 21 = .ok (.ldc_w 281, 3) := by decide +kernel
theorem dX10_get_24 : decode cX10_get 24 = .ok (.ireturn, 1) := by decide +kernel
theorem dX10_get_25 : decode cX10_get 25 = .ok (.aload 4, 2) := by decide +kernel
theorem dX10_get_27 : decode cX10_get 27 = .ok (.iload_n 2, 1) := by decide +kernel
theorem dX10_get_28 : decode cX10_get 28 = .ok (.iload_n 3, 1) := by decide +kernel
theorem dX10_get_29 : decode cX10_get 29 = .ok (.invokevirtual 277, 3) := by decide +kernel
theorem dX10_get_32 : decode cX10_get 32 = .ok (.istore 5, 2) := by decide +kernel
theorem dX10_get_34 : decode cX10_get 34 = .ok (.iload 5, 2) := by decide +kernel
theorem dX10_get_36 : decode cX10_get 36 = .ok (.ifCond .eq 13, 3) := by decide +kernel
theorem dX10_get_39 : decode cX10_get 39 = .ok (.aload_n 0, 1) := by decide +kernel
theorem dX10_get_40 : decode cX10_get 40 = .ok (.iload 5, 2) := by decide +kernel
theorem dX10_get_42 : decode cX10_get 42 = .ok (.putfield 90, 3) := by decide +kernel
theorem dX10_get_45 : decode cX10_get 45 = .ok (.ldc_w 281, 3) := by decide +kernel
theorem dX10_get_48 : decode cX10_get 48 = .ok (.ireturn, 1) := by decide +kernel
theorem dX10_get_49 : decode cX10_get 49 = .ok (.aload 4, 2) := by decide +kernel
theorem dX10_get_51 : decode cX10_get 51 = .ok (.iload_n 3, 1) := by decide +kernel
theorem dX10_get_52 : decode cX10_get 52 = .ok (.invokevirtual 158, 3) := by decide +kernel
theorem dX10_get_55 : decode cX10_get 55 = .ok (.ireturn, 1) := by decide +kernel
theorem dX10_copy_0 : decode cX10_copy 0 = .ok (.aload_n 0, 1) := by decide +kernel
theorem dX10_copy_1 : decode cX10_copy 1 = .ok (.iload_n 1, 1) := by decide +kernel
theorem dX10_copy_2 : decode cX10_copy 2 = .ok (.invokevirtual 144, 3) := by decide +kernel
theorem dX10_copy_5 : decode cX10_copy 5 = .ok (.astore 6, 2) := by decide +kernel
theorem dX10_copy_7 : decode cX10_copy 7 = .ok (.aload_n 0, 1) := by decide +kernel
theorem dX10_copy_8 : decode cX10_copy 8 = .ok (.iload_n 3, 1) := by decide +kernel
theorem dX10_copy_9 : decode cX10_copy 9 = .ok (.invokevirtual 144, 3) := by decide +kernel
theorem dX10_copy_12 : decode cX10_copy 12 = .ok (.astore 7, 2) := by decide +kernel
theorem dX10_copy_14 : decode cX10_copy 14 = .ok (.aload 6, 2) := by decide +kernel
theorem dX10_copy_16 : decode cX10_copy 16 = .ok (.ifnull 8, 3) := by decide +kernel
theorem dX10_copy_19 : decode cX10_copy 19 = .ok (.aload 7, 2) := by decide +kernel
theorem dX10_copy_21 : decode cX10_copy 21 = .ok (.ifnonnull 6, 3) := by decide +kernel
theorem dX10_copy_24 : decode cX10_copy 24 = .ok (.bipush (-2), 2) := by decide +kernel
theorem dX10_copy_26 : decode cX10_copy 26 = .ok (.ireturn, 1) := by decide +kernel
theorem dX10_copy_27 : decode cX10_copy 27 = .ok (.aload 6, 2) := by decide +kernel
theorem dX10_copy_29 : decode cX10_copy 29 = .ok (.getfield 148, 3) := by decide +kernel
theorem dX10_copy_32 : decode cX10_copy 32 = .ok (.ifCond .ne 11, 3) := by decide +kernel
theorem dX10_copy_35 : decode cX10_copy 35 = .ok (.aload 7, 2) := by decide +kernel
theorem dX10_copy_37 : decode cX10_copy 37 = .ok (.getfield 148, 3) := by decide +kernel
theorem dX10_copy_40 : decode cX10_copy 40 = .ok (.ifCond .eq 9, 3) := by decide +kernel
theorem dX10_copy_43 : decode cX10_copy 43 = .ok (.aload_n 0, 1) := by decide +kernel
theorem dX10_copy_44 : decode cX10_copy 44 = .ok (.iconst 1, 1) := by decide +kernel
theorem dX10_copy_45 : decode cX10_copy 45 = .ok (.invokevirtual 151, 3) := by decide +kernel
theorem dX10_copy_48 : decode cX10_copy 48 = .ok (.ireturn, 1) := by decide +kernel
theorem dX10_copy_49 : decode cX10_copy 49 = .ok (.aload 6, 2) := by decide +kernel
theorem dX10_copy_51 : decode cX10_copy 51 = .ok (.getfield 282, 3) := by decide +kernel
theorem dX10_copy_54 : decode cX10_copy 54 = .ok (.aload 7, 2) := by decide +kernel
theorem dX10_copy_56 : decode cX10_copy 56 = .ok (.getfield 282, 3) := by decide +kernel
theorem dX10_copy_59 : decode cX10_copy 59 = .ok (.if_icmp .eq 9, 3) := by decide +kernel
theorem dX10_copy_62 : decode cX10_copy 62 = .ok (.aload_n 0, 1) := by decide +kernel
theorem dX10_copy_63 : decode cX10_copy 63 = .ok (.iconst 4, 1) := by decide +kernel
theorem dX10_copy_64 : decode cX10_copy 64 = .ok (.invokevirtual 151, 3) := by decide +kernel
theorem dX10_copy_67 : decode cX10_copy 67 = .ok (.ireturn, 1) := by decide +kernel
theorem dX10_copy_68 : decode cX10_copy 68 = .ok (.aload 6, 2) := by decide +kernel
theorem dX10_copy_70 : decode cX10_copy 70 = .ok (.iload_n 2, 1) := by decide +kernel
theorem dX10_copy_71 : decode cX10_copy 71 = .ok (.iload 5, 2) := by decide +kernel
theorem dX10_copy_73 : decode cX10_copy 73 = .ok (.invokevirtual 285, 3) := by decide +kernel
theorem dX10_copy_76 : decode cX10_copy 76 = .ok (.ifCond .eq 15, 3) := by decide +kernel
theorem dX10_copy_79 : decode cX10_copy 79 = .ok (.aload 7, 2) := by decide +kernel
theorem dX10_copy_81 : decode cX10_copy 81 = .ok (.iload 4, 2) := by decide +kernel
theorem dX10_copy_83 : decode cX10_copy 83 = .ok (.iload 5, 2) := by decide +kernel
theorem dX10_copy_85 : decode cX10_copy 85 = .ok (.invokevirtual 285, 3) := by decide +kernel
theorem dX10_copy_88 : decode cX10_copy 88 = .ok (.ifCond .ne 9, 3) := by decide +kernel
theorem dX10_copy_91 : decode cX10_copy 91 = .ok (.aload_n 0, 1) := by decide +kernel
theorem dX10_copy_92 : decode cX10_copy 92 = .ok (.iconst 2, 1) := by decide +kernel
theorem dX10_copy_93 : decode cX10_copy 93 = .ok (.invokevirtual 151, 3) := by decide +kernel
theorem dX10_copy_96 : decode cX10_copy 96 = .ok (.ireturn, 1) := by decide +kernel
theorem dX10_copy_97 : decode cX10_copy 97 = .ok (.aload 6, 2) := by decide +kernel
theorem dX10_copy_99 : decode cX10_copy 99 = .ok (.getfield 288, 3) := by decide +kernel
theorem dX10_copy_102 : decode cX10_copy 102 = .ok (.iload_n 2, 1) := by decide +kernel
theorem dX10_copy_103 : decode cX10_copy 103 = .ok (.aload 7, 2) := by decide +kernel
theorem dX10_copy_105 : decode cX10_copy 105 = .ok (.getfield 288, 3) := by decide +kernel
theorem dX10_copy_108 : decode cX10_copy 108 = .ok (.iload 4, 2) := by decide +kernel
theorem dX10_copy_110 : decode cX10_copy 110 = .ok (.iload 5, 2) := by decide +kernel
theorem dX10_copy_112 : decode cX10_copy 112 = .ok (.invokestatic 292, 3) := by decide +kernel
theorem dX10_copy_115 : decode cX10_copy 115 = .ok (.iconst 1, 1) := by decide +kernel
theorem dX10_copy_116 : decode cX10_copy 116 = .ok (.ireturn, 1) := by decide +kernel
theorem dX10_tell_0 : decode cX10_tell 0 = .ok (.aload_n 0, 1) := by decide +kernel
theorem dX10_tell_1 : decode cX10_tell 1 = .ok (.iload_n 1, 1) := by decide +kernel
theorem dX10_tell_2 : decode cX10_tell 2 = .ok (.invokevirtual 144, 3) := by decide +kernel
theorem dX10_tell_5 : decode cX10_tell 5 = .ok (.astore_n 2, 1) := by decide +kernel
theorem dX10_tell_6 : decode cX10_tell 6 = .ok (.aload_n 2, 1) := by decide +kernel
theorem dX10_tell_7 : decode cX10_tell 7 = .ok (.ifnonnull 6, 3) := by decide +kernel
theorem dX10_tell_10 : decode cX10_tell 10 = .ok (.bipush (-2), 2) := by decide +kernel
theorem dX10_tell_12 : decode cX10_tell 12 = .ok (.ireturn, 1) := by decide +kernel
theorem dX10_tell_13 : decode cX10_tell 13 = .ok (.aload_n 2, 1) := by decide +kernel
theorem dX10_tell_14 : decode cX10_tell 14 = .ok (.getfield 148, 3) := by decide +kernel
theorem dX10_tell_17 : decode cX10_tell 17 = .ok (.ifCond .eq 9, 3) := by decide +kernel
theorem dX10_tell_20 : decode cX10_tell 20 = .ok (.aload_n 0, 1) := by decide +kernel
theorem dX10_tell_21 : decode cX10_tell 21 = .ok (.iconst 1, 1) := by decide +kernel
theorem dX10_tell_22 : decode cX10_tell 22 = .ok (.invokevirtual 151, 3) := by decide +kernel
theorem dX10_tell_25 : decode cX10_tell 25 = .ok (.ireturn, 1) := by decide +kernel
theorem dX10_tell_26 : decode cX10_tell 26 = .ok (.aload_n 2, 1) := by decide +kernel
theorem dX10_tell_27 : decode cX10_tell 27 = .ok (.getfield 157, 3) := by decide +kernel
theorem dX10_tell_30 : decode cX10_tell 30 = .ok (.aload_n 0, 1) := by decide +kernel
theorem dX10_tell_31 : decode cX10_tell 31 = .ok (.getfield 12, 3) := by decide +kernel
theorem dX10_tell_34 : decode cX10_tell 34 = .ok (.getfield 192, 3) := by decide +kernel
theorem dX10_tell_37 : decode cX10_tell 37 = .ok (.invokestatic 222, 3) := by decide +kernel
theorem dX10_tell_40 : decode cX10_tell 40 = .ok (.istore_n 3, 1) := by decide +kernel
theorem dX10_tell_41 : decode cX10_tell 41 = .ok (.iconst 0, 1) := by decide +kernel
theorem dX10_tell_42 : decode cX10_tell 42 = .ok (.istore 4, 2) := by decide +kernel
theorem dX10_tell_44 : decode cX10_tell 44 = .ok (.iload 4, 2) := by decide +kernel
theorem dX10_tell_46 : decode cX10_tell 46 = .ok (.iload_n 3, 1) := by decide +kernel
theorem dX10_tell_47 : decode cX10_tell 47 = .ok (.if_icmp .ge 24, 3) := by decide +kernel
theorem dX10_tell_50 : decode cX10_tell 50 = .ok (.aload_n 2, 1) := by decide +kernel
theorem dX10_tell_51 : decode cX10_tell 51 = .ok (.iload 4, 2) := by decide +kernel
theorem dX10_tell_53 : decode cX10_tell 53 = .ok (.aload_n 0, 1) := by decide +kernel
theorem dX10_tell_54 : decode cX10_tell 54 = .ok (.getfield 12, 3) := by decide +kernel
theorem dX10_tell_57 : decode cX10_tell 57 = .ok (.iload 4, 2) := by decide +kernel
theorem dX10_tell_59 : decode cX10_tell 59 = .ok (.invokevirtual 115, 3) := by decide +kernel
theorem dX10_tell_62 : decode cX10_tell 62 = .ok (.invokevirtual 280, 3) := by decide +kernel
theorem dX10_tell_65 : decode cX10_tell 65 = .ok (.iinc 4 1, 3) := by decide +kernel
theorem dX10_tell_68 : decode cX10_tell 68 = .ok (.goto (-24), 3) := by decide +kernel
theorem dX10_tell_71 : decode cX10_tell 71 = .ok (.iload_n 3, 1) := by decide +kernel
theorem dX10_tell_72 : decode cX10_tell 72 = .ok (.ireturn, 1) := by decide +kernel
theorem dX10_count_0 : decode cX10_count 0 = .ok (.iload_n 1, 1) := by decide +kernel
theorem dX10_count_1 : decode cX10_count 1 = .ok (.tableswitch 121 0 8 #[51, 59, 67, 75, 83, 91, 99, 107, 116], 51) := by decide +kernel
theorem dX10_count_52 : decode cX10_count 52 = .ok (.aload_n 0, 1) := by decide +kernel
theorem dX10_count_53 : decode cX10_count 53 = .ok (.getfield 12, 3) := by decide +kernel
theorem dX10_count_56 : decode cX10_count 56 = .ok (.getfield 192, 3) := by decide +kernel
theorem dX10_count_59 : decode cX10_count 59 = .ok (.ireturn, 1) := by decide +kernel
theorem dX10_count_60 : decode cX10_count 60 = .ok (.aload_n 0, 1) := by decide +kernel
theorem dX10_count_61 : decode cX10_count 61 = .ok (.getfield 12, 3) := by decide +kernel
theorem dX10_count_64 : decode cX10_count 64 = .ok (.getfield 102, 3) := by decide +kernel
theorem dX10_count_67 : decode cX10_count 67 = .ok (.ireturn, 1) := by decide +kernel
theorem dX10_count_68 : decode cX10_count 68 = .ok (.aload_n 0, 1) := by decide +kernel
theorem dX10_count_69 : decode cX10_count 69 = .ok (.getfield 12, 3) := by decide +kernel
theorem dX10_count_72 : decode cX10_count 72 = .ok (.getfield 298, 3) := by decide +kernel
theorem dX10_count_75 : decode cX10_count 75 = .ok (.ireturn, 1) := by decide +kernel
theorem dX10_count_76 : decode cX10_count 76 = .ok (.aload_n 0, 1) := by decide +kernel
theorem dX10_count_77 : decode cX10_count 77 = .ok (.getfield 12, 3) := by decide +kernel
theorem dX10_count_80 : decode cX10_count 80 = .ok (.getfield 211, 3) := by decide +kernel
theorem dX10_count_83 : decode cX10_count 83 = .ok (.ireturn, 1) := by decide +kernel
theorem dX10_count_84 : decode cX10_count 84 = .ok (.aload_n 0, 1) := by decide +kernel
theorem dX10_count_85 : decode cX10_count 85 = .ok (.getfield 36, 3) := by decide +kernel
theorem dX10_count_88 : decode cX10_count 88 = .ok (.getfield 170, 3) := by decide +kernel
theorem dX10_count_91 : decode cX10_count 91 = .ok (.ireturn, 1) := by decide +kernel
theorem dX10_count_92 : decode cX10_count 92 = .ok (.aload_n 0, 1) := by decide +kernel
theorem dX10_count_93 : decode cX10_count 93 = .ok (.getfield 61, 3) := by decide +kernel
theorem dX10_count_96 : decode cX10_count 96 = .ok (.getfield 245, 3) := by decide +kernel
theorem dX10_count_99 : decode cX10_count 99 = .ok (.ireturn, 1) := by decide +kernel
theorem dX10_count_100 : decode cX10_count 100 = .ok (.aload_n 0, 1) := by decide +kernel
theorem dX10_count_101 : decode cX10_count 101 = .ok (.getfield 68, 3) := by decide +kernel
theorem dX10_count_104 : decode cX10_count 104 = .ok (.getfield 165, 3) := by decide +kernel
theorem dX10_count_107 : decode cX10_count 107 = .ok (.ireturn, 1) := by decide +kernel
theorem dX10_count_108 : decode cX10_count 108 = .ok (.aload_n 0, 1) := by decide +kernel
theorem dX10_count_109 : decode cX10_count 109 = .ok (.getfield 19, 3) := by decide +kernel
theorem dX10_count_112 : decode cX10_count 112 = .ok (.iconst 0, 1) := by decide +kernel
theorem dX10_count_113 : decode cX10_count 113 = .ok (.invokevirtual 138, 3) := by decide +kernel
theorem dX10_count_116 : decode cX10_count 116 = .ok (.ireturn, 1) := by decide +kernel
theorem dX10_count_117 : decode cX10_count 117 = .ok (.aload_n 0, 1) := by decide +kernel
theorem dX10_count_118 : decode cX10_count 118 = .ok (.getfield 90, 3) := by decide +kernel
theorem dX10_count_121 : decode cX10_count 121 = .ok (.ireturn, 1) := by decide +kernel
theorem dX10_count_122 : decode cX10_count 122 = .ok (.bipush (-2), 2) := by decide +kernel
theorem dX10_count_124 : decode cX10_count 124 = .ok (.ireturn, 1) := by decide +kernel
theorem dX10_digest_0 : decode cX10_digest 0 = .ok (.ldc2_w 301, 3) := by decide +kernel
theorem dX10_digest_3 : decode cX10_digest 3 = .ok (.lstore_n 1, 1) := by decide +kernel
theorem dX10_digest_4 : decode cX10_digest 4 = .ok (.iconst 0, 1) := by decide +kernel
theorem dX10_digest_5 : decode cX10_digest 5 = .ok (.istore_n 3, 1) := by decide +kernel
theorem dX10_digest_6 : decode cX10_digest 6 = .ok (.iload_n 3, 1) := by decide +kernel
theorem dX10_digest_7 : decode cX10_digest 7 = .ok (.bipush 7, 2) := by decide +kernel
theorem dX10_digest_9 : decode cX10_digest 9 = .ok (.if_icmp .gt 20, 3) := by decide +kernel
theorem dX10_digest_12 : decode cX10_digest 12 = .ok (.lload_n 1, 1) := by decide +kernel
theorem dX10_digest_13 : decode cX10_digest 13 = .ok (.aload_n 0, 1) := by decide +kernel
theorem dX10_digest_14 : decode cX10_digest 14 = .ok (.iload_n 3, 1) := by decide +kernel
theorem dX10_digest_15 : decode cX10_digest 15 = .ok (.invokevirtual 303, 3) := by decide +kernel
theorem dX10_digest_18 : decode cX10_digest 18 = .ok (.i2l, 1) := by decide +kernel
theorem dX10_digest_19 : decode cX10_digest 19 = .ok (.invokestatic 306, 3) := by decide +kernel
theorem dX10_digest_22 : decode cX10_digest 22 = .ok (.lstore_n 1, 1) := by decide +kernel
theorem dX10_digest_23 : decode cX10_digest 23 = .ok (.iinc 3 1, 3) := by decide +kernel
theorem dX10_digest_26 : decode cX10_digest 26 = .ok (.goto (-20), 3) := by decide +kernel
theorem dX10_digest_29 : decode cX10_digest 29 = .ok (.lload_n 1, 1) := by decide +kernel
theorem dX10_digest_30 : decode cX10_digest 30 = .ok (.aload_n 0, 1) := by decide +kernel
theorem dX10_digest_31 : decode cX10_digest 31 = .ok (.invokevirtual 310, 3) := by decide +kernel
theorem dX10_digest_34 : decode cX10_digest 34 = .ok (.i2l, 1) := by decide +kernel
theorem dX10_digest_35 : decode cX10_digest 35 = .ok (.invokestatic 306, 3) := by decide +kernel
theorem dX10_digest_38 : decode cX10_digest 38 = .ok (.lstore_n 1, 1) := by decide +kernel
theorem dX10_digest_39 : decode cX10_digest 39 = .ok (.iconst 0, 1) := by decide +kernel
theorem dX10_digest_40 : decode cX10_digest 40 = .ok (.istore_n 3, 1) := by decide +kernel
theorem dX10_digest_41 : decode cX10_digest 41 = .ok (.iload_n 3, 1) := by decide +kernel
theorem dX10_digest_42 : decode cX10_digest 42 = .ok (.getstatic 313, 3) := by decide +kernel
theorem dX10_digest_45 : decode cX10_digest 45 = .ok (.arraylength, 1) := by decide +kernel
theorem dX10_digest_46 : decode cX10_digest 46 = .ok (.if_icmp .ge 76, 3) := by decide +kernel
theorem dX10_digest_49 : decode cX10_digest 49 = .ok (.getstatic 313, 3) := by decide +kernel
theorem dX10_digest_52 : decode cX10_digest 52 = .ok (.iload_n 3, 1) := by decide +kernel
theorem dX10_digest_53 : decode cX10_digest 53 = .ok (.iaload, 1) := by decide +kernel
theorem dX10_digest_54 : decode cX10_digest 54 = .ok (.istore 4, 2) := by decide +kernel
theorem dX10_digest_56 : decode cX10_digest 56 = .ok (.lload_n 1, 1) := by decide +kernel
theorem dX10_digest_57 : decode cX10_digest 57 = .ok (.aload_n 0, 1) := by decide +kernel
theorem dX10_digest_58 : decode cX10_digest 58 = .ok (.iload 4, 2) := by decide +kernel
theorem dX10_digest_60 : decode cX10_digest 60 = .ok (.bipush 9, 2) := by decide +kernel
theorem dX10_digest_62 : decode cX10_digest 62 = .ok (.iconst 0, 1) := by decide +kernel
theorem dX10_digest_63 : decode cX10_digest 63 = .ok (.invokevirtual 316, 3) := by decide +kernel
theorem dX10_digest_66 : decode cX10_digest 66 = .ok (.invokestatic 306, 3) := by decide +kernel
theorem dX10_digest_69 : decode cX10_digest 69 = .ok (.aload_n 0, 1) := by decide +kernel
theorem dX10_digest_70 : decode cX10_digest 70 = .ok (.iload 4, 2) := by decide +kernel
theorem dX10_digest_72 : decode cX10_digest 72 = .ok (.bipush 9, 2) := by decide +kernel
theorem dX10_digest_74 : decode cX10_digest 74 = .ok (.iconst 1, 1) := by decide +kernel
theorem dX10_digest_75 : decode cX10_digest 75 = .ok (.invokevirtual 316, 3) := by decide +kernel
theorem dX10_digest_78 : decode cX10_digest 78 = .ok (.invokestatic 306, 3) := by decide +kernel
theorem dX10_digest_81 : decode cX10_digest 81 = .ok (.lstore_n 1, 1) := by decide +kernel
theorem dX10_digest_82 : decode cX10_digest 82 = .ok (.lload_n 1, 1) := by decide +kernel
theorem dX10_digest_83 : decode cX10_digest 83 = .ok (.aload_n 0, 1) := by decide +kernel
theorem dX10_digest_84 : decode cX10_digest 84 = .ok (.iload 4, 2) := by decide +kernel
theorem dX10_digest_86 : decode cX10_digest 86 = .ok (.invokevirtual 320, 3) := by decide +kernel
theorem dX10_digest_89 : decode cX10_digest 89 = .ok (.i2l, 1) := by decide +kernel
theorem dX10_digest_90 : decode cX10_digest 90 = .ok (.invokestatic 306, 3) := by decide +kernel
theorem dX10_digest_93 : decode cX10_digest 93 = .ok (.lstore_n 1, 1) := by decide +kernel
theorem dX10_digest_94 : decode cX10_digest 94 = .ok (.lload_n 1, 1) := by decide +kernel
theorem dX10_digest_95 : decode cX10_digest 95 = .ok (.aload_n 0, 1) := by decide +kernel
theorem dX10_digest_96 : decode cX10_digest 96 = .ok (.iload 4, 2) := by decide +kernel
theorem dX10_digest_98 : decode cX10_digest 98 = .ok (.iconst 0, 1) := by decide +kernel
theorem dX10_digest_99 : decode cX10_digest 99 = .ok (.invokevirtual 323, 3) := by decide +kernel
theorem dX10_digest_102 : decode cX10_digest 102 = .ok (.invokestatic 306, 3) := by decide +kernel
theorem dX10_digest_105 : decode cX10_digest 105 = .ok (.aload_n 0, 1) := by decide +kernel
theorem dX10_digest_106 : decode cX10_digest 106 = .ok (.iload 4, 2) := by decide +kernel
theorem dX10_digest_108 : decode cX10_digest 108 = .ok (.iconst 1, 1) := by decide +kernel
theorem dX10_digest_109 : decode cX10_digest 109 = .ok (.invokevirtual 323, 3) := by decide +kernel
theorem dX10_digest_112 : decode cX10_digest 112 = .ok (.invokestatic 306, 3) := by decide +kernel
theorem dX10_digest_115 : decode cX10_digest 115 = .ok (.lstore_n 1, 1) := by decide +kernel
theorem dX10_digest_116 : decode cX10_digest 116 = .ok (.iinc 3 1, 3) := by decide +kernel
theorem dX10_digest_119 : decode cX10_digest 119 = .ok (.goto (-78), 3) := by decide +kernel
theorem dX10_digest_122 : decode cX10_digest 122 = .ok (.lload_n 1, 1) := by decide +kernel
theorem dX10_digest_123 : decode cX10_digest 123 = .ok (.aload_n 0, 1) := by decide +kernel
theorem dX10_digest_124 : decode cX10_digest 124 = .ok (.invokevirtual 326, 3) := by decide +kernel
theorem dX10_digest_127 : decode cX10_digest 127 = .ok (.i2l, 1) := by decide +kernel
theorem dX10_digest_128 : decode cX10_digest 128 = .ok (.invokestatic 306, 3) := by decide +kernel
theorem dX10_digest_131 : decode cX10_digest 131 = .ok (.lstore_n 1, 1) := by decide +kernel
theorem dX10_digest_132 : decode cX10_digest 132 = .ok (.bipush (-2), 2) := by decide +kernel
theorem dX10_digest_134 : decode cX10_digest 134 = .ok (.istore_n 3, 1) := by decide +kernel
theorem dX10_digest_135 : decode cX10_digest 135 = .ok (.iload_n 3, 1) := by decide +kernel
theorem dX10_digest_136 : decode cX10_digest 136 = .ok (.iconst 2, 1) := by decide +kernel
theorem dX10_digest_137 : decode cX10_digest 137 = .ok (.if_icmp .gt 33, 3) := by decide +kernel
theorem dX10_digest_140 : decode cX10_digest 140 = .ok (.lload_n 1, 1) := by decide +kernel
theorem dX10_digest_141 : decode cX10_digest 141 = .ok (.aload_n 0, 1) := by decide +kernel
theorem dX10_digest_142 : decode cX10_digest 142 = .ok (.bipush 20, 2) := by decide +kernel
theorem dX10_digest_144 : decode cX10_digest 144 = .ok (.iload_n 3, 1) := by decide +kernel
theorem dX10_digest_145 : decode cX10_digest 145 = .ok (.iconst 0, 1) := by decide +kernel
theorem dX10_digest_146 : decode cX10_digest 146 = .ok (.invokevirtual 329, 3) := by decide +kernel
theorem dX10_digest_149 : decode cX10_digest 149 = .ok (.invokestatic 306, 3) := by decide +kernel
theorem dX10_digest_152 : decode cX10_digest 152 = .ok (.aload_n 0, 1) := by decide +kernel
theorem dX10_digest_153 : decode cX10_digest 153 = .ok (.bipush 20, 2) := by decide +kernel
theorem dX10_digest_155 : decode cX10_digest 155 = .ok (.iload_n 3, 1) := by decide +kernel
theorem dX10_digest_156 : decode cX10_digest 156 = .ok (.iconst 1, 1) := by decide +kernel
theorem dX10_digest_157 : decode cX10_digest 157 = .ok (.invokevirtual 329, 3) := by decide +kernel
theorem dX10_digest_160 : decode cX10_digest 160 = .ok (.invokestatic 306, 3) := by decide +kernel
theorem dX10_digest_163 : decode cX10_digest 163 = .ok (.lstore_n 1, 1) := by decide +kernel
theorem dX10_digest_164 : decode cX10_digest 164 = .ok (.iinc 3 1, 3) := by decide +kernel
theorem dX10_digest_167 : decode cX10_digest 167 = .ok (.goto (-32), 3) := by decide +kernel
theorem dX10_digest_170 : decode cX10_digest 170 = .ok (.iconst 0, 1) := by decide +kernel
theorem dX10_digest_171 : decode cX10_digest 171 = .ok (.istore_n 3, 1) := by decide +kernel
theorem dX10_digest_172 : decode cX10_digest 172 = .ok (.iload_n 3, 1) := by decide +kernel
theorem dX10_digest_173 : decode cX10_digest 173 = .ok (.iconst 1, 1) := by decide +kernel
theorem dX10_digest_174 : decode cX10_digest 174 = .ok (.if_icmp .gt 29, 3) := by decide +kernel
theorem dX10_digest_177 : decode cX10_digest 177 = .ok (.lload_n 1, 1) := by decide +kernel
theorem dX10_digest_178 : decode cX10_digest 178 = .ok (.aload_n 0, 1) := by decide +kernel
theorem dX10_digest_179 : decode cX10_digest 179 = .ok (.iload_n 3, 1) := by decide +kernel
theorem dX10_digest_180 : decode cX10_digest 180 = .ok (.iconst 0, 1) := by decide +kernel
theorem dX10_digest_181 : decode cX10_digest 181 = .ok (.invokevirtual 332, 3) := by decide +kernel
theorem dX10_digest_184 : decode cX10_digest 184 = .ok (.invokestatic 306, 3) := by decide +kernel
theorem dX10_digest_187 : decode cX10_digest 187 = .ok (.aload_n 0, 1) := by decide +kernel
theorem dX10_digest_188 : decode cX10_digest 188 = .ok (.iload_n 3, 1) := by decide +kernel
theorem dX10_digest_189 : decode cX10_digest 189 = .ok (.iconst 1, 1) := by decide +kernel
theorem dX10_digest_190 : decode cX10_digest 190 = .ok (.invokevirtual 332, 3) := by decide +kernel
theorem dX10_digest_193 : decode cX10_digest 193 = .ok (.invokestatic 306, 3) := by decide +kernel
theorem dX10_digest_196 : decode cX10_digest 196 = .ok (.lstore_n 1, 1) := by decide +kernel
theorem dX10_digest_197 : decode cX10_digest 197 = .ok (.iinc 3 1, 3) := by decide +kernel
theorem dX10_digest_200 : decode cX10_digest 200 = .ok (.goto (-28), 3) := by decide +kernel
theorem dX10_digest_203 : decode cX10_digest 203 = .ok (.lload_n 1, 1) := by decide +kernel
theorem dX10_digest_204 : decode cX10_digest 204 = .ok (.aload_n 0, 1) := by decide +kernel
theorem dX10_digest_205 : decode cX10_digest 205 = .ok (.iconst 1, 1) := by decide +kernel
theorem dX10_digest_206 : decode cX10_digest 206 = .ok (.invokevirtual 335, 3) := by decide +kernel
theorem dX10_digest_209 : decode cX10_digest 209 = .ok (.i2l, 1) := by decide +kernel
theorem dX10_digest_210 : decode cX10_digest 210 = .ok (.invokestatic 306, 3) := by decide +kernel
theorem dX10_digest_213 : decode cX10_digest 213 = .ok (.aload_n 0, 1) := by decide +kernel
theorem dX10_digest_214 : decode cX10_digest 214 = .ok (.iconst 2, 1) := by decide +kernel
theorem dX10_digest_215 : decode cX10_digest 215 = .ok (.invokevirtual 335, 3) := by decide +kernel
theorem dX10_digest_218 : decode cX10_digest 218 = .ok (.i2l, 1) := by decide +kernel
theorem dX10_digest_219 : decode cX10_digest 219 = .ok (.invokestatic 306, 3) := by decide +kernel
theorem dX10_digest_222 : decode cX10_digest 222 = .ok (.aload_n 0, 1) := by decide +kernel
theorem dX10_digest_223 : decode cX10_digest 223 = .ok (.bipush 8, 2) := by decide +kernel
theorem dX10_digest_225 : decode cX10_digest 225 = .ok (.invokevirtual 338, 3) := by decide +kernel
theorem dX10_digest_228 : decode cX10_digest 228 = .ok (.i2l, 1) := by decide +kernel
theorem dX10_digest_229 : decode cX10_digest 229 = .ok (.invokestatic 306, 3) := by decide +kernel
theorem dX10_digest_232 : decode cX10_digest 232 = .ok (.lstore_n 1, 1) := by decide +kernel
theorem dX10_digest_233 : decode cX10_digest 233 = .ok (.iconst 0, 1) := by decide +kernel
theorem dX10_digest_234 : decode cX10_digest 234 = .ok (.istore_n 3, 1) := by decide +kernel
theorem dX10_digest_235 : decode cX10_digest 235 = .ok (.iload_n 3, 1) := by decide +kernel
theorem dX10_digest_236 : decode cX10_digest 236 = .ok (.aload_n 0, 1) := by decide +kernel
theorem dX10_digest_237 : decode cX10_digest 237 = .ok (.getfield 12, 3) := by decide +kernel
theorem dX10_digest_240 : decode cX10_digest 240 = .ok (.getfield 211, 3) := by decide +kernel
theorem dX10_digest_243 : decode cX10_digest 243 = .ok (.if_icmp .ge 20, 3) := by decide +kernel
theorem dX10_digest_246 : decode cX10_digest 246 = .ok (.lload_n 1, 1) := by decide +kernel
theorem dX10_digest_247 : decode cX10_digest 247 = .ok (.aload_n 0, 1) := by decide +kernel
theorem dX10_digest_248 : decode cX10_digest 248 = .ok (.iload_n 3, 1) := by decide +kernel
theorem dX10_digest_249 : decode cX10_digest 249 = .ok (.invokevirtual 341, 3) := by decide +kernel
theorem dX10_digest_252 : decode cX10_digest 252 = .ok (.i2l, 1) := by decide +kernel
theorem dX10_digest_253 : decode cX10_digest 253 = .ok (.invokestatic 306, 3) := by decide +kernel
theorem dX10_digest_256 : decode cX10_digest 256 = .ok (.lstore_n 1, 1) := by decide +kernel
theorem dX10_digest_257 : decode cX10_digest 257 = .ok (.iinc 3 1, 3) := by decide +kernel
theorem dX10_digest_260 : decode cX10_digest 260 = .ok (.goto (-25), 3) := by decide +kernel
theorem dX10_digest_263 : decode cX10_digest 263 = .ok (.lload_n 1, 1) := by decide +kernel
theorem dX10_digest_264 : decode cX10_digest 264 = .ok (.aload_n 0, 1) := by decide +kernel
theorem dX10_digest_265 : decode cX10_digest 265 = .ok (.bipush 9, 2) := by decide +kernel
theorem dX10_digest_267 : decode cX10_digest 267 = .ok (.bipush 12, 2) := by decide +kernel
theorem dX10_digest_269 : decode cX10_digest 269 = .ok (.iconst 0, 1) := by decide +kernel
theorem dX10_digest_270 : decode cX10_digest 270 = .ok (.invokevirtual 344, 3) := by decide +kernel
theorem dX10_digest_273 : decode cX10_digest 273 = .ok (.invokestatic 306, 3) := by decide +kernel
theorem dX10_digest_276 : decode cX10_digest 276 = .ok (.aload_n 0, 1) := by decide +kernel
theorem dX10_digest_277 : decode cX10_digest 277 = .ok (.bipush 9, 2) := by decide +kernel
theorem dX10_digest_279 : decode cX10_digest 279 = .ok (.bipush 12, 2) := by decide +kernel
theorem dX10_digest_281 : decode cX10_digest 281 = .ok (.iconst 1, 1) := by decide +kernel
theorem dX10_digest_282 : decode cX10_digest 282 = .ok (.invokevirtual 344, 3) := by decide +kernel
theorem dX10_digest_285 : decode cX10_digest 285 = .ok (.invokestatic 306, 3) := by decide +kernel
theorem dX10_digest_288 : decode cX10_digest 288 = .ok (.lstore_n 1, 1) := by decide +kernel
theorem dX10_digest_289 : decode cX10_digest 289 = .ok (.iconst 0, 1) := by decide +kernel
theorem dX10_digest_290 : decode cX10_digest 290 = .ok (.istore_n 3, 1) := by decide +kernel
theorem dX10_digest_291 : decode cX10_digest 291 = .ok (.iload_n 3, 1) := by decide +kernel
theorem dX10_digest_292 : decode cX10_digest 292 = .ok (.bipush 9, 2) := by decide +kernel
theorem dX10_digest_294 : decode cX10_digest 294 = .ok (.if_icmp .gt 29, 3) := by decide +kernel
theorem dX10_digest_297 : decode cX10_digest 297 = .ok (.lload_n 1, 1) := by decide +kernel
theorem dX10_digest_298 : decode cX10_digest 298 = .ok (.aload_n 0, 1) := by decide +kernel
theorem dX10_digest_299 : decode cX10_digest 299 = .ok (.iload_n 3, 1) := by decide +kernel
theorem dX10_digest_300 : decode cX10_digest 300 = .ok (.iconst 0, 1) := by decide +kernel
theorem dX10_digest_301 : decode cX10_digest 301 = .ok (.invokevirtual 347, 3) := by decide +kernel
theorem dX10_digest_304 : decode cX10_digest 304 = .ok (.invokestatic 306, 3) := by decide +kernel
theorem dX10_digest_307 : decode cX10_digest 307 = .ok (.aload_n 0, 1) := by decide +kernel
theorem dX10_digest_308 : decode cX10_digest 308 = .ok (.iload_n 3, 1) := by decide +kernel
theorem dX10_digest_309 : decode cX10_digest 309 = .ok (.iconst 1, 1) := by decide +kernel
theorem dX10_digest_310 : decode cX10_digest 310 = .ok (.invokevirtual 347, 3) := by decide +kernel
theorem dX10_digest_313 : decode cX10_digest 313 = .ok (.invokestatic 306, 3) := by decide +kernel
theorem dX10_digest_316 : decode cX10_digest 316 = .ok (.lstore_n 1, 1) := by decide +kernel
theorem dX10_digest_317 : decode cX10_digest 317 = .ok (.iinc 3 9, 3) := by decide +kernel
theorem dX10_digest_320 : decode cX10_digest 320 = .ok (.goto (-29), 3) := by decide +kernel
theorem dX10_digest_323 : decode cX10_digest 323 = .ok (.lload_n 1, 1) := by decide +kernel
theorem dX10_digest_324 : decode cX10_digest 324 = .ok (.aload_n 0, 1) := by decide +kernel
theorem dX10_digest_325 : decode cX10_digest 325 = .ok (.iconst 0, 1) := by decide +kernel
theorem dX10_digest_326 : decode cX10_digest 326 = .ok (.invokevirtual 350, 3) := by decide +kernel
theorem dX10_digest_329 : decode cX10_digest 329 = .ok (.i2l, 1) := by decide +kernel
theorem dX10_digest_330 : decode cX10_digest 330 = .ok (.invokestatic 306, 3) := by decide +kernel
theorem dX10_digest_333 : decode cX10_digest 333 = .ok (.aload_n 0, 1) := by decide +kernel
theorem dX10_digest_334 : decode cX10_digest 334 = .ok (.iconst 1, 1) := by decide +kernel
theorem dX10_digest_335 : decode cX10_digest 335 = .ok (.invokevirtual 350, 3) := by decide +kernel
theorem dX10_digest_338 : decode cX10_digest 338 = .ok (.i2l, 1) := by decide +kernel
theorem dX10_digest_339 : decode cX10_digest 339 = .ok (.invokestatic 306, 3) := by decide +kernel
theorem dX10_digest_342 : decode cX10_digest 342 = .ok (.lstore_n 1, 1) := by decide +kernel
theorem dX10_digest_343 : decode cX10_digest 343 = .ok (.lload_n 1, 1) := by decide +kernel
theorem dX10_digest_344 : decode cX10_digest 344 = .ok (.aload_n 0, 1) := by decide +kernel
theorem dX10_digest_345 : decode cX10_digest 345 = .ok (.iconst 0, 1) := by decide +kernel
theorem dX10_digest_346 : decode cX10_digest 346 = .ok (.invokevirtual 353, 3) := by decide +kernel
theorem dX10_digest_349 : decode cX10_digest 349 = .ok (.i2l, 1) := by decide +kernel
theorem dX10_digest_350 : decode cX10_digest 350 = .ok (.invokestatic 306, 3) := by decide +kernel
theorem dX10_digest_353 : decode cX10_digest 353 = .ok (.aload_n 0, 1) := by decide +kernel
theorem dX10_digest_354 : decode cX10_digest 354 = .ok (.iconst 1, 1) := by decide +kernel
theorem dX10_digest_355 : decode cX10_digest 355 = .ok (.invokevirtual 353, 3) := by decide +kernel
theorem dX10_digest_358 : decode cX10_digest 358 = .ok (.i2l, 1) := by decide +kernel
theorem dX10_digest_359 : decode cX10_digest 359 = .ok (.invokestatic 306, 3) := by decide +kernel
theorem dX10_digest_362 : decode cX10_digest 362 = .ok (.aload_n 0, 1) := by decide +kernel
theorem dX10_digest_363 : decode cX10_digest 363 = .ok (.bipush 9, 2) := by decide +kernel
theorem dX10_digest_365 : decode cX10_digest 365 = .ok (.invokevirtual 356, 3) := by decide +kernel
theorem dX10_digest_368 : decode cX10_digest 368 = .ok (.i2l, 1) := by decide +kernel
theorem dX10_digest_369 : decode cX10_digest 369 = .ok (.invokestatic 306, 3) := by decide +kernel
theorem dX10_digest_372 : decode cX10_digest 372 = .ok (.lstore_n 1, 1) := by decide +kernel
theorem dX10_digest_373 : decode cX10_digest 373 = .ok (.lload_n 1, 1) := by decide +kernel
theorem dX10_digest_374 : decode cX10_digest 374 = .ok (.aload_n 0, 1) := by decide +kernel
theorem dX10_digest_375 : decode cX10_digest 375 = .ok (.iconst 0, 1) := by decide +kernel
theorem dX10_digest_376 : decode cX10_digest 376 = .ok (.invokevirtual 359, 3) := by decide +kernel
theorem dX10_digest_379 : decode cX10_digest 379 = .ok (.i2l, 1) := by decide +kernel
theorem dX10_digest_380 : decode cX10_digest 380 = .ok (.invokestatic 306, 3) := by decide +kernel
theorem dX10_digest_383 : decode cX10_digest 383 = .ok (.aload_n 0, 1) := by decide +kernel
theorem dX10_digest_384 : decode cX10_digest 384 = .ok (.iconst 1, 1) := by decide +kernel
theorem dX10_digest_385 : decode cX10_digest 385 = .ok (.invokevirtual 359, 3) := by decide +kernel
theorem dX10_digest_388 : decode cX10_digest 388 = .ok (.i2l, 1) := by decide +kernel
theorem dX10_digest_389 : decode cX10_digest 389 = .ok (.invokestatic 306, 3) := by decide +kernel
theorem dX10_digest_392 : decode cX10_digest 392 = .ok (.aload_n 0, 1) := by decide +kernel
theorem dX10_digest_393 : decode cX10_digest 393 = .ok (.invokevirtual 362, 3) := by decide +kernel
theorem dX10_digest_396 : decode cX10_digest 396 = .ok (.i2l, 1) := by decide +kernel
theorem dX10_digest_397 : decode cX10_digest 397 = .ok (.invokestatic 306, 3) := by decide +kernel
theorem dX10_digest_400 : decode cX10_digest 400 = .ok (.lstore_n 1, 1) := by decide +kernel
theorem dX10_digest_401 : decode cX10_digest 401 = .ok (.lload_n 1, 1) := by decide +kernel
theorem dX10_digest_402 : decode cX10_digest 402 = .ok (.aload_n 0, 1) := by decide +kernel
theorem dX10_digest_403 : decode cX10_digest 403 = .ok (.bipush 7, 2) := by decide +kernel
theorem dX10_digest_405 : decode cX10_digest 405 = .ok (.iconst 0, 1) := by decide +kernel
theorem dX10_digest_406 : decode cX10_digest 406 = .ok (.invokevirtual 365, 3) := by decide +kernel
theorem dX10_digest_409 : decode cX10_digest 409 = .ok (.i2l, 1) := by decide +kernel
theorem dX10_digest_410 : decode cX10_digest 410 = .ok (.invokestatic 306, 3) := by decide +kernel
theorem dX10_digest_413 : decode cX10_digest 413 = .ok (.aload_n 0, 1) := by decide +kernel
theorem dX10_digest_414 : decode cX10_digest 414 = .ok (.bipush 7, 2) := by decide +kernel
theorem dX10_digest_416 : decode cX10_digest 416 = .ok (.bipush 20, 2) := by decide +kernel
theorem dX10_digest_418 : decode cX10_digest 418 = .ok (.invokevirtual 365, 3) := by decide +kernel
theorem dX10_digest_421 : decode cX10_digest 421 = .ok (.i2l, 1) := by decide +kernel
theorem dX10_digest_422 : decode cX10_digest 422 = .ok (.invokestatic 306, 3) := by decide +kernel
theorem dX10_digest_425 : decode cX10_digest 425 = .ok (.lreturn, 1) := by decide +kernel
theorem dX10_within_0 : decode cX10_within 0 = .ok (.iload_n 0, 1) := by decide +kernel
theorem dX10_within_1 : decode cX10_within 1 = .ok (.iload_n 1, 1) := by decide +kernel
theorem dX10_within_2 : decode cX10_within 2 = .ok (.if_icmp .lt 12, 3) := by decide +kernel
theorem dX10_within_5 : decode cX10_within 5 = .ok (.iload_n 0, 1) := by decide +kernel
theorem dX10_within_6 : decode cX10_within 6 = .ok (.iload_n 2, 1) := by decide +kernel
theorem dX10_within_7 : decode cX10_within 7 = .ok (.if_icmp .gt 7, 3) := by decide +kernel
theorem dX10_within_10 : decode cX10_within 10 = .ok (.iconst 1, 1) := by decide +kernel
theorem dX10_within_11 : decode cX10_within 11 = .ok (.goto 4, 3) := by decide +kernel
theorem dX10_within_14 : decode cX10_within 14 = .ok (.iconst 0, 1) := by decide +kernel
theorem dX10_within_15 : decode cX10_within 15 = .ok (.ireturn, 1) := by decide +kernel
theorem dX10_isNumber_0 : decode cX10_isNumber 0 = .ok (.iload_n 0, 1) := by decide +kernel
theorem dX10_isNumber_1 : decode cX10_isNumber 1 = .ok (.iconst 1, 1) := by decide +kernel
theorem dX10_isNumber_2 : decode cX10_isNumber 2 = .ok (.bipush 110, 2) := by decide +kernel
theorem dX10_isNumber_4 : decode cX10_isNumber 4 = .ok (.invokestatic 94, 3) := by decide +kernel
theorem dX10_isNumber_7 : decode cX10_isNumber 7 = .ok (.ireturn, 1) := by decide +kernel
theorem dX10_isPart_0 : decode cX10_isPart 0 = .ok (.iload_n 0, 1) := by decide +kernel
theorem dX10_isPart_1 : decode cX10_isPart 1 = .ok (.iconst 0, 1) := by decide +kernel
theorem dX10_isPart_2 : decode cX10_isPart 2 = .ok (.iconst 1, 1) := by decide +kernel
theorem dX10_isPart_3 : decode cX10_isPart 3 = .ok (.invokestatic 94, 3) := by decide +kernel
theorem dX10_isPart_6 : decode cX10_isPart 6 = .ok (.ireturn, 1) := by decide +kernel
theorem dX10_refusal_0 : decode cX10_refusal 0 = .ok (.ldc2_w 370, 3) := by decide +kernel
theorem dX10_refusal_3 : decode cX10_refusal 3 = .ok (.iload_n 0, 1) := by decide +kernel
theorem dX10_refusal_4 : decode cX10_refusal 4 = .ok (.i2l, 1) := by decide +kernel
theorem dX10_refusal_5 : decode cX10_refusal 5 = .ok (.lsub, 1) := by decide +kernel
theorem dX10_refusal_6 : decode cX10_refusal 6 = .ok (.lreturn, 1) := by decide +kernel
theorem dX10_found_0 : decode cX10_found 0 = .ok (.aload_n 0, 1) := by decide +kernel
theorem dX10_found_1 : decode cX10_found 1 = .ok (.iload_n 1, 1) := by decide +kernel
theorem dX10_found_2 : decode cX10_found 2 = .ok (.putfield 90, 3) := by decide +kernel
theorem dX10_found_5 : decode cX10_found 5 = .ok (.bipush (-10), 2) := by decide +kernel
theorem dX10_found_7 : decode cX10_found 7 = .ok (.iload_n 1, 1) := by decide +kernel
theorem dX10_found_8 : decode cX10_found 8 = .ok (.isub, 1) := by decide +kernel
theorem dX10_found_9 : decode cX10_found 9 = .ok (.ireturn, 1) := by decide +kernel
theorem dX10_sheetAt_0 : decode cX10_sheetAt 0 = .ok (.iload_n 1, 1) := by decide +kernel
theorem dX10_sheetAt_1 : decode cX10_sheetAt 1 = .ok (.ifCond .lt 21, 3) := by decide +kernel
theorem dX10_sheetAt_4 : decode cX10_sheetAt 4 = .ok (.iload_n 1, 1) := by decide +kernel
theorem dX10_sheetAt_5 : decode cX10_sheetAt 5 = .ok (.aload_n 0, 1) := by decide +kernel
theorem dX10_sheetAt_6 : decode cX10_sheetAt 6 = .ok (.getfield 81, 3) := by decide +kernel
theorem dX10_sheetAt_9 : decode cX10_sheetAt 9 = .ok (.arraylength, 1) := by decide +kernel
theorem dX10_sheetAt_10 : decode cX10_sheetAt 10 = .ok (.if_icmp .ge 12, 3) := by decide +kernel
theorem dX10_sheetAt_13 : decode cX10_sheetAt 13 = .ok (.aload_n 0, 1) := by decide +kernel
theorem dX10_sheetAt_14 : decode cX10_sheetAt 14 = .ok (.getfield 81, 3) := by decide +kernel
theorem dX10_sheetAt_17 : decode cX10_sheetAt 17 = .ok (.iload_n 1, 1) := by decide +kernel
theorem dX10_sheetAt_18 : decode cX10_sheetAt 18 = .ok (.aaload, 1) := by decide +kernel
theorem dX10_sheetAt_19 : decode cX10_sheetAt 19 = .ok (.goto 4, 3) := by decide +kernel
theorem dX10_sheetAt_22 : decode cX10_sheetAt 22 = .ok (.aconst_null, 1) := by decide +kernel
theorem dX10_sheetAt_23 : decode cX10_sheetAt 23 = .ok (.areturn, 1) := by decide +kernel
theorem dX10_addNote_0 : decode cX10_addNote 0 = .ok (.aload_n 0, 1) := by decide +kernel
theorem dX10_addNote_1 : decode cX10_addNote 1 = .ok (.getfield 36, 3) := by decide +kernel
theorem dX10_addNote_4 : decode cX10_addNote 4 = .ok (.iload_n 1, 1) := by decide +kernel
theorem dX10_addNote_5 : decode cX10_addNote 5 = .ok (.iload_n 2, 1) := by decide +kernel
theorem dX10_addNote_6 : decode cX10_addNote 6 = .ok (.iload_n 3, 1) := by decide +kernel
theorem dX10_addNote_7 : decode cX10_addNote 7 = .ok (.invokevirtual 372, 3) := by decide +kernel
theorem dX10_addNote_10 : decode cX10_addNote 10 = .ok (.ifCond .ne 6, 3) := by decide +kernel
theorem dX10_addNote_13 : decode cX10_addNote 13 = .ok (.bipush (-4), 2) := by decide +kernel
theorem dX10_addNote_15 : decode cX10_addNote 15 = .ok (.ireturn, 1) := by decide +kernel
theorem dX10_addNote_16 : decode cX10_addNote 16 = .ok (.aload_n 0, 1) := by decide +kernel
theorem dX10_addNote_17 : decode cX10_addNote 17 = .ok (.iconst 1, 1) := by decide +kernel
theorem dX10_addNote_18 : decode cX10_addNote 18 = .ok (.putfield 86, 3) := by decide +kernel
theorem dX10_addNote_21 : decode cX10_addNote 21 = .ok (.aload_n 0, 1) := by decide +kernel
theorem dX10_addNote_22 : decode cX10_addNote 22 = .ok (.getfield 36, 3) := by decide +kernel
theorem dX10_addNote_25 : decode cX10_addNote 25 = .ok (.getfield 170, 3) := by decide +kernel
theorem dX10_addNote_28 : decode cX10_addNote 28 = .ok (.ireturn, 1) := by decide +kernel
theorem dX10_refreshWays_0 : decode cX10_refreshWays 0 = .ok (.aload_n 0, 1) := by decide +kernel
theorem dX10_refreshWays_1 : decode cX10_refreshWays 1 = .ok (.getfield 86, 3) := by decide +kernel
theorem dX10_refreshWays_4 : decode cX10_refreshWays 4 = .ok (.ifCond .eq 15, 3) := by decide +kernel
theorem dX10_refreshWays_7 : decode cX10_refreshWays 7 = .ok (.aload_n 0, 1) := by decide +kernel
theorem dX10_refreshWays_8 : decode cX10_refreshWays 8 = .ok (.getfield 45, 3) := by decide +kernel
theorem dX10_refreshWays_11 : decode cX10_refreshWays 11 = .ok (.invokevirtual 374, 3) := by decide +kernel
theorem dX10_refreshWays_14 : decode cX10_refreshWays 14 = .ok (.aload_n 0, 1) := by decide +kernel
theorem dX10_refreshWays_15 : decode cX10_refreshWays 15 = .ok (.iconst 0, 1) := by decide +kernel
theorem dX10_refreshWays_16 : decode cX10_refreshWays 16 = .ok (.putfield 86, 3) := by decide +kernel
theorem dX10_refreshWays_19 : decode cX10_refreshWays 19 = .ok (.return_, 1) := by decide +kernel
theorem dX10_costAbove_0 : decode cX10_costAbove 0 = .ok (.aload_n 0, 1) := by decide +kernel
theorem dX10_costAbove_1 : decode cX10_costAbove 1 = .ok (.getfield 45, 3) := by decide +kernel
theorem dX10_costAbove_4 : decode cX10_costAbove 4 = .ok (.iload_n 1, 1) := by decide +kernel
theorem dX10_costAbove_5 : decode cX10_costAbove 5 = .ok (.aload_n 0, 1) := by decide +kernel
theorem dX10_costAbove_6 : decode cX10_costAbove 6 = .ok (.getfield 12, 3) := by decide +kernel
theorem dX10_costAbove_9 : decode cX10_costAbove 9 = .ok (.getfield 192, 3) := by decide +kernel
theorem dX10_costAbove_12 : decode cX10_costAbove 12 = .ok (.iconst 1, 1) := by decide +kernel
theorem dX10_costAbove_13 : decode cX10_costAbove 13 = .ok (.isub, 1) := by decide +kernel
theorem dX10_costAbove_14 : decode cX10_costAbove 14 = .ok (.invokevirtual 184, 3) := by decide +kernel
theorem dX10_costAbove_17 : decode cX10_costAbove 17 = .ok (.lstore_n 2, 1) := by decide +kernel
theorem dX10_costAbove_18 : decode cX10_costAbove 18 = .ok (.aload_n 0, 1) := by decide +kernel
theorem dX10_costAbove_19 : decode cX10_costAbove 19 = .ok (.getfield 19, 3) := by decide +kernel
theorem dX10_costAbove_22 : decode cX10_costAbove 22 = .ok (.iconst 4, 1) := by decide +kernel
theorem dX10_costAbove_23 : decode cX10_costAbove 23 = .ok (.invokevirtual 138, 3) := by decide +kernel
theorem dX10_costAbove_26 : decode cX10_costAbove 26 = .ok (.i2l, 1) := by decide +kernel
theorem dX10_costAbove_27 : decode cX10_costAbove 27 = .ok (.aload_n 0, 1) := by decide +kernel
theorem dX10_costAbove_28 : decode cX10_costAbove 28 = .ok (.getfield 45, 3) := by decide +kernel
theorem dX10_costAbove_31 : decode cX10_costAbove 31 = .ok (.iload_n 1, 1) := by decide +kernel
theorem dX10_costAbove_32 : decode cX10_costAbove 32 = .ok (.invokevirtual 181, 3) := by decide +kernel
theorem dX10_costAbove_35 : decode cX10_costAbove 35 = .ok (.lload_n 2, 1) := by decide +kernel
theorem dX10_costAbove_36 : decode cX10_costAbove 36 = .ok (.lsub, 1) := by decide +kernel
theorem dX10_costAbove_37 : decode cX10_costAbove 37 = .ok (.lmul, 1) := by decide +kernel
theorem dX10_costAbove_38 : decode cX10_costAbove 38 = .ok (.lreturn, 1) := by decide +kernel
theorem dX10_safety_0 : decode cX10_safety 0 = .ok (.aload_n 0, 1) := by decide +kernel
theorem dX10_safety_1 : decode cX10_safety 1 = .ok (.getfield 54, 3) := by decide +kernel
theorem dX10_safety_4 : decode cX10_safety 4 = .ok (.aload_n 0, 1) := by decide +kernel
theorem dX10_safety_5 : decode cX10_safety 5 = .ok (.getfield 26, 3) := by decide +kernel
theorem dX10_safety_8 : decode cX10_safety 8 = .ok (.aload_n 0, 1) := by decide +kernel
theorem dX10_safety_9 : decode cX10_safety 9 = .ok (.getfield 12, 3) := by decide +kernel
theorem dX10_safety_12 : decode cX10_safety 12 = .ok (.getfield 192, 3) := by decide +kernel
theorem dX10_safety_15 : decode cX10_safety 15 = .ok (.iconst 1, 1) := by decide +kernel
theorem dX10_safety_16 : decode cX10_safety 16 = .ok (.isub, 1) := by decide +kernel
theorem dX10_safety_17 : decode cX10_safety 17 = .ok (.iload_n 1, 1) := by decide +kernel
theorem dX10_safety_18 : decode cX10_safety 18 = .ok (.aload_n 0, 1) := by decide +kernel
theorem dX10_safety_19 : decode cX10_safety 19 = .ok (.getfield 19, 3) := by decide +kernel
theorem dX10_safety_22 : decode cX10_safety 22 = .ok (.bipush 6, 2) := by decide +kernel
theorem dX10_safety_24 : decode cX10_safety 24 = .ok (.invokevirtual 138, 3) := by decide +kernel
theorem dX10_safety_27 : decode cX10_safety 27 = .ok (.invokevirtual 202, 3) := by decide +kernel
theorem dX10_safety_30 : decode cX10_safety 30 = .ok (.aload_n 0, 1) := by decide +kernel
theorem dX10_safety_31 : decode cX10_safety 31 = .ok (.getfield 54, 3) := by decide +kernel
theorem dX10_safety_34 : decode cX10_safety 34 = .ok (.iconst 0, 1) := by decide +kernel
theorem dX10_safety_35 : decode cX10_safety 35 = .ok (.invokevirtual 206, 3) := by decide +kernel
theorem dX10_safety_38 : decode cX10_safety 38 = .ok (.lreturn, 1) := by decide +kernel
theorem dX10_comeTo_0 : decode cX10_comeTo 0 = .ok (.iconst 0, 1) := by decide +kernel
theorem dX10_comeTo_1 : decode cX10_comeTo 1 = .ok (.istore_n 2, 1) := by decide +kernel
theorem dX10_comeTo_2 : decode cX10_comeTo 2 = .ok (.iload_n 1, 1) := by decide +kernel
theorem dX10_comeTo_3 : decode cX10_comeTo 3 = .ok (.aload_n 0, 1) := by decide +kernel
theorem dX10_comeTo_4 : decode cX10_comeTo 4 = .ok (.getfield 19, 3) := by decide +kernel
theorem dX10_comeTo_7 : decode cX10_comeTo 7 = .ok (.bipush 7, 2) := by decide +kernel
theorem dX10_comeTo_9 : decode cX10_comeTo 9 = .ok (.invokevirtual 138, 3) := by decide +kernel
theorem dX10_comeTo_12 : decode cX10_comeTo 12 = .ok (.imul, 1) := by decide +kernel
theorem dX10_comeTo_13 : decode cX10_comeTo 13 = .ok (.iconst 4, 1) := by decide +kernel
theorem dX10_comeTo_14 : decode cX10_comeTo 14 = .ok (.idiv, 1) := by decide +kernel
theorem dX10_comeTo_15 : decode cX10_comeTo 15 = .ok (.istore_n 3, 1) := by decide +kernel
theorem dX10_comeTo_16 : decode cX10_comeTo 16 = .ok (.iload_n 1, 1) := by decide +kernel
theorem dX10_comeTo_17 : decode cX10_comeTo 17 = .ok (.aload_n 0, 1) := by decide +kernel
theorem dX10_comeTo_18 : decode cX10_comeTo 18 = .ok (.getfield 19, 3) := by decide +kernel
theorem dX10_comeTo_21 : decode cX10_comeTo 21 = .ok (.bipush 8, 2) := by decide +kernel
theorem dX10_comeTo_23 : decode cX10_comeTo 23 = .ok (.invokevirtual 138, 3) := by decide +kernel
theorem dX10_comeTo_26 : decode cX10_comeTo 26 = .ok (.imul, 1) := by decide +kernel
theorem dX10_comeTo_27 : decode cX10_comeTo 27 = .ok (.bipush 8, 2) := by decide +kernel
theorem dX10_comeTo_29 : decode cX10_comeTo 29 = .ok (.idiv, 1) := by decide +kernel
theorem dX10_comeTo_30 : decode cX10_comeTo 30 = .ok (.istore 4, 2) := by decide +kernel
theorem dX10_comeTo_32 : decode cX10_comeTo 32 = .ok (.iconst 0, 1) := by decide +kernel
theorem dX10_comeTo_33 : decode cX10_comeTo 33 = .ok (.istore 5, 2) := by decide +kernel
theorem dX10_comeTo_35 : decode cX10_comeTo 35 = .ok (.iload 5, 2) := by decide +kernel
theorem dX10_comeTo_37 : decode cX10_comeTo 37 = .ok (.iconst 2, 1) := by decide +kernel
theorem dX10_comeTo_38 : decode cX10_comeTo 38 = .ok (.if_icmp .gt 103, 3) := by decide +kernel
theorem dX10_comeTo_41 : decode cX10_comeTo 41 = .ok (.aload_n 0, 1) := by decide +kernel
theorem dX10_comeTo_42 : decode cX10_comeTo 42 = .ok (.getfield 26, 3) := by decide +kernel
theorem dX10_comeTo_45 : decode cX10_comeTo 45 = .ok (.iload 5, 2) := by decide +kernel
theorem dX10_comeTo_47 : decode cX10_comeTo 47 = .ok (.invokevirtual 128, 3) := by decide +kernel
theorem dX10_comeTo_50 : decode cX10_comeTo 50 = .ok (.istore 6, 2) := by decide +kernel
theorem dX10_comeTo_52 : decode cX10_comeTo 52 = .ok (.iconst 0, 1) := by decide +kernel
theorem dX10_comeTo_53 : decode cX10_comeTo 53 = .ok (.aload_n 0, 1) := by decide +kernel
theorem dX10_comeTo_54 : decode cX10_comeTo 54 = .ok (.getfield 26, 3) := by decide +kernel
theorem dX10_comeTo_57 : decode cX10_comeTo 57 = .ok (.iload 5, 2) := by decide +kernel
theorem dX10_comeTo_59 : decode cX10_comeTo 59 = .ok (.invokevirtual 125, 3) := by decide +kernel
theorem dX10_comeTo_62 : decode cX10_comeTo 62 = .ok (.iload_n 3, 1) := by decide +kernel
theorem dX10_comeTo_63 : decode cX10_comeTo 63 = .ok (.isub, 1) := by decide +kernel
theorem dX10_comeTo_64 : decode cX10_comeTo 64 = .ok (.invokestatic 377, 3) := by decide +kernel
theorem dX10_comeTo_67 : decode cX10_comeTo 67 = .ok (.iload 4, 2) := by decide +kernel
theorem dX10_comeTo_69 : decode cX10_comeTo 69 = .ok (.iadd, 1) := by decide +kernel
theorem dX10_comeTo_70 : decode cX10_comeTo 70 = .ok (.istore 7, 2) := by decide +kernel
theorem dX10_comeTo_72 : decode cX10_comeTo 72 = .ok (.iload 7, 2) := by decide +kernel
theorem dX10_comeTo_74 : decode cX10_comeTo 74 = .ok (.bipush 16, 2) := by decide +kernel
theorem dX10_comeTo_76 : decode cX10_comeTo 76 = .ok (.iload 6, 2) := by decide +kernel
theorem dX10_comeTo_78 : decode cX10_comeTo 78 = .ok (.isub, 1) := by decide +kernel
theorem dX10_comeTo_79 : decode cX10_comeTo 79 = .ok (.invokestatic 222, 3) := by decide +kernel
theorem dX10_comeTo_82 : decode cX10_comeTo 82 = .ok (.istore 7, 2) := by decide +kernel
theorem dX10_comeTo_84 : decode cX10_comeTo 84 = .ok (.iload_n 2, 1) := by decide +kernel
theorem dX10_comeTo_85 : decode cX10_comeTo 85 = .ok (.ifCond .ne 31, 3) := by decide +kernel
theorem dX10_comeTo_88 : decode cX10_comeTo 88 = .ok (.iload 7, 2) := by decide +kernel
theorem dX10_comeTo_90 : decode cX10_comeTo 90 = .ok (.aload_n 0, 1) := by decide +kernel
theorem dX10_comeTo_91 : decode cX10_comeTo 91 = .ok (.getfield 30, 3) := by decide +kernel
theorem dX10_comeTo_94 : decode cX10_comeTo 94 = .ok (.iload 5, 2) := by decide +kernel
theorem dX10_comeTo_96 : decode cX10_comeTo 96 = .ok (.invokevirtual 125, 3) := by decide +kernel
theorem dX10_comeTo_99 : decode cX10_comeTo 99 = .ok (.if_icmp .ne 17, 3) := by decide +kernel
theorem dX10_comeTo_102 : decode cX10_comeTo 102 = .ok (.iload 6, 2) := by decide +kernel
theorem dX10_comeTo_104 : decode cX10_comeTo 104 = .ok (.aload_n 0, 1) := by decide +kernel
theorem dX10_comeTo_105 : decode cX10_comeTo 105 = .ok (.getfield 30, 3) := by decide +kernel
theorem dX10_comeTo_108 : decode cX10_comeTo 108 = .ok (.iload 5, 2) := by decide +kernel
theorem dX10_comeTo_110 : decode cX10_comeTo 110 = .ok (.invokevirtual 128, 3) := by decide +kernel
theorem dX10_comeTo_113 : decode cX10_comeTo 113 = .ok (.if_icmp .eq 7, 3) := by decide +kernel
theorem dX10_comeTo_116 : decode cX10_comeTo 116 = .ok (.iconst 1, 1) := by decide +kernel
theorem dX10_comeTo_117 : decode cX10_comeTo 117 = .ok (.goto 4, 3) := by decide +kernel
theorem dX10_comeTo_120 : decode cX10_comeTo 120 = .ok (.iconst 0, 1) := by decide +kernel
theorem dX10_comeTo_121 : decode cX10_comeTo 121 = .ok (.istore_n 2, 1) := by decide +kernel
theorem dX10_comeTo_122 : decode cX10_comeTo 122 = .ok (.aload_n 0, 1) := by decide +kernel
theorem dX10_comeTo_123 : decode cX10_comeTo 123 = .ok (.getfield 30, 3) := by decide +kernel
theorem dX10_comeTo_126 : decode cX10_comeTo 126 = .ok (.iload 5, 2) := by decide +kernel
theorem dX10_comeTo_128 : decode cX10_comeTo 128 = .ok (.iload 7, 2) := by decide +kernel
theorem dX10_comeTo_130 : decode cX10_comeTo 130 = .ok (.iload 6, 2) := by decide +kernel
theorem dX10_comeTo_132 : decode cX10_comeTo 132 = .ok (.invokevirtual 131, 3) := by decide +kernel
theorem dX10_comeTo_135 : decode cX10_comeTo 135 = .ok (.iinc 5 1, 3) := by decide +kernel
theorem dX10_comeTo_138 : decode cX10_comeTo 138 = .ok (.goto (-103), 3) := by decide +kernel
theorem dX10_comeTo_141 : decode cX10_comeTo 141 = .ok (.iload_n 2, 1) := by decide +kernel
theorem dX10_comeTo_142 : decode cX10_comeTo 142 = .ok (.ireturn, 1) := by decide +kernel
theorem dX10_trueLater_0 : decode cX10_trueLater 0 = .ok (.aload_n 0, 1) := by decide +kernel
theorem dX10_trueLater_1 : decode cX10_trueLater 1 = .ok (.getfield 54, 3) := by decide +kernel
theorem dX10_trueLater_4 : decode cX10_trueLater 4 = .ok (.aload_n 0, 1) := by decide +kernel
theorem dX10_trueLater_5 : decode cX10_trueLater 5 = .ok (.getfield 30, 3) := by decide +kernel
theorem dX10_trueLater_8 : decode cX10_trueLater 8 = .ok (.aload_n 0, 1) := by decide +kernel
theorem dX10_trueLater_9 : decode cX10_trueLater 9 = .ok (.getfield 12, 3) := by decide +kernel
theorem dX10_trueLater_12 : decode cX10_trueLater 12 = .ok (.getfield 192, 3) := by decide +kernel
theorem dX10_trueLater_15 : decode cX10_trueLater 15 = .ok (.iconst 1, 1) := by decide +kernel
theorem dX10_trueLater_16 : decode cX10_trueLater 16 = .ok (.isub, 1) := by decide +kernel
theorem dX10_trueLater_17 : decode cX10_trueLater 17 = .ok (.iconst 0, 1) := by decide +kernel
theorem dX10_trueLater_18 : decode cX10_trueLater 18 = .ok (.iconst 0, 1) := by decide +kernel
theorem dX10_trueLater_19 : decode cX10_trueLater 19 = .ok (.invokevirtual 202, 3) := by decide +kernel
theorem dX10_trueLater_22 : decode cX10_trueLater 22 = .ok (.aload_n 0, 1) := by decide +kernel
theorem dX10_trueLater_23 : decode cX10_trueLater 23 = .ok (.getfield 54, 3) := by decide +kernel
theorem dX10_trueLater_26 : decode cX10_trueLater 26 = .ok (.iconst 0, 1) := by decide +kernel
theorem dX10_trueLater_27 : decode cX10_trueLater 27 = .ok (.invokevirtual 206, 3) := by decide +kernel
theorem dX10_trueLater_30 : decode cX10_trueLater 30 = .ok (.lreturn, 1) := by decide +kernel
theorem dX10_slipOfNight_0 : decode cX10_slipOfNight 0 = .ok (.iconst 0, 1) := by decide +kernel
theorem dX10_slipOfNight_1 : decode cX10_slipOfNight 1 = .ok (.istore_n 1, 1) := by decide +kernel
theorem dX10_slipOfNight_2 : decode cX10_slipOfNight 2 = .ok (.iconst 0, 1) := by decide +kernel
theorem dX10_slipOfNight_3 : decode cX10_slipOfNight 3 = .ok (.istore_n 2, 1) := by decide +kernel
theorem dX10_slipOfNight_4 : decode cX10_slipOfNight 4 = .ok (.iload_n 2, 1) := by decide +kernel
theorem dX10_slipOfNight_5 : decode cX10_slipOfNight 5 = .ok (.aload_n 0, 1) := by decide +kernel
theorem dX10_slipOfNight_6 : decode cX10_slipOfNight 6 = .ok (.getfield 12, 3) := by decide +kernel
theorem dX10_slipOfNight_9 : decode cX10_slipOfNight 9 = .ok (.getfield 192, 3) := by decide +kernel
theorem dX10_slipOfNight_12 : decode cX10_slipOfNight 12 = .ok (.if_icmp .ge 80, 3) := by decide +kernel
theorem dX10_slipOfNight_15 : decode cX10_slipOfNight 15 = .ok (.aload_n 0, 1) := by decide +kernel
theorem dX10_slipOfNight_16 : decode cX10_slipOfNight 16 = .ok (.getfield 12, 3) := by decide +kernel
theorem dX10_slipOfNight_19 : decode cX10_slipOfNight 19 = .ok (.iload_n 2, 1) := by decide +kernel
theorem dX10_slipOfNight_20 : decode cX10_slipOfNight 20 = .ok (.invokevirtual 265, 3) := by decide +kernel
theorem dX10_slipOfNight_23 : decode cX10_slipOfNight 23 = .ok (.ifCond .eq 63, 3) := by decide +kernel
theorem dX10_slipOfNight_26 : decode cX10_slipOfNight 26 = .ok (.aload_n 0, 1) := by decide +kernel
theorem dX10_slipOfNight_27 : decode cX10_slipOfNight 27 = .ok (.getfield 12, 3) := by decide +kernel
theorem dX10_slipOfNight_30 : decode cX10_slipOfNight 30 = .ok (.iload_n 2, 1) := by decide +kernel
theorem dX10_slipOfNight_31 : decode cX10_slipOfNight 31 = .ok (.invokevirtual 115, 3) := by decide +kernel
theorem dX10_slipOfNight_34 : decode cX10_slipOfNight 34 = .ok (.istore_n 3, 1) := by decide +kernel
theorem dX10_slipOfNight_35 : decode cX10_slipOfNight 35 = .ok (.aload_n 0, 1) := by decide +kernel
theorem dX10_slipOfNight_36 : decode cX10_slipOfNight 36 = .ok (.getfield 26, 3) := by decide +kernel
theorem dX10_slipOfNight_39 : decode cX10_slipOfNight 39 = .ok (.iload_n 3, 1) := by decide +kernel
theorem dX10_slipOfNight_40 : decode cX10_slipOfNight 40 = .ok (.invokevirtual 125, 3) := by decide +kernel
theorem dX10_slipOfNight_43 : decode cX10_slipOfNight 43 = .ok (.istore 4, 2) := by decide +kernel
theorem dX10_slipOfNight_45 : decode cX10_slipOfNight 45 = .ok (.aload_n 0, 1) := by decide +kernel
theorem dX10_slipOfNight_46 : decode cX10_slipOfNight 46 = .ok (.getfield 75, 3) := by decide +kernel
theorem dX10_slipOfNight_49 : decode cX10_slipOfNight 49 = .ok (.invokevirtual 380, 3) := by decide +kernel
theorem dX10_slipOfNight_52 : decode cX10_slipOfNight 52 = .ok (.istore 5, 2) := by decide +kernel
theorem dX10_slipOfNight_54 : decode cX10_slipOfNight 54 = .ok (.iload 5, 2) := by decide +kernel
theorem dX10_slipOfNight_56 : decode cX10_slipOfNight 56 = .ok (.iload 4, 2) := by decide +kernel
theorem dX10_slipOfNight_58 : decode cX10_slipOfNight 58 = .ok (.if_icmp .ge 9, 3) := by decide +kernel
theorem dX10_slipOfNight_61 : decode cX10_slipOfNight 61 = .ok (.iinc 1 (-1), 3) := by decide +kernel
theorem dX10_slipOfNight_64 : decode cX10_slipOfNight 64 = .ok (.goto 22, 3) := by decide +kernel
theorem dX10_slipOfNight_67 : decode cX10_slipOfNight 67 = .ok (.iload 5, 2) := by decide +kernel
theorem dX10_slipOfNight_69 : decode cX10_slipOfNight 69 = .ok (.iload 4, 2) := by decide +kernel
theorem dX10_slipOfNight_71 : decode cX10_slipOfNight 71 = .ok (.aload_n 0, 1) := by decide +kernel
theorem dX10_slipOfNight_72 : decode cX10_slipOfNight 72 = .ok (.getfield 26, 3) := by decide +kernel
theorem dX10_slipOfNight_75 : decode cX10_slipOfNight 75 = .ok (.iload_n 3, 1) := by decide +kernel
theorem dX10_slipOfNight_76 : decode cX10_slipOfNight 76 = .ok (.invokevirtual 128, 3) := by decide +kernel
theorem dX10_slipOfNight_79 : decode cX10_slipOfNight 79 = .ok (.iadd, 1) := by decide +kernel
theorem dX10_slipOfNight_80 : decode cX10_slipOfNight 80 = .ok (.if_icmp .ge 6, 3) := by decide +kernel
theorem dX10_slipOfNight_83 : decode cX10_slipOfNight 83 = .ok (.iinc 1 1, 3) := by decide +kernel
theorem dX10_slipOfNight_86 : decode cX10_slipOfNight 86 = .ok (.iinc 2 1, 3) := by decide +kernel
theorem dX10_slipOfNight_89 : decode cX10_slipOfNight 89 = .ok (.goto (-85), 3) := by decide +kernel
theorem dX10_slipOfNight_92 : decode cX10_slipOfNight 92 = .ok (.iload_n 1, 1) := by decide +kernel
theorem dX10_slipOfNight_93 : decode cX10_slipOfNight 93 = .ok (.ireturn, 1) := by decide +kernel
theorem dX10_mixed_0 : decode cX10_mixed 0 = .ok (.ldc2_w 383, 3) := by decide +kernel
theorem dX10_mixed_3 : decode cX10_mixed 3 = .ok (.lload_n 0, 1) := by decide +kernel
theorem dX10_mixed_4 : decode cX10_mixed 4 = .ok (.lmul, 1) := by decide +kernel
theorem dX10_mixed_5 : decode cX10_mixed 5 = .ok (.lload_n 2, 1) := by decide +kernel
theorem dX10_mixed_6 : decode cX10_mixed 6 = .ok (.ladd, 1) := by decide +kernel
theorem dX10_mixed_7 : decode cX10_mixed 7 = .ok (.lreturn, 1) := by decide +kernel
theorem dX10_told_0 : decode cX10_told 0 = .ok (.lload_n 0, 1) := by decide +kernel
theorem dX10_told_1 : decode cX10_told 1 = .ok (.lload_n 2, 1) := by decide +kernel
theorem dX10_told_2 : decode cX10_told 2 = .ok (.invokestatic 385, 3) := by decide +kernel
theorem dX10_told_5 : decode cX10_told 5 = .ok (.lstore 5, 2) := by decide +kernel
theorem dX10_told_7 : decode cX10_told 7 = .ok (.iload 4, 2) := by decide +kernel
theorem dX10_told_9 : decode cX10_told 9 = .ok (.ifCond .ne 7, 3) := by decide +kernel
theorem dX10_told_12 : decode cX10_told 12 = .ok (.lload_n 0, 1) := by decide +kernel
theorem dX10_told_13 : decode cX10_told 13 = .ok (.goto 4, 3) := by decide +kernel
theorem dX10_told_16 : decode cX10_told 16 = .ok (.lload_n 2, 1) := by decide +kernel
theorem dX10_told_17 : decode cX10_told 17 = .ok (.lstore 7, 2) := by decide +kernel
theorem dX10_told_19 : decode cX10_told 19 = .ok (.lload 5, 2) := by decide +kernel
theorem dX10_told_21 : decode cX10_told 21 = .ok (.lconst 0, 1) := by decide +kernel
theorem dX10_told_22 : decode cX10_told 22 = .ok (.lcmp, 1) := by decide +kernel
theorem dX10_told_23 : decode cX10_told 23 = .ok (.ifCond .ne 8, 3) := by decide +kernel
theorem dX10_told_26 : decode cX10_told 26 = .ok (.lload 7, 2) := by decide +kernel
theorem dX10_told_28 : decode cX10_told 28 = .ok (.goto 8, 3) := by decide +kernel
theorem dX10_told_31 : decode cX10_told 31 = .ok (.lload 7, 2) := by decide +kernel
theorem dX10_told_33 : decode cX10_told 33 = .ok (.lload 5, 2) := by decide +kernel
theorem dX10_told_35 : decode cX10_told 35 = .ok (.ldiv, 1) := by decide +kernel
theorem dX10_told_36 : decode cX10_told 36 = .ok (.lreturn, 1) := by decide +kernel
theorem dX10_greatestCommon_0 : decode cX10_greatestCommon 0 = .ok (.lload_n 0, 1) := by decide +kernel
theorem dX10_greatestCommon_1 : decode cX10_greatestCommon 1 = .ok (.lstore 4, 2) := by decide +kernel
theorem dX10_greatestCommon_3 : decode cX10_greatestCommon 3 = .ok (.lload_n 2, 1) := by decide +kernel
theorem dX10_greatestCommon_4 : decode cX10_greatestCommon 4 = .ok (.lstore 6, 2) := by decide +kernel
theorem dX10_greatestCommon_6 : decode cX10_greatestCommon 6 = .ok (.iconst 0, 1) := by decide +kernel
theorem dX10_greatestCommon_7 : decode cX10_greatestCommon 7 = .ok (.istore 8, 2) := by decide +kernel
theorem dX10_greatestCommon_9 : decode cX10_greatestCommon 9 = .ok (.iload 8, 2) := by decide +kernel
theorem dX10_greatestCommon_11 : decode cX10_greatestCommon 11 = .ok (.sipush 400, 3) := by decide +kernel
theorem dX10_greatestCommon_14 : decode cX10_greatestCommon 14 = .ok (.if_icmp .ge 31, 3) := by decide +kernel
theorem dX10_greatestCommon_17 : decode cX10_greatestCommon 17 = .ok (.lload 6, 2) := by decide +kernel
theorem dX10_greatestCommon_19 : decode cX10_greatestCommon 19 = .ok (.lconst 0, 1) := by decide +kernel
theorem dX10_greatestCommon_20 : decode cX10_greatestCommon 20 = .ok (.lcmp, 1) := by decide +kernel
theorem dX10_greatestCommon_21 : decode cX10_greatestCommon 21 = .ok (.ifCond .eq 24, 3) := by decide +kernel
theorem dX10_greatestCommon_24 : decode cX10_greatestCommon 24 = .ok (.lload 4, 2) := by decide +kernel
theorem dX10_greatestCommon_26 : decode cX10_greatestCommon 26 = .ok (.lload 6, 2) := by decide +kernel
theorem dX10_greatestCommon_28 : decode cX10_greatestCommon 28 = .ok (.lrem, 1) := by decide +kernel
theorem dX10_greatestCommon_29 : decode cX10_greatestCommon 29 = .ok (.lstore 9, 2) := by decide +kernel
theorem dX10_greatestCommon_31 : decode cX10_greatestCommon 31 = .ok (.lload 6, 2) := by decide +kernel
theorem dX10_greatestCommon_33 : decode cX10_greatestCommon 33 = .ok (.lstore 4, 2) := by decide +kernel
theorem dX10_greatestCommon_35 : decode cX10_greatestCommon 35 = .ok (.lload 9, 2) := by decide +kernel
theorem dX10_greatestCommon_37 : decode cX10_greatestCommon 37 = .ok (.lstore 6, 2) := by decide +kernel
theorem dX10_greatestCommon_39 : decode cX10_greatestCommon 39 = .ok (.iinc 8 1, 3) := by decide +kernel
theorem dX10_greatestCommon_42 : decode cX10_greatestCommon 42 = .ok (.goto (-33), 3) := by decide +kernel
theorem dX10_greatestCommon_45 : decode cX10_greatestCommon 45 = .ok (.lload 4, 2) := by decide +kernel
theorem dX10_greatestCommon_47 : decode cX10_greatestCommon 47 = .ok (.lreturn, 1) := by decide +kernel
theorem dX10_isLess_0 : decode cX10_isLess 0 = .ok (.lload_n 0, 1) := by decide +kernel
theorem dX10_isLess_1 : decode cX10_isLess 1 = .ok (.lstore 8, 2) := by decide +kernel
theorem dX10_isLess_3 : decode cX10_isLess 3 = .ok (.lload_n 2, 1) := by decide +kernel
theorem dX10_isLess_4 : decode cX10_isLess 4 = .ok (.lstore 10, 2) := by decide +kernel
theorem dX10_isLess_6 : decode cX10_isLess 6 = .ok (.lload 4, 2) := by decide +kernel
theorem dX10_isLess_8 : decode cX10_isLess 8 = .ok (.lstore 12, 2) := by decide +kernel
theorem dX10_isLess_10 : decode cX10_isLess 10 = .ok (.lload 6, 2) := by decide +kernel
theorem dX10_isLess_12 : decode cX10_isLess 12 = .ok (.lstore 14, 2) := by decide +kernel
theorem dX10_isLess_14 : decode cX10_isLess 14 = .ok (.iconst 0, 1) := by decide +kernel
theorem dX10_isLess_15 : decode cX10_isLess 15 = .ok (.istore 16, 2) := by decide +kernel
theorem dX10_isLess_17 : decode cX10_isLess 17 = .ok (.iload 16, 2) := by decide +kernel
theorem dX10_isLess_19 : decode cX10_isLess 19 = .ok (.sipush 400, 3) := by decide +kernel
theorem dX10_isLess_22 : decode cX10_isLess 22 = .ok (.if_icmp .ge 116, 3) := by decide +kernel
theorem dX10_isLess_25 : decode cX10_isLess 25 = .ok (.lload 10, 2) := by decide +kernel
theorem dX10_isLess_27 : decode cX10_isLess 27 = .ok (.lconst 0, 1) := by decide +kernel
theorem dX10_isLess_28 : decode cX10_isLess 28 = .ok (.lcmp, 1) := by decide +kernel
theorem dX10_isLess_29 : decode cX10_isLess 29 = .ok (.ifCond .eq 109, 3) := by decide +kernel
theorem dX10_isLess_32 : decode cX10_isLess 32 = .ok (.lload 14, 2) := by decide +kernel
theorem dX10_isLess_34 : decode cX10_isLess 34 = .ok (.lconst 0, 1) := by decide +kernel
theorem dX10_isLess_35 : decode cX10_isLess 35 = .ok (.lcmp, 1) := by decide +kernel
theorem dX10_isLess_36 : decode cX10_isLess 36 = .ok (.ifCond .eq 102, 3) := by decide +kernel
theorem dX10_isLess_39 : decode cX10_isLess 39 = .ok (.lload 8, 2) := by decide +kernel
theorem dX10_isLess_41 : decode cX10_isLess 41 = .ok (.lload 10, 2) := by decide +kernel
theorem dX10_isLess_43 : decode cX10_isLess 43 = .ok (.ldiv, 1) := by decide +kernel
theorem dX10_isLess_44 : decode cX10_isLess 44 = .ok (.lstore 17, 2) := by decide +kernel
theorem dX10_isLess_46 : decode cX10_isLess 46 = .ok (.lload 12, 2) := by decide +kernel
theorem dX10_isLess_48 : decode cX10_isLess 48 = .ok (.lload 14, 2) := by decide +kernel
theorem dX10_isLess_50 : decode cX10_isLess 50 = .ok (.ldiv, 1) := by decide +kernel
theorem dX10_isLess_51 : decode cX10_isLess 51 = .ok (.lstore 19, 2) := by decide +kernel
theorem dX10_isLess_53 : decode cX10_isLess 53 = .ok (.lload 17, 2) := by decide +kernel
theorem dX10_isLess_55 : decode cX10_isLess 55 = .ok (.lload 19, 2) := by decide +kernel
theorem dX10_isLess_57 : decode cX10_isLess 57 = .ok (.lcmp, 1) := by decide +kernel
theorem dX10_isLess_58 : decode cX10_isLess 58 = .ok (.ifCond .eq 17, 3) := by decide +kernel
theorem dX10_isLess_61 : decode cX10_isLess 61 = .ok (.lload 17, 2) := by decide +kernel
theorem dX10_isLess_63 : decode cX10_isLess 63 = .ok (.lload 19, 2) := by decide +kernel
theorem dX10_isLess_65 : decode cX10_isLess 65 = .ok (.lcmp, 1) := by decide +kernel
theorem dX10_isLess_66 : decode cX10_isLess 66 = .ok (.ifCond .ge 7, 3) := by decide +kernel
theorem dX10_isLess_69 : decode cX10_isLess 69 = .ok (.iconst 1, 1) := by decide +kernel
theorem dX10_isLess_70 : decode cX10_isLess 70 = .ok (.goto 4, 3) := by decide +kernel
theorem dX10_isLess_73 : decode cX10_isLess 73 = .ok (.iconst 0, 1) := by decide +kernel
theorem dX10_isLess_74 : decode cX10_isLess 74 = .ok (.ireturn, 1) := by decide +kernel
theorem dX10_isLess_75 : decode cX10_isLess 75 = .ok (.lload 8, 2) := by decide +kernel
theorem dX10_isLess_77 : decode cX10_isLess 77 = .ok (.lload 10, 2) := by decide +kernel
theorem dX10_isLess_79 : decode cX10_isLess 79 = .ok (.lrem, 1) := by decide +kernel
theorem dX10_isLess_80 : decode cX10_isLess 80 = .ok (.lstore 21, 2) := by decide +kernel
theorem dX10_isLess_82 : decode cX10_isLess 82 = .ok (.lload 12, 2) := by decide +kernel
theorem dX10_isLess_84 : decode cX10_isLess 84 = .ok (.lload 14, 2) := by decide +kernel
theorem dX10_isLess_86 : decode cX10_isLess 86 = .ok (.lrem, 1) := by decide +kernel
theorem dX10_isLess_87 : decode cX10_isLess 87 = .ok (.lstore 23, 2) := by decide +kernel
theorem dX10_isLess_89 : decode cX10_isLess 89 = .ok (.lload 21, 2) := by decide +kernel
theorem dX10_isLess_91 : decode cX10_isLess 91 = .ok (.lconst 0, 1) := by decide +kernel
theorem dX10_isLess_92 : decode cX10_isLess 92 = .ok (.lcmp, 1) := by decide +kernel
theorem dX10_isLess_93 : decode cX10_isLess 93 = .ok (.ifCond .eq 10, 3) := by decide +kernel
theorem dX10_isLess_96 : decode cX10_isLess 96 = .ok (.lload 23, 2) := by decide +kernel
theorem dX10_isLess_98 : decode cX10_isLess 98 = .ok (.lconst 0, 1) := by decide +kernel
theorem dX10_isLess_99 : decode cX10_isLess 99 = .ok (.lcmp, 1) := by decide +kernel
theorem dX10_isLess_100 : decode cX10_isLess 100 = .ok (.ifCond .ne 16, 3) := by decide +kernel
theorem dX10_isLess_103 : decode cX10_isLess 103 = .ok (.lload 23, 2) := by decide +kernel
theorem dX10_isLess_105 : decode cX10_isLess 105 = .ok (.lconst 0, 1) := by decide +kernel
theorem dX10_isLess_106 : decode cX10_isLess 106 = .ok (.lcmp, 1) := by decide +kernel
theorem dX10_isLess_107 : decode cX10_isLess 107 = .ok (.ifCond .eq 7, 3) := by decide +kernel
theorem dX10_isLess_110 : decode cX10_isLess 110 = .ok (.iconst 1, 1) := by decide +kernel
theorem dX10_isLess_111 : decode cX10_isLess 111 = .ok (.goto 4, 3) := by decide +kernel
theorem dX10_isLess_114 : decode cX10_isLess 114 = .ok (.iconst 0, 1) := by decide +kernel
theorem dX10_isLess_115 : decode cX10_isLess 115 = .ok (.ireturn, 1) := by decide +kernel
theorem dX10_isLess_116 : decode cX10_isLess 116 = .ok (.lload 14, 2) := by decide +kernel
theorem dX10_isLess_118 : decode cX10_isLess 118 = .ok (.lstore 8, 2) := by decide +kernel
theorem dX10_isLess_120 : decode cX10_isLess 120 = .ok (.lload 10, 2) := by decide +kernel
theorem dX10_isLess_122 : decode cX10_isLess 122 = .ok (.lstore 12, 2) := by decide +kernel
theorem dX10_isLess_124 : decode cX10_isLess 124 = .ok (.lload 23, 2) := by decide +kernel
theorem dX10_isLess_126 : decode cX10_isLess 126 = .ok (.lstore 10, 2) := by decide +kernel
theorem dX10_isLess_128 : decode cX10_isLess 128 = .ok (.lload 21, 2) := by decide +kernel
theorem dX10_isLess_130 : decode cX10_isLess 130 = .ok (.lstore 14, 2) := by decide +kernel
theorem dX10_isLess_132 : decode cX10_isLess 132 = .ok (.iinc 16 1, 3) := by decide +kernel
theorem dX10_isLess_135 : decode cX10_isLess 135 = .ok (.goto (-118), 3) := by decide +kernel
theorem dX10_isLess_138 : decode cX10_isLess 138 = .ok (.iconst 0, 1) := by decide +kernel
theorem dX10_isLess_139 : decode cX10_isLess 139 = .ok (.ireturn, 1) := by decide +kernel
theorem dX10_itemAt_0 : decode cX10_itemAt 0 = .ok (.iload_n 1, 1) := by decide +kernel
theorem dX10_itemAt_1 : decode cX10_itemAt 1 = .ok (.ifCond .lt 15, 3) := by decide +kernel
theorem dX10_itemAt_4 : decode cX10_itemAt 4 = .ok (.iload_n 1, 1) := by decide +kernel
theorem dX10_itemAt_5 : decode cX10_itemAt 5 = .ok (.aload_n 0, 1) := by decide +kernel
theorem dX10_itemAt_6 : decode cX10_itemAt 6 = .ok (.arraylength, 1) := by decide +kernel
theorem dX10_itemAt_7 : decode cX10_itemAt 7 = .ok (.if_icmp .ge 9, 3) := by decide +kernel
theorem dX10_itemAt_10 : decode cX10_itemAt 10 = .ok (.aload_n 0, 1) := by decide +kernel
theorem dX10_itemAt_11 : decode cX10_itemAt 11 = .ok (.iload_n 1, 1) := by decide +kernel
theorem dX10_itemAt_12 : decode cX10_itemAt 12 = .ok (.iaload, 1) := by decide +kernel
theorem dX10_itemAt_13 : decode cX10_itemAt 13 = .ok (.goto 4, 3) := by decide +kernel
theorem dX10_itemAt_16 : decode cX10_itemAt 16 = .ok (.iconst 0, 1) := by decide +kernel
theorem dX10_itemAt_17 : decode cX10_itemAt 17 = .ok (.ireturn, 1) := by decide +kernel
theorem dX10_longAt_0 : decode cX10_longAt 0 = .ok (.iload_n 1, 1) := by decide +kernel
theorem dX10_longAt_1 : decode cX10_longAt 1 = .ok (.ifCond .lt 15, 3) := by decide +kernel
theorem dX10_longAt_4 : decode cX10_longAt 4 = .ok (.iload_n 1, 1) := by decide +kernel
theorem dX10_longAt_5 : decode cX10_longAt 5 = .ok (.aload_n 0, 1) := by decide +kernel
theorem dX10_longAt_6 : decode cX10_longAt 6 = .ok (.arraylength, 1) := by decide +kernel
theorem dX10_longAt_7 : decode cX10_longAt 7 = .ok (.if_icmp .ge 9, 3) := by decide +kernel
theorem dX10_longAt_10 : decode cX10_longAt 10 = .ok (.aload_n 0, 1) := by decide +kernel
theorem dX10_longAt_11 : decode cX10_longAt 11 = .ok (.iload_n 1, 1) := by decide +kernel
theorem dX10_longAt_12 : decode cX10_longAt 12 = .ok (.laload, 1) := by decide +kernel
theorem dX10_longAt_13 : decode cX10_longAt 13 = .ok (.goto 4, 3) := by decide +kernel
theorem dX10_longAt_16 : decode cX10_longAt 16 = .ok (.lconst 0, 1) := by decide +kernel
theorem dX10_longAt_17 : decode cX10_longAt 17 = .ok (.lreturn, 1) := by decide +kernel
theorem dX10_addTo_0 : decode cX10_addTo 0 = .ok (.iload_n 1, 1) := by decide +kernel
theorem dX10_addTo_1 : decode cX10_addTo 1 = .ok (.ifCond .lt 16, 3) := by decide +kernel
theorem dX10_addTo_4 : decode cX10_addTo 4 = .ok (.iload_n 1, 1) := by decide +kernel
theorem dX10_addTo_5 : decode cX10_addTo 5 = .ok (.aload_n 0, 1) := by decide +kernel
theorem dX10_addTo_6 : decode cX10_addTo 6 = .ok (.arraylength, 1) := by decide +kernel
theorem dX10_addTo_7 : decode cX10_addTo 7 = .ok (.if_icmp .ge 10, 3) := by decide +kernel
theorem dX10_addTo_10 : decode cX10_addTo 10 = .ok (.aload_n 0, 1) := by decide +kernel
theorem dX10_addTo_11 : decode cX10_addTo 11 = .ok (.iload_n 1, 1) := by decide +kernel
theorem dX10_addTo_12 : decode cX10_addTo 12 = .ok (.dup2, 1) := by decide +kernel
theorem dX10_addTo_13 : decode cX10_addTo 13 = .ok (.laload, 1) := by decide +kernel
theorem dX10_addTo_14 : decode cX10_addTo 14 = .ok (.lload_n 2, 1) := by decide +kernel
theorem dX10_addTo_15 : decode cX10_addTo 15 = .ok (.ladd, 1) := by decide +kernel
theorem dX10_addTo_16 : decode cX10_addTo 16 = .ok (.lastore, 1) := by decide +kernel
theorem dX10_addTo_17 : decode cX10_addTo 17 = .ok (.return_, 1) := by decide +kernel
theorem dJ6_bitCount_0f7a4_0 : decode cJ6_bitCount_0f7a4 0 = .ok (.iload_n 0, 1) := by decide +kernel
theorem dJ6_bitCount_0f7a4_1 : decode cJ6_bitCount_0f7a4 1 = .ok (.iload_n 0, 1) := by decide +kernel
theorem dJ6_bitCount_0f7a4_2 : decode cJ6_bitCount_0f7a4 2 = .ok (.iconst 1, 1) := by decide +kernel
theorem dJ6_bitCount_0f7a4_3 : decode cJ6_bitCount_0f7a4 3 = .ok (.iushr, 1) := by decide +kernel
theorem dJ6_bitCount_0f7a4_4 : decode cJ6_bitCount_0f7a4 4 = .ok (.ldc_w 265, 3) := by decide +kernel
theorem dJ6_bitCount_0f7a4_7 : decode cJ6_bitCount_0f7a4 7 = .ok (.iand, 1) := by decide +kernel
theorem dJ6_bitCount_0f7a4_8 : decode cJ6_bitCount_0f7a4 8 = .ok (.isub, 1) := by decide +kernel
theorem dJ6_bitCount_0f7a4_9 : decode cJ6_bitCount_0f7a4 9 = .ok (.istore_n 0, 1) := by decide +kernel
theorem dJ6_bitCount_0f7a4_10 : decode cJ6_bitCount_0f7a4 10 = .ok (.iload_n 0, 1) := by decide +kernel
theorem dJ6_bitCount_0f7a4_11 : decode cJ6_bitCount_0f7a4 11 = .ok (.ldc_w 266, 3) := by decide +kernel
theorem dJ6_bitCount_0f7a4_14 : decode cJ6_bitCount_0f7a4 14 = .ok (.iand, 1) := by decide +kernel
theorem dJ6_bitCount_0f7a4_15 : decode cJ6_bitCount_0f7a4 15 = .ok (.iload_n 0, 1) := by decide +kernel
theorem dJ6_bitCount_0f7a4_16 : decode cJ6_bitCount_0f7a4 16 = .ok (.iconst 2, 1) := by decide +kernel
theorem dJ6_bitCount_0f7a4_17 : decode cJ6_bitCount_0f7a4 17 = .ok (.iushr, 1) := by decide +kernel
theorem dJ6_bitCount_0f7a4_18 : decode cJ6_bitCount_0f7a4 18 = .ok (.ldc_w 266, 3) := by decide +kernel
theorem dJ6_bitCount_0f7a4_21 : decode cJ6_bitCount_0f7a4 21 = .ok (.iand, 1) := by decide +kernel
theorem dJ6_bitCount_0f7a4_22 : decode cJ6_bitCount_0f7a4 22 = .ok (.iadd, 1) := by decide +kernel
theorem dJ6_bitCount_0f7a4_23 : decode cJ6_bitCount_0f7a4 23 = .ok (.istore_n 0, 1) := by decide +kernel
theorem dJ6_bitCount_0f7a4_24 : decode cJ6_bitCount_0f7a4 24 = .ok (.iload_n 0, 1) := by decide +kernel
theorem dJ6_bitCount_0f7a4_25 : decode cJ6_bitCount_0f7a4 25 = .ok (.iload_n 0, 1) := by decide +kernel
theorem dJ6_bitCount_0f7a4_26 : decode cJ6_bitCount_0f7a4 26 = .ok (.iconst 4, 1) := by decide +kernel
theorem dJ6_bitCount_0f7a4_27 : decode cJ6_bitCount_0f7a4 27 = .ok (.iushr, 1) := by decide +kernel
theorem dJ6_bitCount_0f7a4_28 : decode cJ6_bitCount_0f7a4 28 = .ok (.iadd, 1) := by decide +kernel
theorem dJ6_bitCount_0f7a4_29 : decode cJ6_bitCount_0f7a4 29 = .ok (.ldc_w 267, 3) := by decide +kernel
theorem dJ6_bitCount_0f7a4_32 : decode cJ6_bitCount_0f7a4 32 = .ok (.iand, 1) := by decide +kernel
theorem dJ6_bitCount_0f7a4_33 : decode cJ6_bitCount_0f7a4 33 = .ok (.istore_n 0, 1) := by decide +kernel
theorem dJ6_bitCount_0f7a4_34 : decode cJ6_bitCount_0f7a4 34 = .ok (.iload_n 0, 1) := by decide +kernel
theorem dJ6_bitCount_0f7a4_35 : decode cJ6_bitCount_0f7a4 35 = .ok (.iload_n 0, 1) := by decide +kernel
theorem dJ6_bitCount_0f7a4_36 : decode cJ6_bitCount_0f7a4 36 = .ok (.bipush 8, 2) := by decide +kernel
theorem dJ6_bitCount_0f7a4_38 : decode cJ6_bitCount_0f7a4 38 = .ok (.iushr, 1) := by decide +kernel
theorem dJ6_bitCount_0f7a4_39 : decode cJ6_bitCount_0f7a4 39 = .ok (.iadd, 1) := by decide +kernel
theorem dJ6_bitCount_0f7a4_40 : decode cJ6_bitCount_0f7a4 40 = .ok (.istore_n 0, 1) := by decide +kernel
theorem dJ6_bitCount_0f7a4_41 : decode cJ6_bitCount_0f7a4 41 = .ok (.iload_n 0, 1) := by decide +kernel
theorem dJ6_bitCount_0f7a4_42 : decode cJ6_bitCount_0f7a4 42 = .ok (.iload_n 0, 1) := by decide +kernel
theorem dJ6_bitCount_0f7a4_43 : decode cJ6_bitCount_0f7a4 43 = .ok (.bipush 16, 2) := by decide +kernel
theorem dJ6_bitCount_0f7a4_45 : decode cJ6_bitCount_0f7a4 45 = .ok (.iushr, 1) := by decide +kernel
theorem dJ6_bitCount_0f7a4_46 : decode cJ6_bitCount_0f7a4 46 = .ok (.iadd, 1) := by decide +kernel
theorem dJ6_bitCount_0f7a4_47 : decode cJ6_bitCount_0f7a4 47 = .ok (.istore_n 0, 1) := by decide +kernel
theorem dJ6_bitCount_0f7a4_48 : decode cJ6_bitCount_0f7a4 48 = .ok (.iload_n 0, 1) := by decide +kernel
theorem dJ6_bitCount_0f7a4_49 : decode cJ6_bitCount_0f7a4 49 = .ok (.bipush 63, 2) := by decide +kernel
theorem dJ6_bitCount_0f7a4_51 : decode cJ6_bitCount_0f7a4 51 = .ok (.iand, 1) := by decide +kernel
theorem dJ6_bitCount_0f7a4_52 : decode cJ6_bitCount_0f7a4 52 = .ok (.ireturn, 1) := by decide +kernel
theorem dJ9_max_7cf53_0 : decode cJ9_max_7cf53 0 = .ok (.iload_n 0, 1) := by decide +kernel
theorem dJ9_max_7cf53_1 : decode cJ9_max_7cf53 1 = .ok (.iload_n 1, 1) := by decide +kernel
theorem dJ9_max_7cf53_2 : decode cJ9_max_7cf53 2 = .ok (.if_icmp .lt 7, 3) := by decide +kernel
theorem dJ9_max_7cf53_5 : decode cJ9_max_7cf53 5 = .ok (.iload_n 0, 1) := by decide +kernel
theorem dJ9_max_7cf53_6 : decode cJ9_max_7cf53 6 = .ok (.goto 4, 3) := by decide +kernel
theorem dJ9_max_7cf53_9 : decode cJ9_max_7cf53 9 = .ok (.iload_n 1, 1) := by decide +kernel
theorem dJ9_max_7cf53_10 : decode cJ9_max_7cf53 10 = .ok (.ireturn, 1) := by decide +kernel
theorem dJ9_min_7cf53_0 : decode cJ9_min_7cf53 0 = .ok (.iload_n 0, 1) := by decide +kernel
theorem dJ9_min_7cf53_1 : decode cJ9_min_7cf53 1 = .ok (.iload_n 1, 1) := by decide +kernel
theorem dJ9_min_7cf53_2 : decode cJ9_min_7cf53 2 = .ok (.if_icmp .gt 7, 3) := by decide +kernel
theorem dJ9_min_7cf53_5 : decode cJ9_min_7cf53 5 = .ok (.iload_n 0, 1) := by decide +kernel
theorem dJ9_min_7cf53_6 : decode cJ9_min_7cf53 6 = .ok (.goto 4, 3) := by decide +kernel
theorem dJ9_min_7cf53_9 : decode cJ9_min_7cf53 9 = .ok (.iload_n 1, 1) := by decide +kernel
theorem dJ9_min_7cf53_10 : decode cJ9_min_7cf53 10 = .ok (.ireturn, 1) := by decide +kernel
theorem dJ7_fill_d0a16_0 : decode cJ7_fill_d0a16 0 = .ok (.iconst 0, 1) := by decide +kernel
theorem dJ7_fill_d0a16_1 : decode cJ7_fill_d0a16 1 = .ok (.istore_n 3, 1) := by decide +kernel
theorem dJ7_fill_d0a16_2 : decode cJ7_fill_d0a16 2 = .ok (.aload_n 0, 1) := by decide +kernel
theorem dJ7_fill_d0a16_3 : decode cJ7_fill_d0a16 3 = .ok (.arraylength, 1) := by decide +kernel
theorem dJ7_fill_d0a16_4 : decode cJ7_fill_d0a16 4 = .ok (.istore 4, 2) := by decide +kernel
theorem dJ7_fill_d0a16_6 : decode cJ7_fill_d0a16 6 = .ok (.iload_n 3, 1) := by decide +kernel
theorem dJ7_fill_d0a16_7 : decode cJ7_fill_d0a16 7 = .ok (.iload 4, 2) := by decide +kernel
theorem dJ7_fill_d0a16_9 : decode cJ7_fill_d0a16 9 = .ok (.if_icmp .ge 13, 3) := by decide +kernel
theorem dJ7_fill_d0a16_12 : decode cJ7_fill_d0a16 12 = .ok (.aload_n 0, 1) := by decide +kernel
theorem dJ7_fill_d0a16_13 : decode cJ7_fill_d0a16 13 = .ok (.iload_n 3, 1) := by decide +kernel
theorem dJ7_fill_d0a16_14 : decode cJ7_fill_d0a16 14 = .ok (.lload_n 1, 1) := by decide +kernel
theorem dJ7_fill_d0a16_15 : decode cJ7_fill_d0a16 15 = .ok (.lastore, 1) := by decide +kernel
theorem dJ7_fill_d0a16_16 : decode cJ7_fill_d0a16 16 = .ok (.iinc 3 1, 3) := by decide +kernel
theorem dJ7_fill_d0a16_19 : decode cJ7_fill_d0a16 19 = .ok (.goto (-13), 3) := by decide +kernel
theorem dJ7_fill_d0a16_22 : decode cJ7_fill_d0a16 22 = .ok (.return_, 1) := by decide +kernel
theorem dJ7_fill_53178_0 : decode cJ7_fill_53178 0 = .ok (.iconst 0, 1) := by decide +kernel
theorem dJ7_fill_53178_1 : decode cJ7_fill_53178 1 = .ok (.istore_n 2, 1) := by decide +kernel
theorem dJ7_fill_53178_2 : decode cJ7_fill_53178 2 = .ok (.aload_n 0, 1) := by decide +kernel
theorem dJ7_fill_53178_3 : decode cJ7_fill_53178 3 = .ok (.arraylength, 1) := by decide +kernel
theorem dJ7_fill_53178_4 : decode cJ7_fill_53178 4 = .ok (.istore_n 3, 1) := by decide +kernel
theorem dJ7_fill_53178_5 : decode cJ7_fill_53178 5 = .ok (.iload_n 2, 1) := by decide +kernel
theorem dJ7_fill_53178_6 : decode cJ7_fill_53178 6 = .ok (.iload_n 3, 1) := by decide +kernel
theorem dJ7_fill_53178_7 : decode cJ7_fill_53178 7 = .ok (.if_icmp .ge 13, 3) := by decide +kernel
theorem dJ7_fill_53178_10 : decode cJ7_fill_53178 10 = .ok (.aload_n 0, 1) := by decide +kernel
theorem dJ7_fill_53178_11 : decode cJ7_fill_53178 11 = .ok (.iload_n 2, 1) := by decide +kernel
theorem dJ7_fill_53178_12 : decode cJ7_fill_53178 12 = .ok (.iload_n 1, 1) := by decide +kernel
theorem dJ7_fill_53178_13 : decode cJ7_fill_53178 13 = .ok (.iastore, 1) := by decide +kernel
theorem dJ7_fill_53178_14 : decode cJ7_fill_53178 14 = .ok (.iinc 2 1, 3) := by decide +kernel
theorem dJ7_fill_53178_17 : decode cJ7_fill_53178 17 = .ok (.goto (-12), 3) := by decide +kernel
theorem dJ7_fill_53178_20 : decode cJ7_fill_53178 20 = .ok (.return_, 1) := by decide +kernel
end
section
theorem dX11_init_0 : decode cX11_init 0 = .ok (.aload_n 0, 1) := by decide +kernel
theorem dX11_init_1 : decode cX11_init 1 = .ok (.invokespecial 1, 3) := by decide +kernel
theorem dX11_init_4 : decode cX11_init 4 = .ok (.aload_n 0, 1) := by decide +kernel
theorem dX11_init_5 : decode cX11_init 5 = .ok (.bipush 60, 2) := by decide +kernel
theorem dX11_init_7 : decode cX11_init 7 = .ok (.newarray .int, 2) := by decide +kernel
theorem dX11_init_9 : decode cX11_init 9 = .ok (.putfield 7, 3) := by decide +kernel
theorem dX11_init_12 : decode cX11_init 12 = .ok (.aload_n 0, 1) := by decide +kernel
theorem dX11_init_13 : decode cX11_init 13 = .ok (.bipush 100, 2) := by decide +kernel
theorem dX11_init_15 : decode cX11_init 15 = .ok (.newarray .int, 2) := by decide +kernel
theorem dX11_init_17 : decode cX11_init 17 = .ok (.putfield 13, 3) := by decide +kernel
theorem dX11_init_20 : decode cX11_init 20 = .ok (.aload_n 0, 1) := by decide +kernel
theorem dX11_init_21 : decode cX11_init 21 = .ok (.bipush 100, 2) := by decide +kernel
theorem dX11_init_23 : decode cX11_init 23 = .ok (.newarray .int, 2) := by decide +kernel
theorem dX11_init_25 : decode cX11_init 25 = .ok (.putfield 16, 3) := by decide +kernel
theorem dX11_init_28 : decode cX11_init 28 = .ok (.aload_n 0, 1) := by decide +kernel
theorem dX11_init_29 : decode cX11_init 29 = .ok (.bipush 100, 2) := by decide +kernel
theorem dX11_init_31 : decode cX11_init 31 = .ok (.newarray .int, 2) := by decide +kernel
theorem dX11_init_33 : decode cX11_init 33 = .ok (.putfield 19, 3) := by decide +kernel
theorem dX11_init_36 : decode cX11_init 36 = .ok (.aload_n 0, 1) := by decide +kernel
theorem dX11_init_37 : decode cX11_init 37 = .ok (.bipush 7, 2) := by decide +kernel
theorem dX11_init_39 : decode cX11_init 39 = .ok (.newarray .int, 2) := by decide +kernel
theorem dX11_init_41 : decode cX11_init 41 = .ok (.putfield 22, 3) := by decide +kernel
theorem dX11_init_44 : decode cX11_init 44 = .ok (.aload_n 0, 1) := by decide +kernel
theorem dX11_init_45 : decode cX11_init 45 = .ok (.iconst 3, 1) := by decide +kernel
theorem dX11_init_46 : decode cX11_init 46 = .ok (.newarray .int, 2) := by decide +kernel
theorem dX11_init_48 : decode cX11_init 48 = .ok (.putfield 25, 3) := by decide +kernel
theorem dX11_init_51 : decode cX11_init 51 = .ok (.aload_n 0, 1) := by decide +kernel
theorem dX11_init_52 : decode cX11_init 52 = .ok (.iconst 3, 1) := by decide +kernel
theorem dX11_init_53 : decode cX11_init 53 = .ok (.newarray .int, 2) := by decide +kernel
theorem dX11_init_55 : decode cX11_init 55 = .ok (.putfield 28, 3) := by decide +kernel
theorem dX11_init_58 : decode cX11_init 58 = .ok (.aload_n 0, 1) := by decide +kernel
theorem dX11_init_59 : decode cX11_init 59 = .ok (.bipush 9, 2) := by decide +kernel
theorem dX11_init_61 : decode cX11_init 61 = .ok (.newarray .int, 2) := by decide +kernel
theorem dX11_init_63 : decode cX11_init 63 = .ok (.putfield 31, 3) := by decide +kernel
theorem dX11_init_66 : decode cX11_init 66 = .ok (.aload_n 0, 1) := by decide +kernel
theorem dX11_init_67 : decode cX11_init 67 = .ok (.bipush 20, 2) := by decide +kernel
theorem dX11_init_69 : decode cX11_init 69 = .ok (.newarray .int, 2) := by decide +kernel
theorem dX11_init_71 : decode cX11_init 71 = .ok (.putfield 34, 3) := by decide +kernel
theorem dX11_init_74 : decode cX11_init 74 = .ok (.aload_n 0, 1) := by decide +kernel
theorem dX11_init_75 : decode cX11_init 75 = .ok (.iconst 4, 1) := by decide +kernel
theorem dX11_init_76 : decode cX11_init 76 = .ok (.newarray .int, 2) := by decide +kernel
theorem dX11_init_78 : decode cX11_init 78 = .ok (.putfield 37, 3) := by decide +kernel
theorem dX11_init_81 : decode cX11_init 81 = .ok (.aload_n 0, 1) := by decide +kernel
theorem dX11_init_82 : decode cX11_init 82 = .ok (.iconst 4, 1) := by decide +kernel
theorem dX11_init_83 : decode cX11_init 83 = .ok (.newarray .int, 2) := by decide +kernel
theorem dX11_init_85 : decode cX11_init 85 = .ok (.putfield 40, 3) := by decide +kernel
theorem dX11_init_88 : decode cX11_init 88 = .ok (.aload_n 0, 1) := by decide +kernel
theorem dX11_init_89 : decode cX11_init 89 = .ok (.iconst 4, 1) := by decide +kernel
theorem dX11_init_90 : decode cX11_init 90 = .ok (.newarray .int, 2) := by decide +kernel
theorem dX11_init_92 : decode cX11_init 92 = .ok (.putfield 43, 3) := by decide +kernel
theorem dX11_init_95 : decode cX11_init 95 = .ok (.aload_n 0, 1) := by decide +kernel
theorem dX11_init_96 : decode cX11_init 96 = .ok (.bipush 112, 2) := by decide +kernel
theorem dX11_init_98 : decode cX11_init 98 = .ok (.newarray .long, 2) := by decide +kernel
theorem dX11_init_100 : decode cX11_init 100 = .ok (.putfield 46, 3) := by decide +kernel
theorem dX11_init_103 : decode cX11_init 103 = .ok (.aload_n 0, 1) := by decide +kernel
theorem dX11_init_104 : decode cX11_init 104 = .ok (.bipush 112, 2) := by decide +kernel
theorem dX11_init_106 : decode cX11_init 106 = .ok (.newarray .long, 2) := by decide +kernel
theorem dX11_init_108 : decode cX11_init 108 = .ok (.putfield 50, 3) := by decide +kernel
theorem dX11_init_111 : decode cX11_init 111 = .ok (.aload_n 0, 1) := by decide +kernel
theorem dX11_init_112 : decode cX11_init 112 = .ok (.bipush 100, 2) := by decide +kernel
theorem dX11_init_114 : decode cX11_init 114 = .ok (.newarray .long, 2) := by decide +kernel
theorem dX11_init_116 : decode cX11_init 116 = .ok (.putfield 53, 3) := by decide +kernel
theorem dX11_init_119 : decode cX11_init 119 = .ok (.aload_n 0, 1) := by decide +kernel
theorem dX11_init_120 : decode cX11_init 120 = .ok (.bipush 21, 2) := by decide +kernel
theorem dX11_init_122 : decode cX11_init 122 = .ok (.newarray .long, 2) := by decide +kernel
theorem dX11_init_124 : decode cX11_init 124 = .ok (.putfield 56, 3) := by decide +kernel
theorem dX11_init_127 : decode cX11_init 127 = .ok (.aload_n 0, 1) := by decide +kernel
theorem dX11_init_128 : decode cX11_init 128 = .ok (.bipush 21, 2) := by decide +kernel
theorem dX11_init_130 : decode cX11_init 130 = .ok (.newarray .long, 2) := by decide +kernel
theorem dX11_init_132 : decode cX11_init 132 = .ok (.putfield 59, 3) := by decide +kernel
theorem dX11_init_135 : decode cX11_init 135 = .ok (.aload_n 0, 1) := by decide +kernel
theorem dX11_init_136 : decode cX11_init 136 = .ok (.bipush 8, 2) := by decide +kernel
theorem dX11_init_138 : decode cX11_init 138 = .ok (.newarray .int, 2) := by decide +kernel
theorem dX11_init_140 : decode cX11_init 140 = .ok (.putfield 62, 3) := by decide +kernel
theorem dX11_init_143 : decode cX11_init 143 = .ok (.aload_n 0, 1) := by decide +kernel
theorem dX11_init_144 : decode cX11_init 144 = .ok (.bipush 8, 2) := by decide +kernel
theorem dX11_init_146 : decode cX11_init 146 = .ok (.newarray .int, 2) := by decide +kernel
theorem dX11_init_148 : decode cX11_init 148 = .ok (.putfield 65, 3) := by decide +kernel
theorem dX11_init_151 : decode cX11_init 151 = .ok (.aload_n 0, 1) := by decide +kernel
theorem dX11_init_152 : decode cX11_init 152 = .ok (.bipush 99, 2) := by decide +kernel
theorem dX11_init_154 : decode cX11_init 154 = .ok (.newarray .int, 2) := by decide +kernel
theorem dX11_init_156 : decode cX11_init 156 = .ok (.putfield 68, 3) := by decide +kernel
theorem dX11_init_159 : decode cX11_init 159 = .ok (.aload_n 0, 1) := by decide +kernel
theorem dX11_init_160 : decode cX11_init 160 = .ok (.iconst 4, 1) := by decide +kernel
theorem dX11_init_161 : decode cX11_init 161 = .ok (.newarray .boolean, 2) := by decide +kernel
theorem dX11_init_163 : decode cX11_init 163 = .ok (.putfield 71, 3) := by decide +kernel
theorem dX11_init_166 : decode cX11_init 166 = .ok (.aload_n 0, 1) := by decide +kernel
theorem dX11_init_167 : decode cX11_init 167 = .ok (.iconst 4, 1) := by decide +kernel
theorem dX11_init_168 : decode cX11_init 168 = .ok (.newarray .int, 2) := by decide +kernel
theorem dX11_init_170 : decode cX11_init 170 = .ok (.putfield 75, 3) := by decide +kernel
theorem dX11_init_173 : decode cX11_init 173 = .ok (.aload_n 0, 1) := by decide +kernel
theorem dX11_init_174 : decode cX11_init 174 = .ok (.iconst 4, 1) := by decide +kernel
theorem dX11_init_175 : decode cX11_init 175 = .ok (.newarray .int, 2) := by decide +kernel
theorem dX11_init_177 : decode cX11_init 177 = .ok (.putfield 78, 3) := by decide +kernel
theorem dX11_init_180 : decode cX11_init 180 = .ok (.aload_n 0, 1) := by decide +kernel
theorem dX11_init_181 : decode cX11_init 181 = .ok (.sipush 192, 3) := by decide +kernel
theorem dX11_init_184 : decode cX11_init 184 = .ok (.newarray .int, 2) := by decide +kernel
theorem dX11_init_186 : decode cX11_init 186 = .ok (.putfield 81, 3) := by decide +kernel
theorem dX11_init_189 : decode cX11_init 189 = .ok (.aload_n 0, 1) := by decide +kernel
theorem dX11_init_190 : decode cX11_init 190 = .ok (.bipush 48, 2) := by decide +kernel
theorem dX11_init_192 : decode cX11_init 192 = .ok (.newarray .int, 2) := by decide +kernel
theorem dX11_init_194 : decode cX11_init 194 = .ok (.putfield 84, 3) := by decide +kernel
theorem dX11_init_197 : decode cX11_init 197 = .ok (.aload_n 0, 1) := by decide +kernel
theorem dX11_init_198 : decode cX11_init 198 = .ok (.getfield 25, 3) := by decide +kernel
theorem dX11_init_201 : decode cX11_init 201 = .ok (.iconst 0, 1) := by decide +kernel
theorem dX11_init_202 : decode cX11_init 202 = .ok (.iconst 2, 1) := by decide +kernel
theorem dX11_init_203 : decode cX11_init 203 = .ok (.iastore, 1) := by decide +kernel
theorem dX11_init_204 : decode cX11_init 204 = .ok (.aload_n 0, 1) := by decide +kernel
theorem dX11_init_205 : decode cX11_init 205 = .ok (.getfield 28, 3) := by decide +kernel
theorem dX11_init_208 : decode cX11_init 208 = .ok (.iconst 0, 1) := by decide +kernel
theorem dX11_init_209 : decode cX11_init 209 = .ok (.iconst 1, 1) := by decide +kernel
theorem dX11_init_210 : decode cX11_init 210 = .ok (.iastore, 1) := by decide +kernel
theorem dX11_init_211 : decode cX11_init 211 = .ok (.aload_n 0, 1) := by decide +kernel
theorem dX11_init_212 : decode cX11_init 212 = .ok (.getfield 25, 3) := by decide +kernel
theorem dX11_init_215 : decode cX11_init 215 = .ok (.iconst 1, 1) := by decide +kernel
theorem dX11_init_216 : decode cX11_init 216 = .ok (.iconst 1, 1) := by decide +kernel
theorem dX11_init_217 : decode cX11_init 217 = .ok (.iastore, 1) := by decide +kernel
theorem dX11_init_218 : decode cX11_init 218 = .ok (.aload_n 0, 1) := by decide +kernel
theorem dX11_init_219 : decode cX11_init 219 = .ok (.getfield 28, 3) := by decide +kernel
theorem dX11_init_222 : decode cX11_init 222 = .ok (.iconst 1, 1) := by decide +kernel
theorem dX11_init_223 : decode cX11_init 223 = .ok (.iconst 3, 1) := by decide +kernel
theorem dX11_init_224 : decode cX11_init 224 = .ok (.iastore, 1) := by decide +kernel
theorem dX11_init_225 : decode cX11_init 225 = .ok (.aload_n 0, 1) := by decide +kernel
theorem dX11_init_226 : decode cX11_init 226 = .ok (.getfield 25, 3) := by decide +kernel
theorem dX11_init_229 : decode cX11_init 229 = .ok (.iconst 2, 1) := by decide +kernel
theorem dX11_init_230 : decode cX11_init 230 = .ok (.iconst 3, 1) := by decide +kernel
theorem dX11_init_231 : decode cX11_init 231 = .ok (.iastore, 1) := by decide +kernel
theorem dX11_init_232 : decode cX11_init 232 = .ok (.aload_n 0, 1) := by decide +kernel
theorem dX11_init_233 : decode cX11_init 233 = .ok (.getfield 28, 3) := by decide +kernel
theorem dX11_init_236 : decode cX11_init 236 = .ok (.iconst 2, 1) := by decide +kernel
theorem dX11_init_237 : decode cX11_init 237 = .ok (.iconst 2, 1) := by decide +kernel
theorem dX11_init_238 : decode cX11_init 238 = .ok (.iastore, 1) := by decide +kernel
theorem dX11_init_239 : decode cX11_init 239 = .ok (.aload_n 0, 1) := by decide +kernel
theorem dX11_init_240 : decode cX11_init 240 = .ok (.getfield 31, 3) := by decide +kernel
theorem dX11_init_243 : decode cX11_init 243 = .ok (.iconst 0, 1) := by decide +kernel
theorem dX11_init_244 : decode cX11_init 244 = .ok (.bipush 14, 2) := by decide +kernel
theorem dX11_init_246 : decode cX11_init 246 = .ok (.iastore, 1) := by decide +kernel
theorem dX11_init_247 : decode cX11_init 247 = .ok (.aload_n 0, 1) := by decide +kernel
theorem dX11_init_248 : decode cX11_init 248 = .ok (.getfield 31, 3) := by decide +kernel
theorem dX11_init_251 : decode cX11_init 251 = .ok (.iconst 1, 1) := by decide +kernel
theorem dX11_init_252 : decode cX11_init 252 = .ok (.iconst 2, 1) := by decide +kernel
theorem dX11_init_253 : decode cX11_init 253 = .ok (.iastore, 1) := by decide +kernel
theorem dX11_init_254 : decode cX11_init 254 = .ok (.aload_n 0, 1) := by decide +kernel
theorem dX11_init_255 : decode cX11_init 255 = .ok (.getfield 31, 3) := by decide +kernel
theorem dX11_init_258 : decode cX11_init 258 = .ok (.iconst 2, 1) := by decide +kernel
theorem dX11_init_259 : decode cX11_init 259 = .ok (.iconst 1, 1) := by decide +kernel
theorem dX11_init_260 : decode cX11_init 260 = .ok (.iastore, 1) := by decide +kernel
theorem dX11_init_261 : decode cX11_init 261 = .ok (.aload_n 0, 1) := by decide +kernel
theorem dX11_init_262 : decode cX11_init 262 = .ok (.getfield 31, 3) := by decide +kernel
theorem dX11_init_265 : decode cX11_init 265 = .ok (.iconst 3, 1) := by decide +kernel
theorem dX11_init_266 : decode cX11_init 266 = .ok (.bipush 13, 2) := by decide +kernel
theorem dX11_init_268 : decode cX11_init 268 = .ok (.iastore, 1) := by decide +kernel
theorem dX11_init_269 : decode cX11_init 269 = .ok (.aload_n 0, 1) := by decide +kernel
theorem dX11_init_270 : decode cX11_init 270 = .ok (.getfield 31, 3) := by decide +kernel
theorem dX11_init_273 : decode cX11_init 273 = .ok (.iconst 4, 1) := by decide +kernel
theorem dX11_init_274 : decode cX11_init 274 = .ok (.bipush 20, 2) := by decide +kernel
theorem dX11_init_276 : decode cX11_init 276 = .ok (.iastore, 1) := by decide +kernel
theorem dX11_init_277 : decode cX11_init 277 = .ok (.aload_n 0, 1) := by decide +kernel
theorem dX11_init_278 : decode cX11_init 278 = .ok (.getfield 31, 3) := by decide +kernel
theorem dX11_init_281 : decode cX11_init 281 = .ok (.iconst 5, 1) := by decide +kernel
theorem dX11_init_282 : decode cX11_init 282 = .ok (.bipush 30, 2) := by decide +kernel
theorem dX11_init_284 : decode cX11_init 284 = .ok (.iastore, 1) := by decide +kernel
theorem dX11_init_285 : decode cX11_init 285 = .ok (.aload_n 0, 1) := by decide +kernel
theorem dX11_init_286 : decode cX11_init 286 = .ok (.getfield 31, 3) := by decide +kernel
theorem dX11_init_289 : decode cX11_init 289 = .ok (.bipush 6, 2) := by decide +kernel
theorem dX11_init_291 : decode cX11_init 291 = .ok (.bipush 12, 2) := by decide +kernel
theorem dX11_init_293 : decode cX11_init 293 = .ok (.iastore, 1) := by decide +kernel
theorem dX11_init_294 : decode cX11_init 294 = .ok (.aload_n 0, 1) := by decide +kernel
theorem dX11_init_295 : decode cX11_init 295 = .ok (.getfield 31, 3) := by decide +kernel
theorem dX11_init_298 : decode cX11_init 298 = .ok (.bipush 7, 2) := by decide +kernel
theorem dX11_init_300 : decode cX11_init 300 = .ok (.iconst 1, 1) := by decide +kernel
theorem dX11_init_301 : decode cX11_init 301 = .ok (.iastore, 1) := by decide +kernel
theorem dX11_init_302 : decode cX11_init 302 = .ok (.aload_n 0, 1) := by decide +kernel
theorem dX11_init_303 : decode cX11_init 303 = .ok (.getfield 31, 3) := by decide +kernel
theorem dX11_init_306 : decode cX11_init 306 = .ok (.bipush 8, 2) := by decide +kernel
theorem dX11_init_308 : decode cX11_init 308 = .ok (.iconst 1, 1) := by decide +kernel
theorem dX11_init_309 : decode cX11_init 309 = .ok (.iastore, 1) := by decide +kernel
theorem dX11_init_310 : decode cX11_init 310 = .ok (.return_, 1) := by decide +kernel
theorem dX11_in_0 : decode cX11_in 0 = .ok (.iload_n 0, 1) := by decide +kernel
theorem dX11_in_1 : decode cX11_in 1 = .ok (.iload_n 1, 1) := by decide +kernel
theorem dX11_in_2 : decode cX11_in 2 = .ok (.if_icmp .lt 12, 3) := by decide +kernel
theorem dX11_in_5 : decode cX11_in 5 = .ok (.iload_n 0, 1) := by decide +kernel
theorem dX11_in_6 : decode cX11_in 6 = .ok (.iload_n 2, 1) := by decide +kernel
theorem dX11_in_7 : decode cX11_in 7 = .ok (.if_icmp .gt 7, 3) := by decide +kernel
theorem dX11_in_10 : decode cX11_in 10 = .ok (.iconst 1, 1) := by decide +kernel
theorem dX11_in_11 : decode cX11_in 11 = .ok (.goto 4, 3) := by decide +kernel
theorem dX11_in_14 : decode cX11_in 14 = .ok (.iconst 0, 1) := by decide +kernel
theorem dX11_in_15 : decode cX11_in 15 = .ok (.ireturn, 1) := by decide +kernel
theorem dX11_isIn_0 : decode cX11_isIn 0 = .ok (.iload_n 0, 1) := by decide +kernel
theorem dX11_isIn_1 : decode cX11_isIn 1 = .ok (.iload_n 1, 1) := by decide +kernel
theorem dX11_isIn_2 : decode cX11_isIn 2 = .ok (.ishr, 1) := by decide +kernel
theorem dX11_isIn_3 : decode cX11_isIn 3 = .ok (.iconst 1, 1) := by decide +kernel
theorem dX11_isIn_4 : decode cX11_isIn 4 = .ok (.iand, 1) := by decide +kernel
theorem dX11_isIn_5 : decode cX11_isIn 5 = .ok (.iconst 1, 1) := by decide +kernel
theorem dX11_isIn_6 : decode cX11_isIn 6 = .ok (.if_icmp .ne 7, 3) := by decide +kernel
theorem dX11_isIn_9 : decode cX11_isIn 9 = .ok (.iconst 1, 1) := by decide +kernel
theorem dX11_isIn_10 : decode cX11_isIn 10 = .ok (.goto 4, 3) := by decide +kernel
theorem dX11_isIn_13 : decode cX11_isIn 13 = .ok (.iconst 0, 1) := by decide +kernel
theorem dX11_isIn_14 : decode cX11_isIn 14 = .ok (.ireturn, 1) := by decide +kernel
theorem dX11_ones_0 : decode cX11_ones 0 = .ok (.iconst 0, 1) := by decide +kernel
theorem dX11_ones_1 : decode cX11_ones 1 = .ok (.istore_n 1, 1) := by decide +kernel
theorem dX11_ones_2 : decode cX11_ones 2 = .ok (.iconst 0, 1) := by decide +kernel
theorem dX11_ones_3 : decode cX11_ones 3 = .ok (.istore_n 2, 1) := by decide +kernel
theorem dX11_ones_4 : decode cX11_ones 4 = .ok (.iload_n 2, 1) := by decide +kernel
theorem dX11_ones_5 : decode cX11_ones 5 = .ok (.bipush 10, 2) := by decide +kernel
theorem dX11_ones_7 : decode cX11_ones 7 = .ok (.if_icmp .ge 17, 3) := by decide +kernel
theorem dX11_ones_10 : decode cX11_ones 10 = .ok (.iload_n 1, 1) := by decide +kernel
theorem dX11_ones_11 : decode cX11_ones 11 = .ok (.iload_n 0, 1) := by decide +kernel
theorem dX11_ones_12 : decode cX11_ones 12 = .ok (.iload_n 2, 1) := by decide +kernel
theorem dX11_ones_13 : decode cX11_ones 13 = .ok (.ishr, 1) := by decide +kernel
theorem dX11_ones_14 : decode cX11_ones 14 = .ok (.iconst 1, 1) := by decide +kernel
theorem dX11_ones_15 : decode cX11_ones 15 = .ok (.iand, 1) := by decide +kernel
theorem dX11_ones_16 : decode cX11_ones 16 = .ok (.iadd, 1) := by decide +kernel
theorem dX11_ones_17 : decode cX11_ones 17 = .ok (.istore_n 1, 1) := by decide +kernel
theorem dX11_ones_18 : decode cX11_ones 18 = .ok (.iinc 2 1, 3) := by decide +kernel
theorem dX11_ones_21 : decode cX11_ones 21 = .ok (.goto (-17), 3) := by decide +kernel
theorem dX11_ones_24 : decode cX11_ones 24 = .ok (.iload_n 1, 1) := by decide +kernel
theorem dX11_ones_25 : decode cX11_ones 25 = .ok (.ireturn, 1) := by decide +kernel
theorem dX11_no_0 : decode cX11_no 0 = .ok (.ldc2_w 87, 3) := by decide +kernel
theorem dX11_no_3 : decode cX11_no 3 = .ok (.iload_n 0, 1) := by decide +kernel
theorem dX11_no_4 : decode cX11_no 4 = .ok (.i2l, 1) := by decide +kernel
theorem dX11_no_5 : decode cX11_no 5 = .ok (.lsub, 1) := by decide +kernel
theorem dX11_no_6 : decode cX11_no 6 = .ok (.lreturn, 1) := by decide +kernel
theorem dX11_lowest_0 : decode cX11_lowest 0 = .ok (.lload_n 0, 1) := by decide +kernel
theorem dX11_lowest_1 : decode cX11_lowest 1 = .ok (.lstore 5, 2) := by decide +kernel
theorem dX11_lowest_3 : decode cX11_lowest 3 = .ok (.lload_n 2, 1) := by decide +kernel
theorem dX11_lowest_4 : decode cX11_lowest 4 = .ok (.lstore 7, 2) := by decide +kernel
theorem dX11_lowest_6 : decode cX11_lowest 6 = .ok (.lload 7, 2) := by decide +kernel
theorem dX11_lowest_8 : decode cX11_lowest 8 = .ok (.lconst 0, 1) := by decide +kernel
theorem dX11_lowest_9 : decode cX11_lowest 9 = .ok (.lcmp, 1) := by decide +kernel
theorem dX11_lowest_10 : decode cX11_lowest 10 = .ok (.ifCond .eq 21, 3) := by decide +kernel
theorem dX11_lowest_13 : decode cX11_lowest 13 = .ok (.lload 5, 2) := by decide +kernel
theorem dX11_lowest_15 : decode cX11_lowest 15 = .ok (.lload 7, 2) := by decide +kernel
theorem dX11_lowest_17 : decode cX11_lowest 17 = .ok (.lrem, 1) := by decide +kernel
theorem dX11_lowest_18 : decode cX11_lowest 18 = .ok (.lstore 9, 2) := by decide +kernel
theorem dX11_lowest_20 : decode cX11_lowest 20 = .ok (.lload 7, 2) := by decide +kernel
theorem dX11_lowest_22 : decode cX11_lowest 22 = .ok (.lstore 5, 2) := by decide +kernel
theorem dX11_lowest_24 : decode cX11_lowest 24 = .ok (.lload 9, 2) := by decide +kernel
theorem dX11_lowest_26 : decode cX11_lowest 26 = .ok (.lstore 7, 2) := by decide +kernel
theorem dX11_lowest_28 : decode cX11_lowest 28 = .ok (.goto (-22), 3) := by decide +kernel
theorem dX11_lowest_31 : decode cX11_lowest 31 = .ok (.iload 4, 2) := by decide +kernel
theorem dX11_lowest_33 : decode cX11_lowest 33 = .ok (.ifCond .ne 10, 3) := by decide +kernel
theorem dX11_lowest_36 : decode cX11_lowest 36 = .ok (.lload_n 0, 1) := by decide +kernel
theorem dX11_lowest_37 : decode cX11_lowest 37 = .ok (.lload 5, 2) := by decide +kernel
theorem dX11_lowest_39 : decode cX11_lowest 39 = .ok (.ldiv, 1) := by decide +kernel
theorem dX11_lowest_40 : decode cX11_lowest 40 = .ok (.goto 7, 3) := by decide +kernel
theorem dX11_lowest_43 : decode cX11_lowest 43 = .ok (.lload_n 2, 1) := by decide +kernel
theorem dX11_lowest_44 : decode cX11_lowest 44 = .ok (.lload 5, 2) := by decide +kernel
theorem dX11_lowest_46 : decode cX11_lowest 46 = .ok (.ldiv, 1) := by decide +kernel
theorem dX11_lowest_47 : decode cX11_lowest 47 = .ok (.lreturn, 1) := by decide +kernel
theorem dX11_type_0 : decode cX11_type 0 = .ok (.iload_n 1, 1) := by decide +kernel
theorem dX11_type_1 : decode cX11_type 1 = .ok (.iconst 0, 1) := by decide +kernel
theorem dX11_type_2 : decode cX11_type 2 = .ok (.sipush 255, 3) := by decide +kernel
theorem dX11_type_5 : decode cX11_type 5 = .ok (.invokestatic 89, 3) := by decide +kernel
theorem dX11_type_8 : decode cX11_type 8 = .ok (.ifCond .ne 6, 3) := by decide +kernel
theorem dX11_type_11 : decode cX11_type 11 = .ok (.bipush (-2), 2) := by decide +kernel
theorem dX11_type_13 : decode cX11_type 13 = .ok (.ireturn, 1) := by decide +kernel
theorem dX11_type_14 : decode cX11_type 14 = .ok (.aload_n 0, 1) := by decide +kernel
theorem dX11_type_15 : decode cX11_type 15 = .ok (.getfield 93, 3) := by decide +kernel
theorem dX11_type_18 : decode cX11_type 18 = .ok (.bipush 60, 2) := by decide +kernel
theorem dX11_type_20 : decode cX11_type 20 = .ok (.if_icmp .ne 6, 3) := by decide +kernel
theorem dX11_type_23 : decode cX11_type 23 = .ok (.bipush (-4), 2) := by decide +kernel
theorem dX11_type_25 : decode cX11_type 25 = .ok (.ireturn, 1) := by decide +kernel
theorem dX11_type_26 : decode cX11_type 26 = .ok (.aload_n 0, 1) := by decide +kernel
theorem dX11_type_27 : decode cX11_type 27 = .ok (.getfield 7, 3) := by decide +kernel
theorem dX11_type_30 : decode cX11_type 30 = .ok (.aload_n 0, 1) := by decide +kernel
theorem dX11_type_31 : decode cX11_type 31 = .ok (.getfield 93, 3) := by decide +kernel
theorem dX11_type_34 : decode cX11_type 34 = .ok (.iload_n 1, 1) := by decide +kernel
theorem dX11_type_35 : decode cX11_type 35 = .ok (.iastore, 1) := by decide +kernel
theorem dX11_type_36 : decode cX11_type 36 = .ok (.aload_n 0, 1) := by decide +kernel
theorem dX11_type_37 : decode cX11_type 37 = .ok (.dup, 1) := by decide +kernel
theorem dX11_type_38 : decode cX11_type 38 = .ok (.getfield 93, 3) := by decide +kernel
theorem dX11_type_41 : decode cX11_type 41 = .ok (.iconst 1, 1) := by decide +kernel
theorem dX11_type_42 : decode cX11_type 42 = .ok (.iadd, 1) := by decide +kernel
theorem dX11_type_43 : decode cX11_type 43 = .ok (.putfield 93, 3) := by decide +kernel
theorem dX11_type_46 : decode cX11_type 46 = .ok (.aload_n 0, 1) := by decide +kernel
theorem dX11_type_47 : decode cX11_type 47 = .ok (.getfield 93, 3) := by decide +kernel
theorem dX11_type_50 : decode cX11_type 50 = .ok (.ireturn, 1) := by decide +kernel
theorem dX11_wipe_0 : decode cX11_wipe 0 = .ok (.aload_n 0, 1) := by decide +kernel
theorem dX11_wipe_1 : decode cX11_wipe 1 = .ok (.getfield 93, 3) := by decide +kernel
theorem dX11_wipe_4 : decode cX11_wipe 4 = .ok (.istore_n 1, 1) := by decide +kernel
theorem dX11_wipe_5 : decode cX11_wipe 5 = .ok (.aload_n 0, 1) := by decide +kernel
theorem dX11_wipe_6 : decode cX11_wipe 6 = .ok (.iconst 0, 1) := by decide +kernel
theorem dX11_wipe_7 : decode cX11_wipe 7 = .ok (.putfield 93, 3) := by decide +kernel
theorem dX11_wipe_10 : decode cX11_wipe 10 = .ok (.iload_n 1, 1) := by decide +kernel
theorem dX11_wipe_11 : decode cX11_wipe 11 = .ok (.ireturn, 1) := by decide +kernel
theorem dX11_undo_0 : decode cX11_undo 0 = .ok (.aload_n 0, 1) := by decide +kernel
theorem dX11_undo_1 : decode cX11_undo 1 = .ok (.getfield 93, 3) := by decide +kernel
theorem dX11_undo_4 : decode cX11_undo 4 = .ok (.ifCond .ne 6, 3) := by decide +kernel
theorem dX11_undo_7 : decode cX11_undo 7 = .ok (.bipush (-3), 2) := by decide +kernel
theorem dX11_undo_9 : decode cX11_undo 9 = .ok (.ireturn, 1) := by decide +kernel
theorem dX11_undo_10 : decode cX11_undo 10 = .ok (.aload_n 0, 1) := by decide +kernel
theorem dX11_undo_11 : decode cX11_undo 11 = .ok (.dup, 1) := by decide +kernel
theorem dX11_undo_12 : decode cX11_undo 12 = .ok (.getfield 93, 3) := by decide +kernel
theorem dX11_undo_15 : decode cX11_undo 15 = .ok (.iconst 1, 1) := by decide +kernel
theorem dX11_undo_16 : decode cX11_undo 16 = .ok (.isub, 1) := by decide +kernel
theorem dX11_undo_17 : decode cX11_undo 17 = .ok (.putfield 93, 3) := by decide +kernel
theorem dX11_undo_20 : decode cX11_undo 20 = .ok (.aload_n 0, 1) := by decide +kernel
theorem dX11_undo_21 : decode cX11_undo 21 = .ok (.getfield 93, 3) := by decide +kernel
theorem dX11_undo_24 : decode cX11_undo 24 = .ok (.ireturn, 1) := by decide +kernel
theorem dX11_adds_0 : decode cX11_adds 0 = .ok (.aload_n 0, 1) := by decide +kernel
theorem dX11_adds_1 : decode cX11_adds 1 = .ok (.getfield 13, 3) := by decide +kernel
theorem dX11_adds_4 : decode cX11_adds 4 = .ok (.aload_n 0, 1) := by decide +kernel
theorem dX11_adds_5 : decode cX11_adds 5 = .ok (.getfield 97, 3) := by decide +kernel
theorem dX11_adds_8 : decode cX11_adds 8 = .ok (.iload_n 1, 1) := by decide +kernel
theorem dX11_adds_9 : decode cX11_adds 9 = .ok (.iastore, 1) := by decide +kernel
theorem dX11_adds_10 : decode cX11_adds 10 = .ok (.aload_n 0, 1) := by decide +kernel
theorem dX11_adds_11 : decode cX11_adds 11 = .ok (.getfield 16, 3) := by decide +kernel
theorem dX11_adds_14 : decode cX11_adds 14 = .ok (.aload_n 0, 1) := by decide +kernel
theorem dX11_adds_15 : decode cX11_adds 15 = .ok (.getfield 97, 3) := by decide +kernel
theorem dX11_adds_18 : decode cX11_adds 18 = .ok (.iload_n 2, 1) := by decide +kernel
theorem dX11_adds_19 : decode cX11_adds 19 = .ok (.iastore, 1) := by decide +kernel
theorem dX11_adds_20 : decode cX11_adds 20 = .ok (.aload_n 0, 1) := by decide +kernel
theorem dX11_adds_21 : decode cX11_adds 21 = .ok (.getfield 19, 3) := by decide +kernel
theorem dX11_adds_24 : decode cX11_adds 24 = .ok (.aload_n 0, 1) := by decide +kernel
theorem dX11_adds_25 : decode cX11_adds 25 = .ok (.getfield 97, 3) := by decide +kernel
theorem dX11_adds_28 : decode cX11_adds 28 = .ok (.iload_n 1, 1) := by decide +kernel
theorem dX11_adds_29 : decode cX11_adds 29 = .ok (.iconst 4, 1) := by decide +kernel
theorem dX11_adds_30 : decode cX11_adds 30 = .ok (.if_icmp .ne 10, 3) := by decide +kernel
theorem dX11_adds_33 : decode cX11_adds 33 = .ok (.aload_n 0, 1) := by decide +kernel
theorem dX11_adds_34 : decode cX11_adds 34 = .ok (.getfield 100, 3) := by decide +kernel
theorem dX11_adds_37 : decode cX11_adds 37 = .ok (.goto 4, 3) := by decide +kernel
theorem dX11_adds_40 : decode cX11_adds 40 = .ok (.iconst (-1), 1) := by decide +kernel
theorem dX11_adds_41 : decode cX11_adds 41 = .ok (.iastore, 1) := by decide +kernel
theorem dX11_adds_42 : decode cX11_adds 42 = .ok (.iload_n 1, 1) := by decide +kernel
theorem dX11_adds_43 : decode cX11_adds 43 = .ok (.iconst 4, 1) := by decide +kernel
theorem dX11_adds_44 : decode cX11_adds 44 = .ok (.if_icmp .ne 26, 3) := by decide +kernel
theorem dX11_adds_47 : decode cX11_adds 47 = .ok (.aload_n 0, 1) := by decide +kernel
theorem dX11_adds_48 : decode cX11_adds 48 = .ok (.getfield 22, 3) := by decide +kernel
theorem dX11_adds_51 : decode cX11_adds 51 = .ok (.aload_n 0, 1) := by decide +kernel
theorem dX11_adds_52 : decode cX11_adds 52 = .ok (.getfield 100, 3) := by decide +kernel
theorem dX11_adds_55 : decode cX11_adds 55 = .ok (.aload_n 0, 1) := by decide +kernel
theorem dX11_adds_56 : decode cX11_adds 56 = .ok (.getfield 97, 3) := by decide +kernel
theorem dX11_adds_59 : decode cX11_adds 59 = .ok (.iastore, 1) := by decide +kernel
theorem dX11_adds_60 : decode cX11_adds 60 = .ok (.aload_n 0, 1) := by decide +kernel
theorem dX11_adds_61 : decode cX11_adds 61 = .ok (.dup, 1) := by decide +kernel
theorem dX11_adds_62 : decode cX11_adds 62 = .ok (.getfield 100, 3) := by decide +kernel
theorem dX11_adds_65 : decode cX11_adds 65 = .ok (.iconst 1, 1) := by decide +kernel
theorem dX11_adds_66 : decode cX11_adds 66 = .ok (.iadd, 1) := by decide +kernel
theorem dX11_adds_67 : decode cX11_adds 67 = .ok (.putfield 100, 3) := by decide +kernel
theorem dX11_adds_70 : decode cX11_adds 70 = .ok (.aload_n 0, 1) := by decide +kernel
theorem dX11_adds_71 : decode cX11_adds 71 = .ok (.dup, 1) := by decide +kernel
theorem dX11_adds_72 : decode cX11_adds 72 = .ok (.getfield 103, 3) := by decide +kernel
theorem dX11_adds_75 : decode cX11_adds 75 = .ok (.iload_n 1, 1) := by decide +kernel
theorem dX11_adds_76 : decode cX11_adds 76 = .ok (.iconst 3, 1) := by decide +kernel
theorem dX11_adds_77 : decode cX11_adds 77 = .ok (.if_icmp .ge 7, 3) := by decide +kernel
theorem dX11_adds_80 : decode cX11_adds 80 = .ok (.iconst 1, 1) := by decide +kernel
theorem dX11_adds_81 : decode cX11_adds 81 = .ok (.goto 4, 3) := by decide +kernel
theorem dX11_adds_84 : decode cX11_adds 84 = .ok (.iconst 0, 1) := by decide +kernel
theorem dX11_adds_85 : decode cX11_adds 85 = .ok (.iadd, 1) := by decide +kernel
theorem dX11_adds_86 : decode cX11_adds 86 = .ok (.putfield 103, 3) := by decide +kernel
theorem dX11_adds_89 : decode cX11_adds 89 = .ok (.aload_n 0, 1) := by decide +kernel
theorem dX11_adds_90 : decode cX11_adds 90 = .ok (.dup, 1) := by decide +kernel
theorem dX11_adds_91 : decode cX11_adds 91 = .ok (.getfield 97, 3) := by decide +kernel
theorem dX11_adds_94 : decode cX11_adds 94 = .ok (.iconst 1, 1) := by decide +kernel
theorem dX11_adds_95 : decode cX11_adds 95 = .ok (.iadd, 1) := by decide +kernel
theorem dX11_adds_96 : decode cX11_adds 96 = .ok (.putfield 97, 3) := by decide +kernel
theorem dX11_adds_99 : decode cX11_adds 99 = .ok (.return_, 1) := by decide +kernel
theorem dX11_figureAt_0 : decode cX11_figureAt 0 = .ok (.iload_n 1, 1) := by decide +kernel
theorem dX11_figureAt_1 : decode cX11_figureAt 1 = .ok (.aload_n 0, 1) := by decide +kernel
theorem dX11_figureAt_2 : decode cX11_figureAt 2 = .ok (.getfield 93, 3) := by decide +kernel
theorem dX11_figureAt_5 : decode cX11_figureAt 5 = .ok (.if_icmp .ge 15, 3) := by decide +kernel
theorem dX11_figureAt_8 : decode cX11_figureAt 8 = .ok (.aload_n 0, 1) := by decide +kernel
theorem dX11_figureAt_9 : decode cX11_figureAt 9 = .ok (.getfield 7, 3) := by decide +kernel
theorem dX11_figureAt_12 : decode cX11_figureAt 12 = .ok (.iload_n 1, 1) := by decide +kernel
theorem dX11_figureAt_13 : decode cX11_figureAt 13 = .ok (.iaload, 1) := by decide +kernel
theorem dX11_figureAt_14 : decode cX11_figureAt 14 = .ok (.bipush 48, 2) := by decide +kernel
theorem dX11_figureAt_16 : decode cX11_figureAt 16 = .ok (.isub, 1) := by decide +kernel
theorem dX11_figureAt_17 : decode cX11_figureAt 17 = .ok (.goto 4, 3) := by decide +kernel
theorem dX11_figureAt_20 : decode cX11_figureAt 20 = .ok (.iconst (-1), 1) := by decide +kernel
theorem dX11_figureAt_21 : decode cX11_figureAt 21 = .ok (.istore_n 2, 1) := by decide +kernel
theorem dX11_figureAt_22 : decode cX11_figureAt 22 = .ok (.iload_n 2, 1) := by decide +kernel
theorem dX11_figureAt_23 : decode cX11_figureAt 23 = .ok (.iconst 0, 1) := by decide +kernel
theorem dX11_figureAt_24 : decode cX11_figureAt 24 = .ok (.bipush 9, 2) := by decide +kernel
theorem dX11_figureAt_26 : decode cX11_figureAt 26 = .ok (.invokestatic 89, 3) := by decide +kernel
theorem dX11_figureAt_29 : decode cX11_figureAt 29 = .ok (.ifCond .eq 7, 3) := by decide +kernel
theorem dX11_figureAt_32 : decode cX11_figureAt 32 = .ok (.iload_n 2, 1) := by decide +kernel
theorem dX11_figureAt_33 : decode cX11_figureAt 33 = .ok (.goto 4, 3) := by decide +kernel
theorem dX11_figureAt_36 : decode cX11_figureAt 36 = .ok (.iconst (-1), 1) := by decide +kernel
theorem dX11_figureAt_37 : decode cX11_figureAt 37 = .ok (.ireturn, 1) := by decide +kernel
theorem dX11_readsPiece_0 : decode cX11_readsPiece 0 = .ok (.aload_n 0, 1) := by decide +kernel
theorem dX11_readsPiece_1 : decode cX11_readsPiece 1 = .ok (.iconst 0, 1) := by decide +kernel
theorem dX11_readsPiece_2 : decode cX11_readsPiece 2 = .ok (.putfield 97, 3) := by decide +kernel
theorem dX11_readsPiece_5 : decode cX11_readsPiece 5 = .ok (.aload_n 0, 1) := by decide +kernel
theorem dX11_readsPiece_6 : decode cX11_readsPiece 6 = .ok (.iconst 0, 1) := by decide +kernel
theorem dX11_readsPiece_7 : decode cX11_readsPiece 7 = .ok (.putfield 103, 3) := by decide +kernel
theorem dX11_readsPiece_10 : decode cX11_readsPiece 10 = .ok (.aload_n 0, 1) := by decide +kernel
theorem dX11_readsPiece_11 : decode cX11_readsPiece 11 = .ok (.iconst 0, 1) := by decide +kernel
theorem dX11_readsPiece_12 : decode cX11_readsPiece 12 = .ok (.putfield 100, 3) := by decide +kernel
theorem dX11_readsPiece_15 : decode cX11_readsPiece 15 = .ok (.iconst 0, 1) := by decide +kernel
theorem dX11_readsPiece_16 : decode cX11_readsPiece 16 = .ok (.istore_n 1, 1) := by decide +kernel
theorem dX11_readsPiece_17 : decode cX11_readsPiece 17 = .ok (.aload_n 0, 1) := by decide +kernel
theorem dX11_readsPiece_18 : decode cX11_readsPiece 18 = .ok (.getfield 93, 3) := by decide +kernel
theorem dX11_readsPiece_21 : decode cX11_readsPiece 21 = .ok (.ifCond .ne 7, 3) := by decide +kernel
theorem dX11_readsPiece_24 : decode cX11_readsPiece 24 = .ok (.iconst 1, 1) := by decide +kernel
theorem dX11_readsPiece_25 : decode cX11_readsPiece 25 = .ok (.goto 4, 3) := by decide +kernel
theorem dX11_readsPiece_28 : decode cX11_readsPiece 28 = .ok (.iconst 0, 1) := by decide +kernel
theorem dX11_readsPiece_29 : decode cX11_readsPiece 29 = .ok (.istore_n 2, 1) := by decide +kernel
theorem dX11_readsPiece_30 : decode cX11_readsPiece 30 = .ok (.iload_n 1, 1) := by decide +kernel
theorem dX11_readsPiece_31 : decode cX11_readsPiece 31 = .ok (.aload_n 0, 1) := by decide +kernel
theorem dX11_readsPiece_32 : decode cX11_readsPiece 32 = .ok (.getfield 93, 3) := by decide +kernel
theorem dX11_readsPiece_35 : decode cX11_readsPiece 35 = .ok (.if_icmp .ge 337, 3) := by decide +kernel
theorem dX11_readsPiece_38 : decode cX11_readsPiece 38 = .ok (.aload_n 0, 1) := by decide +kernel
theorem dX11_readsPiece_39 : decode cX11_readsPiece 39 = .ok (.getfield 7, 3) := by decide +kernel
theorem dX11_readsPiece_42 : decode cX11_readsPiece 42 = .ok (.iload_n 1, 1) := by decide +kernel
theorem dX11_readsPiece_43 : decode cX11_readsPiece 43 = .ok (.iaload, 1) := by decide +kernel
theorem dX11_readsPiece_44 : decode cX11_readsPiece 44 = .ok (.istore_n 3, 1) := by decide +kernel
theorem dX11_readsPiece_45 : decode cX11_readsPiece 45 = .ok (.iload_n 3, 1) := by decide +kernel
theorem dX11_readsPiece_46 : decode cX11_readsPiece 46 = .ok (.bipush 100, 2) := by decide +kernel
theorem dX11_readsPiece_48 : decode cX11_readsPiece 48 = .ok (.if_icmp .ne 7, 3) := by decide +kernel
theorem dX11_readsPiece_51 : decode cX11_readsPiece 51 = .ok (.iconst 0, 1) := by decide +kernel
theorem dX11_readsPiece_52 : decode cX11_readsPiece 52 = .ok (.goto 54, 3) := by decide +kernel
theorem dX11_readsPiece_55 : decode cX11_readsPiece 55 = .ok (.iload_n 3, 1) := by decide +kernel
theorem dX11_readsPiece_56 : decode cX11_readsPiece 56 = .ok (.bipush 119, 2) := by decide +kernel
theorem dX11_readsPiece_58 : decode cX11_readsPiece 58 = .ok (.if_icmp .ne 7, 3) := by decide +kernel
theorem dX11_readsPiece_61 : decode cX11_readsPiece 61 = .ok (.iconst 1, 1) := by decide +kernel
theorem dX11_readsPiece_62 : decode cX11_readsPiece 62 = .ok (.goto 44, 3) := by decide +kernel
theorem dX11_readsPiece_65 : decode cX11_readsPiece 65 = .ok (.iload_n 3, 1) := by decide +kernel
theorem dX11_readsPiece_66 : decode cX11_readsPiece 66 = .ok (.bipush 109, 2) := by decide +kernel
theorem dX11_readsPiece_68 : decode cX11_readsPiece 68 = .ok (.if_icmp .ne 7, 3) := by decide +kernel
theorem dX11_readsPiece_71 : decode cX11_readsPiece 71 = .ok (.iconst 2, 1) := by decide +kernel
theorem dX11_readsPiece_72 : decode cX11_readsPiece 72 = .ok (.goto 34, 3) := by decide +kernel
theorem dX11_readsPiece_75 : decode cX11_readsPiece 75 = .ok (.iload_n 3, 1) := by decide +kernel
theorem dX11_readsPiece_76 : decode cX11_readsPiece 76 = .ok (.bipush 112, 2) := by decide +kernel
theorem dX11_readsPiece_78 : decode cX11_readsPiece 78 = .ok (.if_icmp .ne 7, 3) := by decide +kernel
theorem dX11_readsPiece_81 : decode cX11_readsPiece 81 = .ok (.iconst 3, 1) := by decide +kernel
theorem dX11_readsPiece_82 : decode cX11_readsPiece 82 = .ok (.goto 24, 3) := by decide +kernel
theorem dX11_readsPiece_85 : decode cX11_readsPiece 85 = .ok (.iload_n 3, 1) := by decide +kernel
theorem dX11_readsPiece_86 : decode cX11_readsPiece 86 = .ok (.bipush 99, 2) := by decide +kernel
theorem dX11_readsPiece_88 : decode cX11_readsPiece 88 = .ok (.if_icmp .ne 7, 3) := by decide +kernel
theorem dX11_readsPiece_91 : decode cX11_readsPiece 91 = .ok (.iconst 4, 1) := by decide +kernel
theorem dX11_readsPiece_92 : decode cX11_readsPiece 92 = .ok (.goto 14, 3) := by decide +kernel
theorem dX11_readsPiece_95 : decode cX11_readsPiece 95 = .ok (.iload_n 3, 1) := by decide +kernel
theorem dX11_readsPiece_96 : decode cX11_readsPiece 96 = .ok (.bipush 120, 2) := by decide +kernel
theorem dX11_readsPiece_98 : decode cX11_readsPiece 98 = .ok (.if_icmp .ne 7, 3) := by decide +kernel
theorem dX11_readsPiece_101 : decode cX11_readsPiece 101 = .ok (.iconst 5, 1) := by decide +kernel
theorem dX11_readsPiece_102 : decode cX11_readsPiece 102 = .ok (.goto 4, 3) := by decide +kernel
theorem dX11_readsPiece_105 : decode cX11_readsPiece 105 = .ok (.iconst (-1), 1) := by decide +kernel
theorem dX11_readsPiece_106 : decode cX11_readsPiece 106 = .ok (.istore 4, 2) := by decide +kernel
theorem dX11_readsPiece_108 : decode cX11_readsPiece 108 = .ok (.iload_n 2, 1) := by decide +kernel
theorem dX11_readsPiece_109 : decode cX11_readsPiece 109 = .ok (.ifCond .ne 9, 3) := by decide +kernel
theorem dX11_readsPiece_112 : decode cX11_readsPiece 112 = .ok (.iload 4, 2) := by decide +kernel
theorem dX11_readsPiece_114 : decode cX11_readsPiece 114 = .ok (.iconst (-1), 1) := by decide +kernel
theorem dX11_readsPiece_115 : decode cX11_readsPiece 115 = .ok (.if_icmp .ne 5, 3) := by decide +kernel
theorem dX11_readsPiece_118 : decode cX11_readsPiece 118 = .ok (.iload_n 1, 1) := by decide +kernel
theorem dX11_readsPiece_119 : decode cX11_readsPiece 119 = .ok (.ireturn, 1) := by decide +kernel
theorem dX11_readsPiece_120 : decode cX11_readsPiece 120 = .ok (.iload 4, 2) := by decide +kernel
theorem dX11_readsPiece_122 : decode cX11_readsPiece 122 = .ok (.iconst 3, 1) := by decide +kernel
theorem dX11_readsPiece_123 : decode cX11_readsPiece 123 = .ok (.if_icmp .ne 108, 3) := by decide +kernel
theorem dX11_readsPiece_126 : decode cX11_readsPiece 126 = .ok (.aload_n 0, 1) := by decide +kernel
theorem dX11_readsPiece_127 : decode cX11_readsPiece 127 = .ok (.iload_n 1, 1) := by decide +kernel
theorem dX11_readsPiece_128 : decode cX11_readsPiece 128 = .ok (.iconst 1, 1) := by decide +kernel
theorem dX11_readsPiece_129 : decode cX11_readsPiece 129 = .ok (.iadd, 1) := by decide +kernel
theorem dX11_readsPiece_130 : decode cX11_readsPiece 130 = .ok (.invokevirtual 106, 3) := by decide +kernel
theorem dX11_readsPiece_133 : decode cX11_readsPiece 133 = .ok (.istore 5, 2) := by decide +kernel
theorem dX11_readsPiece_135 : decode cX11_readsPiece 135 = .ok (.aload_n 0, 1) := by decide +kernel
theorem dX11_readsPiece_136 : decode cX11_readsPiece 136 = .ok (.iload_n 1, 1) := by decide +kernel
theorem dX11_readsPiece_137 : decode cX11_readsPiece 137 = .ok (.iconst 2, 1) := by decide +kernel
theorem dX11_readsPiece_138 : decode cX11_readsPiece 138 = .ok (.iadd, 1) := by decide +kernel
theorem dX11_readsPiece_139 : decode cX11_readsPiece 139 = .ok (.invokevirtual 106, 3) := by decide +kernel
theorem dX11_readsPiece_142 : decode cX11_readsPiece 142 = .ok (.istore 6, 2) := by decide +kernel
theorem dX11_readsPiece_144 : decode cX11_readsPiece 144 = .ok (.bipush 10, 2) := by decide +kernel
theorem dX11_readsPiece_146 : decode cX11_readsPiece 146 = .ok (.iload 5, 2) := by decide +kernel
theorem dX11_readsPiece_148 : decode cX11_readsPiece 148 = .ok (.imul, 1) := by decide +kernel
theorem dX11_readsPiece_149 : decode cX11_readsPiece 149 = .ok (.iload 6, 2) := by decide +kernel
theorem dX11_readsPiece_151 : decode cX11_readsPiece 151 = .ok (.iadd, 1) := by decide +kernel
theorem dX11_readsPiece_152 : decode cX11_readsPiece 152 = .ok (.istore 7, 2) := by decide +kernel
theorem dX11_readsPiece_154 : decode cX11_readsPiece 154 = .ok (.iload 5, 2) := by decide +kernel
theorem dX11_readsPiece_156 : decode cX11_readsPiece 156 = .ok (.iconst (-1), 1) := by decide +kernel
theorem dX11_readsPiece_157 : decode cX11_readsPiece 157 = .ok (.if_icmp .eq 9, 3) := by decide +kernel
theorem dX11_readsPiece_160 : decode cX11_readsPiece 160 = .ok (.iload 6, 2) := by decide +kernel
theorem dX11_readsPiece_162 : decode cX11_readsPiece 162 = .ok (.iconst (-1), 1) := by decide +kernel
theorem dX11_readsPiece_163 : decode cX11_readsPiece 163 = .ok (.if_icmp .ne 19, 3) := by decide +kernel
theorem dX11_readsPiece_166 : decode cX11_readsPiece 166 = .ok (.iload 5, 2) := by decide +kernel
theorem dX11_readsPiece_168 : decode cX11_readsPiece 168 = .ok (.iconst (-1), 1) := by decide +kernel
theorem dX11_readsPiece_169 : decode cX11_readsPiece 169 = .ok (.if_icmp .ne 9, 3) := by decide +kernel
theorem dX11_readsPiece_172 : decode cX11_readsPiece 172 = .ok (.iload_n 1, 1) := by decide +kernel
theorem dX11_readsPiece_173 : decode cX11_readsPiece 173 = .ok (.iconst 1, 1) := by decide +kernel
theorem dX11_readsPiece_174 : decode cX11_readsPiece 174 = .ok (.iadd, 1) := by decide +kernel
theorem dX11_readsPiece_175 : decode cX11_readsPiece 175 = .ok (.goto 6, 3) := by decide +kernel
theorem dX11_readsPiece_178 : decode cX11_readsPiece 178 = .ok (.iload_n 1, 1) := by decide +kernel
theorem dX11_readsPiece_179 : decode cX11_readsPiece 179 = .ok (.iconst 2, 1) := by decide +kernel
theorem dX11_readsPiece_180 : decode cX11_readsPiece 180 = .ok (.iadd, 1) := by decide +kernel
theorem dX11_readsPiece_181 : decode cX11_readsPiece 181 = .ok (.ireturn, 1) := by decide +kernel
theorem dX11_readsPiece_182 : decode cX11_readsPiece 182 = .ok (.iload 7, 2) := by decide +kernel
theorem dX11_readsPiece_184 : decode cX11_readsPiece 184 = .ok (.ifCond .eq 15, 3) := by decide +kernel
theorem dX11_readsPiece_187 : decode cX11_readsPiece 187 = .ok (.aload_n 0, 1) := by decide +kernel
theorem dX11_readsPiece_188 : decode cX11_readsPiece 188 = .ok (.getfield 97, 3) := by decide +kernel
theorem dX11_readsPiece_191 : decode cX11_readsPiece 191 = .ok (.iload 7, 2) := by decide +kernel
theorem dX11_readsPiece_193 : decode cX11_readsPiece 193 = .ok (.iadd, 1) := by decide +kernel
theorem dX11_readsPiece_194 : decode cX11_readsPiece 194 = .ok (.bipush 99, 2) := by decide +kernel
theorem dX11_readsPiece_196 : decode cX11_readsPiece 196 = .ok (.if_icmp .le 7, 3) := by decide +kernel
theorem dX11_readsPiece_199 : decode cX11_readsPiece 199 = .ok (.iload_n 1, 1) := by decide +kernel
theorem dX11_readsPiece_200 : decode cX11_readsPiece 200 = .ok (.iconst 2, 1) := by decide +kernel
theorem dX11_readsPiece_201 : decode cX11_readsPiece 201 = .ok (.iadd, 1) := by decide +kernel
theorem dX11_readsPiece_202 : decode cX11_readsPiece 202 = .ok (.ireturn, 1) := by decide +kernel
theorem dX11_readsPiece_203 : decode cX11_readsPiece 203 = .ok (.iconst 0, 1) := by decide +kernel
theorem dX11_readsPiece_204 : decode cX11_readsPiece 204 = .ok (.istore 8, 2) := by decide +kernel
theorem dX11_readsPiece_206 : decode cX11_readsPiece 206 = .ok (.iload 8, 2) := by decide +kernel
theorem dX11_readsPiece_208 : decode cX11_readsPiece 208 = .ok (.iload 7, 2) := by decide +kernel
theorem dX11_readsPiece_210 : decode cX11_readsPiece 210 = .ok (.if_icmp .ge 15, 3) := by decide +kernel
theorem dX11_readsPiece_213 : decode cX11_readsPiece 213 = .ok (.aload_n 0, 1) := by decide +kernel
theorem dX11_readsPiece_214 : decode cX11_readsPiece 214 = .ok (.iconst 3, 1) := by decide +kernel
theorem dX11_readsPiece_215 : decode cX11_readsPiece 215 = .ok (.iconst (-1), 1) := by decide +kernel
theorem dX11_readsPiece_216 : decode cX11_readsPiece 216 = .ok (.invokevirtual 110, 3) := by decide +kernel
theorem dX11_readsPiece_219 : decode cX11_readsPiece 219 = .ok (.iinc 8 1, 3) := by decide +kernel
theorem dX11_readsPiece_222 : decode cX11_readsPiece 222 = .ok (.goto (-16), 3) := by decide +kernel
theorem dX11_readsPiece_225 : decode cX11_readsPiece 225 = .ok (.iinc 1 3, 3) := by decide +kernel
theorem dX11_readsPiece_228 : decode cX11_readsPiece 228 = .ok (.goto 141, 3) := by decide +kernel
theorem dX11_readsPiece_231 : decode cX11_readsPiece 231 = .ok (.aload_n 0, 1) := by decide +kernel
theorem dX11_readsPiece_232 : decode cX11_readsPiece 232 = .ok (.getfield 97, 3) := by decide +kernel
theorem dX11_readsPiece_235 : decode cX11_readsPiece 235 = .ok (.bipush 99, 2) := by decide +kernel
theorem dX11_readsPiece_237 : decode cX11_readsPiece 237 = .ok (.if_icmp .eq 33, 3) := by decide +kernel
theorem dX11_readsPiece_240 : decode cX11_readsPiece 240 = .ok (.iload 4, 2) := by decide +kernel
theorem dX11_readsPiece_242 : decode cX11_readsPiece 242 = .ok (.iconst 3, 1) := by decide +kernel
theorem dX11_readsPiece_243 : decode cX11_readsPiece 243 = .ok (.if_icmp .ge 12, 3) := by decide +kernel
theorem dX11_readsPiece_246 : decode cX11_readsPiece 246 = .ok (.aload_n 0, 1) := by decide +kernel
theorem dX11_readsPiece_247 : decode cX11_readsPiece 247 = .ok (.getfield 103, 3) := by decide +kernel
theorem dX11_readsPiece_250 : decode cX11_readsPiece 250 = .ok (.bipush 10, 2) := by decide +kernel
theorem dX11_readsPiece_252 : decode cX11_readsPiece 252 = .ok (.if_icmp .eq 18, 3) := by decide +kernel
theorem dX11_readsPiece_255 : decode cX11_readsPiece 255 = .ok (.iload 4, 2) := by decide +kernel
theorem dX11_readsPiece_257 : decode cX11_readsPiece 257 = .ok (.iconst 4, 1) := by decide +kernel
theorem dX11_readsPiece_258 : decode cX11_readsPiece 258 = .ok (.if_icmp .ne 14, 3) := by decide +kernel
theorem dX11_readsPiece_261 : decode cX11_readsPiece 261 = .ok (.aload_n 0, 1) := by decide +kernel
theorem dX11_readsPiece_262 : decode cX11_readsPiece 262 = .ok (.getfield 100, 3) := by decide +kernel
theorem dX11_readsPiece_265 : decode cX11_readsPiece 265 = .ok (.bipush 6, 2) := by decide +kernel
theorem dX11_readsPiece_267 : decode cX11_readsPiece 267 = .ok (.if_icmp .ne 5, 3) := by decide +kernel
theorem dX11_readsPiece_270 : decode cX11_readsPiece 270 = .ok (.iload_n 1, 1) := by decide +kernel
theorem dX11_readsPiece_271 : decode cX11_readsPiece 271 = .ok (.ireturn, 1) := by decide +kernel
theorem dX11_readsPiece_272 : decode cX11_readsPiece 272 = .ok (.iload 4, 2) := by decide +kernel
theorem dX11_readsPiece_274 : decode cX11_readsPiece 274 = .ok (.iconst 4, 1) := by decide +kernel
theorem dX11_readsPiece_275 : decode cX11_readsPiece 275 = .ok (.if_icmp .ne 27, 3) := by decide +kernel
theorem dX11_readsPiece_278 : decode cX11_readsPiece 278 = .ok (.iload_n 1, 1) := by decide +kernel
theorem dX11_readsPiece_279 : decode cX11_readsPiece 279 = .ok (.iconst 1, 1) := by decide +kernel
theorem dX11_readsPiece_280 : decode cX11_readsPiece 280 = .ok (.iadd, 1) := by decide +kernel
theorem dX11_readsPiece_281 : decode cX11_readsPiece 281 = .ok (.aload_n 0, 1) := by decide +kernel
theorem dX11_readsPiece_282 : decode cX11_readsPiece 282 = .ok (.getfield 93, 3) := by decide +kernel
theorem dX11_readsPiece_285 : decode cX11_readsPiece 285 = .ok (.if_icmp .ge 17, 3) := by decide +kernel
theorem dX11_readsPiece_288 : decode cX11_readsPiece 288 = .ok (.aload_n 0, 1) := by decide +kernel
theorem dX11_readsPiece_289 : decode cX11_readsPiece 289 = .ok (.getfield 7, 3) := by decide +kernel
theorem dX11_readsPiece_292 : decode cX11_readsPiece 292 = .ok (.iload_n 1, 1) := by decide +kernel
theorem dX11_readsPiece_293 : decode cX11_readsPiece 293 = .ok (.iconst 1, 1) := by decide +kernel
theorem dX11_readsPiece_294 : decode cX11_readsPiece 294 = .ok (.iadd, 1) := by decide +kernel
theorem dX11_readsPiece_295 : decode cX11_readsPiece 295 = .ok (.iaload, 1) := by decide +kernel
theorem dX11_readsPiece_296 : decode cX11_readsPiece 296 = .ok (.bipush 97, 2) := by decide +kernel
theorem dX11_readsPiece_298 : decode cX11_readsPiece 298 = .ok (.isub, 1) := by decide +kernel
theorem dX11_readsPiece_299 : decode cX11_readsPiece 299 = .ok (.goto 4, 3) := by decide +kernel
theorem dX11_readsPiece_302 : decode cX11_readsPiece 302 = .ok (.iconst (-1), 1) := by decide +kernel
theorem dX11_readsPiece_303 : decode cX11_readsPiece 303 = .ok (.istore 5, 2) := by decide +kernel
theorem dX11_readsPiece_305 : decode cX11_readsPiece 305 = .ok (.iload 4, 2) := by decide +kernel
theorem dX11_readsPiece_307 : decode cX11_readsPiece 307 = .ok (.iconst 4, 1) := by decide +kernel
theorem dX11_readsPiece_308 : decode cX11_readsPiece 308 = .ok (.if_icmp .ne 17, 3) := by decide +kernel
theorem dX11_readsPiece_311 : decode cX11_readsPiece 311 = .ok (.iload 5, 2) := by decide +kernel
theorem dX11_readsPiece_313 : decode cX11_readsPiece 313 = .ok (.iconst 0, 1) := by decide +kernel
theorem dX11_readsPiece_314 : decode cX11_readsPiece 314 = .ok (.iconst 3, 1) := by decide +kernel
theorem dX11_readsPiece_315 : decode cX11_readsPiece 315 = .ok (.invokestatic 89, 3) := by decide +kernel
theorem dX11_readsPiece_318 : decode cX11_readsPiece 318 = .ok (.ifCond .ne 7, 3) := by decide +kernel
theorem dX11_readsPiece_321 : decode cX11_readsPiece 321 = .ok (.iload_n 1, 1) := by decide +kernel
theorem dX11_readsPiece_322 : decode cX11_readsPiece 322 = .ok (.iconst 1, 1) := by decide +kernel
theorem dX11_readsPiece_323 : decode cX11_readsPiece 323 = .ok (.iadd, 1) := by decide +kernel
theorem dX11_readsPiece_324 : decode cX11_readsPiece 324 = .ok (.ireturn, 1) := by decide +kernel
theorem dX11_readsPiece_325 : decode cX11_readsPiece 325 = .ok (.aload_n 0, 1) := by decide +kernel
theorem dX11_readsPiece_326 : decode cX11_readsPiece 326 = .ok (.iload 4, 2) := by decide +kernel
theorem dX11_readsPiece_328 : decode cX11_readsPiece 328 = .ok (.iload 4, 2) := by decide +kernel
theorem dX11_readsPiece_330 : decode cX11_readsPiece 330 = .ok (.iconst 4, 1) := by decide +kernel
theorem dX11_readsPiece_331 : decode cX11_readsPiece 331 = .ok (.if_icmp .ne 8, 3) := by decide +kernel
theorem dX11_readsPiece_334 : decode cX11_readsPiece 334 = .ok (.iload 5, 2) := by decide +kernel
theorem dX11_readsPiece_336 : decode cX11_readsPiece 336 = .ok (.goto 4, 3) := by decide +kernel
theorem dX11_readsPiece_339 : decode cX11_readsPiece 339 = .ok (.iconst (-1), 1) := by decide +kernel
theorem dX11_readsPiece_340 : decode cX11_readsPiece 340 = .ok (.invokevirtual 110, 3) := by decide +kernel
theorem dX11_readsPiece_343 : decode cX11_readsPiece 343 = .ok (.iload 4, 2) := by decide +kernel
theorem dX11_readsPiece_345 : decode cX11_readsPiece 345 = .ok (.iconst 5, 1) := by decide +kernel
theorem dX11_readsPiece_346 : decode cX11_readsPiece 346 = .ok (.if_icmp .ne 7, 3) := by decide +kernel
theorem dX11_readsPiece_349 : decode cX11_readsPiece 349 = .ok (.iconst 1, 1) := by decide +kernel
theorem dX11_readsPiece_350 : decode cX11_readsPiece 350 = .ok (.goto 4, 3) := by decide +kernel
theorem dX11_readsPiece_353 : decode cX11_readsPiece 353 = .ok (.iconst 0, 1) := by decide +kernel
theorem dX11_readsPiece_354 : decode cX11_readsPiece 354 = .ok (.istore_n 2, 1) := by decide +kernel
theorem dX11_readsPiece_355 : decode cX11_readsPiece 355 = .ok (.iload_n 1, 1) := by decide +kernel
theorem dX11_readsPiece_356 : decode cX11_readsPiece 356 = .ok (.iload 4, 2) := by decide +kernel
theorem dX11_readsPiece_358 : decode cX11_readsPiece 358 = .ok (.iconst 4, 1) := by decide +kernel
theorem dX11_readsPiece_359 : decode cX11_readsPiece 359 = .ok (.if_icmp .ne 7, 3) := by decide +kernel
theorem dX11_readsPiece_362 : decode cX11_readsPiece 362 = .ok (.iconst 2, 1) := by decide +kernel
theorem dX11_readsPiece_363 : decode cX11_readsPiece 363 = .ok (.goto 4, 3) := by decide +kernel
theorem dX11_readsPiece_366 : decode cX11_readsPiece 366 = .ok (.iconst 1, 1) := by decide +kernel
theorem dX11_readsPiece_367 : decode cX11_readsPiece 367 = .ok (.iadd, 1) := by decide +kernel
theorem dX11_readsPiece_368 : decode cX11_readsPiece 368 = .ok (.istore_n 1, 1) := by decide +kernel
theorem dX11_readsPiece_369 : decode cX11_readsPiece 369 = .ok (.goto (-339), 3) := by decide +kernel
theorem dX11_readsPiece_372 : decode cX11_readsPiece 372 = .ok (.iload_n 2, 1) := by decide +kernel
theorem dX11_readsPiece_373 : decode cX11_readsPiece 373 = .ok (.ifCond .eq 7, 3) := by decide +kernel
theorem dX11_readsPiece_376 : decode cX11_readsPiece 376 = .ok (.iconst (-1), 1) := by decide +kernel
theorem dX11_readsPiece_377 : decode cX11_readsPiece 377 = .ok (.goto 7, 3) := by decide +kernel
theorem dX11_readsPiece_380 : decode cX11_readsPiece 380 = .ok (.aload_n 0, 1) := by decide +kernel
theorem dX11_readsPiece_381 : decode cX11_readsPiece 381 = .ok (.getfield 93, 3) := by decide +kernel
theorem dX11_readsPiece_384 : decode cX11_readsPiece 384 = .ok (.ireturn, 1) := by decide +kernel
theorem dX11_faultNow_0 : decode cX11_faultNow 0 = .ok (.aload_n 0, 1) := by decide +kernel
theorem dX11_faultNow_1 : decode cX11_faultNow 1 = .ok (.invokevirtual 114, 3) := by decide +kernel
theorem dX11_faultNow_4 : decode cX11_faultNow 4 = .ok (.istore_n 1, 1) := by decide +kernel
theorem dX11_faultNow_5 : decode cX11_faultNow 5 = .ok (.aload_n 0, 1) := by decide +kernel
theorem dX11_faultNow_6 : decode cX11_faultNow 6 = .ok (.iload_n 1, 1) := by decide +kernel
theorem dX11_faultNow_7 : decode cX11_faultNow 7 = .ok (.iconst (-1), 1) := by decide +kernel
theorem dX11_faultNow_8 : decode cX11_faultNow 8 = .ok (.if_icmp .ne 10, 3) := by decide +kernel
theorem dX11_faultNow_11 : decode cX11_faultNow 11 = .ok (.aload_n 0, 1) := by decide +kernel
theorem dX11_faultNow_12 : decode cX11_faultNow 12 = .ok (.getfield 97, 3) := by decide +kernel
theorem dX11_faultNow_15 : decode cX11_faultNow 15 = .ok (.goto 4, 3) := by decide +kernel
theorem dX11_faultNow_18 : decode cX11_faultNow 18 = .ok (.iconst 0, 1) := by decide +kernel
theorem dX11_faultNow_19 : decode cX11_faultNow 19 = .ok (.putfield 97, 3) := by decide +kernel
theorem dX11_faultNow_22 : decode cX11_faultNow 22 = .ok (.aload_n 0, 1) := by decide +kernel
theorem dX11_faultNow_23 : decode cX11_faultNow 23 = .ok (.iload_n 1, 1) := by decide +kernel
theorem dX11_faultNow_24 : decode cX11_faultNow 24 = .ok (.iconst (-1), 1) := by decide +kernel
theorem dX11_faultNow_25 : decode cX11_faultNow 25 = .ok (.if_icmp .ne 10, 3) := by decide +kernel
theorem dX11_faultNow_28 : decode cX11_faultNow 28 = .ok (.aload_n 0, 1) := by decide +kernel
theorem dX11_faultNow_29 : decode cX11_faultNow 29 = .ok (.getfield 103, 3) := by decide +kernel
theorem dX11_faultNow_32 : decode cX11_faultNow 32 = .ok (.goto 4, 3) := by decide +kernel
theorem dX11_faultNow_35 : decode cX11_faultNow 35 = .ok (.iconst 0, 1) := by decide +kernel
theorem dX11_faultNow_36 : decode cX11_faultNow 36 = .ok (.putfield 103, 3) := by decide +kernel
theorem dX11_faultNow_39 : decode cX11_faultNow 39 = .ok (.aload_n 0, 1) := by decide +kernel
theorem dX11_faultNow_40 : decode cX11_faultNow 40 = .ok (.iload_n 1, 1) := by decide +kernel
theorem dX11_faultNow_41 : decode cX11_faultNow 41 = .ok (.iconst (-1), 1) := by decide +kernel
theorem dX11_faultNow_42 : decode cX11_faultNow 42 = .ok (.if_icmp .ne 10, 3) := by decide +kernel
theorem dX11_faultNow_45 : decode cX11_faultNow 45 = .ok (.aload_n 0, 1) := by decide +kernel
theorem dX11_faultNow_46 : decode cX11_faultNow 46 = .ok (.getfield 100, 3) := by decide +kernel
theorem dX11_faultNow_49 : decode cX11_faultNow 49 = .ok (.goto 4, 3) := by decide +kernel
theorem dX11_faultNow_52 : decode cX11_faultNow 52 = .ok (.iconst 0, 1) := by decide +kernel
theorem dX11_faultNow_53 : decode cX11_faultNow 53 = .ok (.putfield 100, 3) := by decide +kernel
theorem dX11_faultNow_56 : decode cX11_faultNow 56 = .ok (.iload_n 1, 1) := by decide +kernel
theorem dX11_faultNow_57 : decode cX11_faultNow 57 = .ok (.ireturn, 1) := by decide +kernel
theorem dX11_fault_0 : decode cX11_fault 0 = .ok (.aload_n 0, 1) := by decide +kernel
theorem dX11_fault_1 : decode cX11_fault 1 = .ok (.invokevirtual 118, 3) := by decide +kernel
theorem dX11_fault_4 : decode cX11_fault 4 = .ok (.ireturn, 1) := by decide +kernel
theorem dX11_reads_0 : decode cX11_reads 0 = .ok (.aload_n 0, 1) := by decide +kernel
theorem dX11_reads_1 : decode cX11_reads 1 = .ok (.invokevirtual 118, 3) := by decide +kernel
theorem dX11_reads_4 : decode cX11_reads 4 = .ok (.istore_n 1, 1) := by decide +kernel
theorem dX11_reads_5 : decode cX11_reads 5 = .ok (.return_, 1) := by decide +kernel
theorem dX11_isBar_0 : decode cX11_isBar 0 = .ok (.aload_n 0, 1) := by decide +kernel
theorem dX11_isBar_1 : decode cX11_isBar 1 = .ok (.invokevirtual 121, 3) := by decide +kernel
theorem dX11_isBar_4 : decode cX11_isBar 4 = .ok (.iload_n 1, 1) := by decide +kernel
theorem dX11_isBar_5 : decode cX11_isBar 5 = .ok (.iconst 0, 1) := by decide +kernel
theorem dX11_isBar_6 : decode cX11_isBar 6 = .ok (.aload_n 0, 1) := by decide +kernel
theorem dX11_isBar_7 : decode cX11_isBar 7 = .ok (.getfield 97, 3) := by decide +kernel
theorem dX11_isBar_10 : decode cX11_isBar 10 = .ok (.iconst 1, 1) := by decide +kernel
theorem dX11_isBar_11 : decode cX11_isBar 11 = .ok (.isub, 1) := by decide +kernel
theorem dX11_isBar_12 : decode cX11_isBar 12 = .ok (.invokestatic 89, 3) := by decide +kernel
theorem dX11_isBar_15 : decode cX11_isBar 15 = .ok (.ireturn, 1) := by decide +kernel
theorem dX11_barOf_0 : decode cX11_barOf 0 = .ok (.iload_n 2, 1) := by decide +kernel
theorem dX11_barOf_1 : decode cX11_barOf 1 = .ok (.ifCond .ne 12, 3) := by decide +kernel
theorem dX11_barOf_4 : decode cX11_barOf 4 = .ok (.aload_n 0, 1) := by decide +kernel
theorem dX11_barOf_5 : decode cX11_barOf 5 = .ok (.getfield 13, 3) := by decide +kernel
theorem dX11_barOf_8 : decode cX11_barOf 8 = .ok (.iload_n 1, 1) := by decide +kernel
theorem dX11_barOf_9 : decode cX11_barOf 9 = .ok (.iaload, 1) := by decide +kernel
theorem dX11_barOf_10 : decode cX11_barOf 10 = .ok (.goto 23, 3) := by decide +kernel
theorem dX11_barOf_13 : decode cX11_barOf 13 = .ok (.iload_n 2, 1) := by decide +kernel
theorem dX11_barOf_14 : decode cX11_barOf 14 = .ok (.iconst 1, 1) := by decide +kernel
theorem dX11_barOf_15 : decode cX11_barOf 15 = .ok (.if_icmp .ne 12, 3) := by decide +kernel
theorem dX11_barOf_18 : decode cX11_barOf 18 = .ok (.aload_n 0, 1) := by decide +kernel
theorem dX11_barOf_19 : decode cX11_barOf 19 = .ok (.getfield 16, 3) := by decide +kernel
theorem dX11_barOf_22 : decode cX11_barOf 22 = .ok (.iload_n 1, 1) := by decide +kernel
theorem dX11_barOf_23 : decode cX11_barOf 23 = .ok (.iaload, 1) := by decide +kernel
theorem dX11_barOf_24 : decode cX11_barOf 24 = .ok (.goto 9, 3) := by decide +kernel
theorem dX11_barOf_27 : decode cX11_barOf 27 = .ok (.aload_n 0, 1) := by decide +kernel
theorem dX11_barOf_28 : decode cX11_barOf 28 = .ok (.getfield 19, 3) := by decide +kernel
theorem dX11_barOf_31 : decode cX11_barOf 31 = .ok (.iload_n 1, 1) := by decide +kernel
theorem dX11_barOf_32 : decode cX11_barOf 32 = .ok (.iaload, 1) := by decide +kernel
theorem dX11_barOf_33 : decode cX11_barOf 33 = .ok (.ireturn, 1) := by decide +kernel
theorem dX11_bar_0 : decode cX11_bar 0 = .ok (.aload_n 0, 1) := by decide +kernel
theorem dX11_bar_1 : decode cX11_bar 1 = .ok (.iload_n 1, 1) := by decide +kernel
theorem dX11_bar_2 : decode cX11_bar 2 = .ok (.invokevirtual 124, 3) := by decide +kernel
theorem dX11_bar_5 : decode cX11_bar 5 = .ok (.ifCond .eq 21, 3) := by decide +kernel
theorem dX11_bar_8 : decode cX11_bar 8 = .ok (.iload_n 2, 1) := by decide +kernel
theorem dX11_bar_9 : decode cX11_bar 9 = .ok (.iconst 0, 1) := by decide +kernel
theorem dX11_bar_10 : decode cX11_bar 10 = .ok (.iconst 2, 1) := by decide +kernel
theorem dX11_bar_11 : decode cX11_bar 11 = .ok (.invokestatic 89, 3) := by decide +kernel
theorem dX11_bar_14 : decode cX11_bar 14 = .ok (.ifCond .eq 12, 3) := by decide +kernel
theorem dX11_bar_17 : decode cX11_bar 17 = .ok (.aload_n 0, 1) := by decide +kernel
theorem dX11_bar_18 : decode cX11_bar 18 = .ok (.iload_n 1, 1) := by decide +kernel
theorem dX11_bar_19 : decode cX11_bar 19 = .ok (.iload_n 2, 1) := by decide +kernel
theorem dX11_bar_20 : decode cX11_bar 20 = .ok (.invokevirtual 128, 3) := by decide +kernel
theorem dX11_bar_23 : decode cX11_bar 23 = .ok (.goto 5, 3) := by decide +kernel
theorem dX11_bar_26 : decode cX11_bar 26 = .ok (.bipush (-2), 2) := by decide +kernel
theorem dX11_bar_28 : decode cX11_bar 28 = .ok (.ireturn, 1) := by decide +kernel
theorem dX11_odds_0 : decode cX11_odds 0 = .ok (.iload_n 1, 1) := by decide +kernel
theorem dX11_odds_1 : decode cX11_odds 1 = .ok (.iconst 0, 1) := by decide +kernel
theorem dX11_odds_2 : decode cX11_odds 2 = .ok (.iconst 2, 1) := by decide +kernel
theorem dX11_odds_3 : decode cX11_odds 3 = .ok (.invokestatic 89, 3) := by decide +kernel
theorem dX11_odds_6 : decode cX11_odds 6 = .ok (.ifCond .eq 31, 3) := by decide +kernel
theorem dX11_odds_9 : decode cX11_odds 9 = .ok (.iload_n 2, 1) := by decide +kernel
theorem dX11_odds_10 : decode cX11_odds 10 = .ok (.iconst 0, 1) := by decide +kernel
theorem dX11_odds_11 : decode cX11_odds 11 = .ok (.bipush 16, 2) := by decide +kernel
theorem dX11_odds_13 : decode cX11_odds 13 = .ok (.invokestatic 89, 3) := by decide +kernel
theorem dX11_odds_16 : decode cX11_odds 16 = .ok (.ifCond .eq 21, 3) := by decide +kernel
theorem dX11_odds_19 : decode cX11_odds 19 = .ok (.iload_n 3, 1) := by decide +kernel
theorem dX11_odds_20 : decode cX11_odds 20 = .ok (.iconst 0, 1) := by decide +kernel
theorem dX11_odds_21 : decode cX11_odds 21 = .ok (.bipush 16, 2) := by decide +kernel
theorem dX11_odds_23 : decode cX11_odds 23 = .ok (.invokestatic 89, 3) := by decide +kernel
theorem dX11_odds_26 : decode cX11_odds 26 = .ok (.ifCond .eq 11, 3) := by decide +kernel
theorem dX11_odds_29 : decode cX11_odds 29 = .ok (.iload_n 2, 1) := by decide +kernel
theorem dX11_odds_30 : decode cX11_odds 30 = .ok (.iload_n 3, 1) := by decide +kernel
theorem dX11_odds_31 : decode cX11_odds 31 = .ok (.iadd, 1) := by decide +kernel
theorem dX11_odds_32 : decode cX11_odds 32 = .ok (.bipush 16, 2) := by decide +kernel
theorem dX11_odds_34 : decode cX11_odds 34 = .ok (.if_icmp .le 6, 3) := by decide +kernel
theorem dX11_odds_37 : decode cX11_odds 37 = .ok (.bipush (-2), 2) := by decide +kernel
theorem dX11_odds_39 : decode cX11_odds 39 = .ok (.ireturn, 1) := by decide +kernel
theorem dX11_odds_40 : decode cX11_odds 40 = .ok (.bipush 16, 2) := by decide +kernel
theorem dX11_odds_42 : decode cX11_odds 42 = .ok (.aload_n 0, 1) := by decide +kernel
theorem dX11_odds_43 : decode cX11_odds 43 = .ok (.getfield 25, 3) := by decide +kernel
theorem dX11_odds_46 : decode cX11_odds 46 = .ok (.iload_n 1, 1) := by decide +kernel
theorem dX11_odds_47 : decode cX11_odds 47 = .ok (.iaload, 1) := by decide +kernel
theorem dX11_odds_48 : decode cX11_odds 48 = .ok (.imul, 1) := by decide +kernel
theorem dX11_odds_49 : decode cX11_odds 49 = .ok (.aload_n 0, 1) := by decide +kernel
theorem dX11_odds_50 : decode cX11_odds 50 = .ok (.getfield 28, 3) := by decide +kernel
theorem dX11_odds_53 : decode cX11_odds 53 = .ok (.iload_n 1, 1) := by decide +kernel
theorem dX11_odds_54 : decode cX11_odds 54 = .ok (.iaload, 1) := by decide +kernel
theorem dX11_odds_55 : decode cX11_odds 55 = .ok (.iadd, 1) := by decide +kernel
theorem dX11_odds_56 : decode cX11_odds 56 = .ok (.istore 4, 2) := by decide +kernel
theorem dX11_odds_58 : decode cX11_odds 58 = .ok (.aload_n 0, 1) := by decide +kernel
theorem dX11_odds_59 : decode cX11_odds 59 = .ok (.getfield 25, 3) := by decide +kernel
theorem dX11_odds_62 : decode cX11_odds 62 = .ok (.iload_n 1, 1) := by decide +kernel
theorem dX11_odds_63 : decode cX11_odds 63 = .ok (.iload_n 2, 1) := by decide +kernel
theorem dX11_odds_64 : decode cX11_odds 64 = .ok (.iastore, 1) := by decide +kernel
theorem dX11_odds_65 : decode cX11_odds 65 = .ok (.aload_n 0, 1) := by decide +kernel
theorem dX11_odds_66 : decode cX11_odds 66 = .ok (.getfield 28, 3) := by decide +kernel
theorem dX11_odds_69 : decode cX11_odds 69 = .ok (.iload_n 1, 1) := by decide +kernel
theorem dX11_odds_70 : decode cX11_odds 70 = .ok (.iload_n 3, 1) := by decide +kernel
theorem dX11_odds_71 : decode cX11_odds 71 = .ok (.iastore, 1) := by decide +kernel
theorem dX11_odds_72 : decode cX11_odds 72 = .ok (.iload 4, 2) := by decide +kernel
theorem dX11_odds_74 : decode cX11_odds 74 = .ok (.ireturn, 1) := by decide +kernel
theorem dX11_set_0 : decode cX11_set 0 = .ok (.iload_n 1, 1) := by decide +kernel
theorem dX11_set_1 : decode cX11_set 1 = .ok (.iconst 4, 1) := by decide +kernel
theorem dX11_set_2 : decode cX11_set 2 = .ok (.if_icmp .eq 8, 3) := by decide +kernel
theorem dX11_set_5 : decode cX11_set 5 = .ok (.iload_n 1, 1) := by decide +kernel
theorem dX11_set_6 : decode cX11_set 6 = .ok (.iconst 5, 1) := by decide +kernel
theorem dX11_set_7 : decode cX11_set 7 = .ok (.if_icmp .ne 8, 3) := by decide +kernel
theorem dX11_set_10 : decode cX11_set 10 = .ok (.bipush 99, 2) := by decide +kernel
theorem dX11_set_12 : decode cX11_set 12 = .ok (.goto 15, 3) := by decide +kernel
theorem dX11_set_15 : decode cX11_set 15 = .ok (.iload_n 1, 1) := by decide +kernel
theorem dX11_set_16 : decode cX11_set 16 = .ok (.bipush 6, 2) := by decide +kernel
theorem dX11_set_18 : decode cX11_set 18 = .ok (.if_icmp .le 7, 3) := by decide +kernel
theorem dX11_set_21 : decode cX11_set 21 = .ok (.iconst 4, 1) := by decide +kernel
theorem dX11_set_22 : decode cX11_set 22 = .ok (.goto 5, 3) := by decide +kernel
theorem dX11_set_25 : decode cX11_set 25 = .ok (.bipush 16, 2) := by decide +kernel
theorem dX11_set_27 : decode cX11_set 27 = .ok (.istore_n 3, 1) := by decide +kernel
theorem dX11_set_28 : decode cX11_set 28 = .ok (.iload_n 1, 1) := by decide +kernel
theorem dX11_set_29 : decode cX11_set 29 = .ok (.iconst 0, 1) := by decide +kernel
theorem dX11_set_30 : decode cX11_set 30 = .ok (.bipush 8, 2) := by decide +kernel
theorem dX11_set_32 : decode cX11_set 32 = .ok (.invokestatic 89, 3) := by decide +kernel
theorem dX11_set_35 : decode cX11_set 35 = .ok (.ifCond .eq 12, 3) := by decide +kernel
theorem dX11_set_38 : decode cX11_set 38 = .ok (.iload_n 2, 1) := by decide +kernel
theorem dX11_set_39 : decode cX11_set 39 = .ok (.iconst 0, 1) := by decide +kernel
theorem dX11_set_40 : decode cX11_set 40 = .ok (.iload_n 3, 1) := by decide +kernel
theorem dX11_set_41 : decode cX11_set 41 = .ok (.invokestatic 89, 3) := by decide +kernel
theorem dX11_set_44 : decode cX11_set 44 = .ok (.ifCond .ne 6, 3) := by decide +kernel
theorem dX11_set_47 : decode cX11_set 47 = .ok (.bipush (-2), 2) := by decide +kernel
theorem dX11_set_49 : decode cX11_set 49 = .ok (.ireturn, 1) := by decide +kernel
theorem dX11_set_50 : decode cX11_set 50 = .ok (.aload_n 0, 1) := by decide +kernel
theorem dX11_set_51 : decode cX11_set 51 = .ok (.getfield 31, 3) := by decide +kernel
theorem dX11_set_54 : decode cX11_set 54 = .ok (.iload_n 1, 1) := by decide +kernel
theorem dX11_set_55 : decode cX11_set 55 = .ok (.iaload, 1) := by decide +kernel
theorem dX11_set_56 : decode cX11_set 56 = .ok (.istore 4, 2) := by decide +kernel
theorem dX11_set_58 : decode cX11_set 58 = .ok (.aload_n 0, 1) := by decide +kernel
theorem dX11_set_59 : decode cX11_set 59 = .ok (.getfield 31, 3) := by decide +kernel
theorem dX11_set_62 : decode cX11_set 62 = .ok (.iload_n 1, 1) := by decide +kernel
theorem dX11_set_63 : decode cX11_set 63 = .ok (.iload_n 2, 1) := by decide +kernel
theorem dX11_set_64 : decode cX11_set 64 = .ok (.iastore, 1) := by decide +kernel
theorem dX11_set_65 : decode cX11_set 65 = .ok (.iload 4, 2) := by decide +kernel
theorem dX11_set_67 : decode cX11_set 67 = .ok (.ireturn, 1) := by decide +kernel
theorem dX11_isNumber_0 : decode cX11_isNumber 0 = .ok (.iload_n 0, 1) := by decide +kernel
theorem dX11_isNumber_1 : decode cX11_isNumber 1 = .ok (.iconst 1, 1) := by decide +kernel
theorem dX11_isNumber_2 : decode cX11_isNumber 2 = .ok (.bipush 110, 2) := by decide +kernel
theorem dX11_isNumber_4 : decode cX11_isNumber 4 = .ok (.invokestatic 89, 3) := by decide +kernel
theorem dX11_isNumber_7 : decode cX11_isNumber 7 = .ok (.ireturn, 1) := by decide +kernel
theorem dX11_read_0 : decode cX11_read 0 = .ok (.iload_n 1, 1) := by decide +kernel
theorem dX11_read_1 : decode cX11_read 1 = .ok (.invokestatic 132, 3) := by decide +kernel
theorem dX11_read_4 : decode cX11_read 4 = .ok (.ifCond .ne 6, 3) := by decide +kernel
theorem dX11_read_7 : decode cX11_read 7 = .ok (.bipush (-2), 2) := by decide +kernel
theorem dX11_read_9 : decode cX11_read 9 = .ok (.ireturn, 1) := by decide +kernel
theorem dX11_read_10 : decode cX11_read 10 = .ok (.aload_n 0, 1) := by decide +kernel
theorem dX11_read_11 : decode cX11_read 11 = .ok (.getfield 71, 3) := by decide +kernel
theorem dX11_read_14 : decode cX11_read 14 = .ok (.iload_n 1, 1) := by decide +kernel
theorem dX11_read_15 : decode cX11_read 15 = .ok (.baload, 1) := by decide +kernel
theorem dX11_read_16 : decode cX11_read 16 = .ok (.ifCond .ne 9, 3) := by decide +kernel
theorem dX11_read_19 : decode cX11_read 19 = .ok (.aload_n 0, 1) := by decide +kernel
theorem dX11_read_20 : decode cX11_read 20 = .ok (.iconst 1, 1) := by decide +kernel
theorem dX11_read_21 : decode cX11_read 21 = .ok (.invokevirtual 135, 3) := by decide +kernel
theorem dX11_read_24 : decode cX11_read 24 = .ok (.ireturn, 1) := by decide +kernel
theorem dX11_read_25 : decode cX11_read 25 = .ok (.iconst 0, 1) := by decide +kernel
theorem dX11_read_26 : decode cX11_read 26 = .ok (.istore_n 2, 1) := by decide +kernel
theorem dX11_read_27 : decode cX11_read 27 = .ok (.iload_n 2, 1) := by decide +kernel
theorem dX11_read_28 : decode cX11_read 28 = .ok (.aload_n 0, 1) := by decide +kernel
theorem dX11_read_29 : decode cX11_read 29 = .ok (.getfield 78, 3) := by decide +kernel
theorem dX11_read_32 : decode cX11_read 32 = .ok (.iload_n 1, 1) := by decide +kernel
theorem dX11_read_33 : decode cX11_read 33 = .ok (.iaload, 1) := by decide +kernel
theorem dX11_read_34 : decode cX11_read 34 = .ok (.if_icmp .ge 49, 3) := by decide +kernel
theorem dX11_read_37 : decode cX11_read 37 = .ok (.iload_n 2, 1) := by decide +kernel
theorem dX11_read_38 : decode cX11_read 38 = .ok (.bipush 20, 2) := by decide +kernel
theorem dX11_read_40 : decode cX11_read 40 = .ok (.if_icmp .ge 43, 3) := by decide +kernel
theorem dX11_read_43 : decode cX11_read 43 = .ok (.aload_n 0, 1) := by decide +kernel
theorem dX11_read_44 : decode cX11_read 44 = .ok (.getfield 81, 3) := by decide +kernel
theorem dX11_read_47 : decode cX11_read 47 = .ok (.bipush 48, 2) := by decide +kernel
theorem dX11_read_49 : decode cX11_read 49 = .ok (.iload_n 1, 1) := by decide +kernel
theorem dX11_read_50 : decode cX11_read 50 = .ok (.imul, 1) := by decide +kernel
theorem dX11_read_51 : decode cX11_read 51 = .ok (.iload_n 2, 1) := by decide +kernel
theorem dX11_read_52 : decode cX11_read 52 = .ok (.iadd, 1) := by decide +kernel
theorem dX11_read_53 : decode cX11_read 53 = .ok (.iaload, 1) := by decide +kernel
theorem dX11_read_54 : decode cX11_read 54 = .ok (.invokestatic 138, 3) := by decide +kernel
theorem dX11_read_57 : decode cX11_read 57 = .ok (.ifCond .eq 26, 3) := by decide +kernel
theorem dX11_read_60 : decode cX11_read 60 = .ok (.aload_n 0, 1) := by decide +kernel
theorem dX11_read_61 : decode cX11_read 61 = .ok (.getfield 34, 3) := by decide +kernel
theorem dX11_read_64 : decode cX11_read 64 = .ok (.iload_n 2, 1) := by decide +kernel
theorem dX11_read_65 : decode cX11_read 65 = .ok (.aload_n 0, 1) := by decide +kernel
theorem dX11_read_66 : decode cX11_read 66 = .ok (.getfield 81, 3) := by decide +kernel
theorem dX11_read_69 : decode cX11_read 69 = .ok (.bipush 48, 2) := by decide +kernel
theorem dX11_read_71 : decode cX11_read 71 = .ok (.iload_n 1, 1) := by decide +kernel
theorem dX11_read_72 : decode cX11_read 72 = .ok (.imul, 1) := by decide +kernel
theorem dX11_read_73 : decode cX11_read 73 = .ok (.iload_n 2, 1) := by decide +kernel
theorem dX11_read_74 : decode cX11_read 74 = .ok (.iadd, 1) := by decide +kernel
theorem dX11_read_75 : decode cX11_read 75 = .ok (.iaload, 1) := by decide +kernel
theorem dX11_read_76 : decode cX11_read 76 = .ok (.iastore, 1) := by decide +kernel
theorem dX11_read_77 : decode cX11_read 77 = .ok (.iinc 2 1, 3) := by decide +kernel
theorem dX11_read_80 : decode cX11_read 80 = .ok (.goto (-53), 3) := by decide +kernel
theorem dX11_read_83 : decode cX11_read 83 = .ok (.aload_n 0, 1) := by decide +kernel
theorem dX11_read_84 : decode cX11_read 84 = .ok (.iload_n 2, 1) := by decide +kernel
theorem dX11_read_85 : decode cX11_read 85 = .ok (.putfield 141, 3) := by decide +kernel
theorem dX11_read_88 : decode cX11_read 88 = .ok (.iload_n 2, 1) := by decide +kernel
theorem dX11_read_89 : decode cX11_read 89 = .ok (.ireturn, 1) := by decide +kernel
theorem dX11_notesMore_0 : decode cX11_notesMore 0 = .ok (.aload_n 0, 1) := by decide +kernel
theorem dX11_notesMore_1 : decode cX11_notesMore 1 = .ok (.getfield 144, 3) := by decide +kernel
theorem dX11_notesMore_4 : decode cX11_notesMore 4 = .ok (.iconst 4, 1) := by decide +kernel
theorem dX11_notesMore_5 : decode cX11_notesMore 5 = .ok (.if_icmp .ne 6, 3) := by decide +kernel
theorem dX11_notesMore_8 : decode cX11_notesMore 8 = .ok (.bipush (-4), 2) := by decide +kernel
theorem dX11_notesMore_10 : decode cX11_notesMore 10 = .ok (.ireturn, 1) := by decide +kernel
theorem dX11_notesMore_11 : decode cX11_notesMore 11 = .ok (.aload_n 0, 1) := by decide +kernel
theorem dX11_notesMore_12 : decode cX11_notesMore 12 = .ok (.getfield 37, 3) := by decide +kernel
theorem dX11_notesMore_15 : decode cX11_notesMore 15 = .ok (.aload_n 0, 1) := by decide +kernel
theorem dX11_notesMore_16 : decode cX11_notesMore 16 = .ok (.getfield 144, 3) := by decide +kernel
theorem dX11_notesMore_19 : decode cX11_notesMore 19 = .ok (.iload_n 1, 1) := by decide +kernel
theorem dX11_notesMore_20 : decode cX11_notesMore 20 = .ok (.iastore, 1) := by decide +kernel
theorem dX11_notesMore_21 : decode cX11_notesMore 21 = .ok (.aload_n 0, 1) := by decide +kernel
theorem dX11_notesMore_22 : decode cX11_notesMore 22 = .ok (.getfield 40, 3) := by decide +kernel
theorem dX11_notesMore_25 : decode cX11_notesMore 25 = .ok (.aload_n 0, 1) := by decide +kernel
theorem dX11_notesMore_26 : decode cX11_notesMore 26 = .ok (.getfield 144, 3) := by decide +kernel
theorem dX11_notesMore_29 : decode cX11_notesMore 29 = .ok (.iload_n 2, 1) := by decide +kernel
theorem dX11_notesMore_30 : decode cX11_notesMore 30 = .ok (.iastore, 1) := by decide +kernel
theorem dX11_notesMore_31 : decode cX11_notesMore 31 = .ok (.aload_n 0, 1) := by decide +kernel
theorem dX11_notesMore_32 : decode cX11_notesMore 32 = .ok (.getfield 43, 3) := by decide +kernel
theorem dX11_notesMore_35 : decode cX11_notesMore 35 = .ok (.aload_n 0, 1) := by decide +kernel
theorem dX11_notesMore_36 : decode cX11_notesMore 36 = .ok (.getfield 144, 3) := by decide +kernel
theorem dX11_notesMore_39 : decode cX11_notesMore 39 = .ok (.iload_n 3, 1) := by decide +kernel
theorem dX11_notesMore_40 : decode cX11_notesMore 40 = .ok (.iastore, 1) := by decide +kernel
theorem dX11_notesMore_41 : decode cX11_notesMore 41 = .ok (.aload_n 0, 1) := by decide +kernel
theorem dX11_notesMore_42 : decode cX11_notesMore 42 = .ok (.dup, 1) := by decide +kernel
theorem dX11_notesMore_43 : decode cX11_notesMore 43 = .ok (.getfield 144, 3) := by decide +kernel
theorem dX11_notesMore_46 : decode cX11_notesMore 46 = .ok (.iconst 1, 1) := by decide +kernel
theorem dX11_notesMore_47 : decode cX11_notesMore 47 = .ok (.iadd, 1) := by decide +kernel
theorem dX11_notesMore_48 : decode cX11_notesMore 48 = .ok (.putfield 144, 3) := by decide +kernel
theorem dX11_notesMore_51 : decode cX11_notesMore 51 = .ok (.aload_n 0, 1) := by decide +kernel
theorem dX11_notesMore_52 : decode cX11_notesMore 52 = .ok (.getfield 144, 3) := by decide +kernel
theorem dX11_notesMore_55 : decode cX11_notesMore 55 = .ok (.ireturn, 1) := by decide +kernel
theorem dX11_hear_0 : decode cX11_hear 0 = .ok (.iload_n 1, 1) := by decide +kernel
theorem dX11_hear_1 : decode cX11_hear 1 = .ok (.invokestatic 138, 3) := by decide +kernel
theorem dX11_hear_4 : decode cX11_hear 4 = .ok (.ifCond .eq 22, 3) := by decide +kernel
theorem dX11_hear_7 : decode cX11_hear 7 = .ok (.iload_n 2, 1) := by decide +kernel
theorem dX11_hear_8 : decode cX11_hear 8 = .ok (.iconst 0, 1) := by decide +kernel
theorem dX11_hear_9 : decode cX11_hear 9 = .ok (.iconst 3, 1) := by decide +kernel
theorem dX11_hear_10 : decode cX11_hear 10 = .ok (.invokestatic 89, 3) := by decide +kernel
theorem dX11_hear_13 : decode cX11_hear 13 = .ok (.ifCond .eq 13, 3) := by decide +kernel
theorem dX11_hear_16 : decode cX11_hear 16 = .ok (.aload_n 0, 1) := by decide +kernel
theorem dX11_hear_17 : decode cX11_hear 17 = .ok (.iload_n 1, 1) := by decide +kernel
theorem dX11_hear_18 : decode cX11_hear 18 = .ok (.iload_n 2, 1) := by decide +kernel
theorem dX11_hear_19 : decode cX11_hear 19 = .ok (.iconst (-1), 1) := by decide +kernel
theorem dX11_hear_20 : decode cX11_hear 20 = .ok (.invokevirtual 147, 3) := by decide +kernel
theorem dX11_hear_23 : decode cX11_hear 23 = .ok (.goto 5, 3) := by decide +kernel
theorem dX11_hear_26 : decode cX11_hear 26 = .ok (.bipush (-2), 2) := by decide +kernel
theorem dX11_hear_28 : decode cX11_hear 28 = .ok (.ireturn, 1) := by decide +kernel
theorem dX11_shown_0 : decode cX11_shown 0 = .ok (.iload_n 1, 1) := by decide +kernel
theorem dX11_shown_1 : decode cX11_shown 1 = .ok (.invokestatic 138, 3) := by decide +kernel
theorem dX11_shown_4 : decode cX11_shown 4 = .ok (.ifCond .eq 23, 3) := by decide +kernel
theorem dX11_shown_7 : decode cX11_shown 7 = .ok (.iload_n 2, 1) := by decide +kernel
theorem dX11_shown_8 : decode cX11_shown 8 = .ok (.iconst 0, 1) := by decide +kernel
theorem dX11_shown_9 : decode cX11_shown 9 = .ok (.bipush 98, 2) := by decide +kernel
theorem dX11_shown_11 : decode cX11_shown 11 = .ok (.invokestatic 89, 3) := by decide +kernel
theorem dX11_shown_14 : decode cX11_shown 14 = .ok (.ifCond .eq 13, 3) := by decide +kernel
theorem dX11_shown_17 : decode cX11_shown 17 = .ok (.aload_n 0, 1) := by decide +kernel
theorem dX11_shown_18 : decode cX11_shown 18 = .ok (.iload_n 1, 1) := by decide +kernel
theorem dX11_shown_19 : decode cX11_shown 19 = .ok (.iconst (-1), 1) := by decide +kernel
theorem dX11_shown_20 : decode cX11_shown 20 = .ok (.iload_n 2, 1) := by decide +kernel
theorem dX11_shown_21 : decode cX11_shown 21 = .ok (.invokevirtual 147, 3) := by decide +kernel
theorem dX11_shown_24 : decode cX11_shown 24 = .ok (.goto 5, 3) := by decide +kernel
theorem dX11_shown_27 : decode cX11_shown 27 = .ok (.bipush (-2), 2) := by decide +kernel
theorem dX11_shown_29 : decode cX11_shown 29 = .ok (.ireturn, 1) := by decide +kernel
theorem dX11_forget_0 : decode cX11_forget 0 = .ok (.aload_n 0, 1) := by decide +kernel
theorem dX11_forget_1 : decode cX11_forget 1 = .ok (.getfield 144, 3) := by decide +kernel
theorem dX11_forget_4 : decode cX11_forget 4 = .ok (.istore_n 1, 1) := by decide +kernel
theorem dX11_forget_5 : decode cX11_forget 5 = .ok (.aload_n 0, 1) := by decide +kernel
theorem dX11_forget_6 : decode cX11_forget 6 = .ok (.iconst 0, 1) := by decide +kernel
theorem dX11_forget_7 : decode cX11_forget 7 = .ok (.putfield 144, 3) := by decide +kernel
theorem dX11_forget_10 : decode cX11_forget 10 = .ok (.iload_n 1, 1) := by decide +kernel
theorem dX11_forget_11 : decode cX11_forget 11 = .ok (.ireturn, 1) := by decide +kernel
theorem dX11_notesWeigh_0 : decode cX11_notesWeigh 0 = .ok (.lconst 1, 1) := by decide +kernel
theorem dX11_notesWeigh_1 : decode cX11_notesWeigh 1 = .ok (.lstore_n 3, 1) := by decide +kernel
theorem dX11_notesWeigh_2 : decode cX11_notesWeigh 2 = .ok (.iconst 0, 1) := by decide +kernel
theorem dX11_notesWeigh_3 : decode cX11_notesWeigh 3 = .ok (.istore 5, 2) := by decide +kernel
theorem dX11_notesWeigh_5 : decode cX11_notesWeigh 5 = .ok (.iload 5, 2) := by decide +kernel
theorem dX11_notesWeigh_7 : decode cX11_notesWeigh 7 = .ok (.aload_n 0, 1) := by decide +kernel
theorem dX11_notesWeigh_8 : decode cX11_notesWeigh 8 = .ok (.getfield 144, 3) := by decide +kernel
theorem dX11_notesWeigh_11 : decode cX11_notesWeigh 11 = .ok (.if_icmp .ge 135, 3) := by decide +kernel
theorem dX11_notesWeigh_14 : decode cX11_notesWeigh 14 = .ok (.aload_n 0, 1) := by decide +kernel
theorem dX11_notesWeigh_15 : decode cX11_notesWeigh 15 = .ok (.getfield 37, 3) := by decide +kernel
theorem dX11_notesWeigh_18 : decode cX11_notesWeigh 18 = .ok (.iload 5, 2) := by decide +kernel
theorem dX11_notesWeigh_20 : decode cX11_notesWeigh 20 = .ok (.iaload, 1) := by decide +kernel
theorem dX11_notesWeigh_21 : decode cX11_notesWeigh 21 = .ok (.iload_n 1, 1) := by decide +kernel
theorem dX11_notesWeigh_22 : decode cX11_notesWeigh 22 = .ok (.if_icmp .ne 51, 3) := by decide +kernel
theorem dX11_notesWeigh_25 : decode cX11_notesWeigh 25 = .ok (.aload_n 0, 1) := by decide +kernel
theorem dX11_notesWeigh_26 : decode cX11_notesWeigh 26 = .ok (.getfield 40, 3) := by decide +kernel
theorem dX11_notesWeigh_29 : decode cX11_notesWeigh 29 = .ok (.iload 5, 2) := by decide +kernel
theorem dX11_notesWeigh_31 : decode cX11_notesWeigh 31 = .ok (.iaload, 1) := by decide +kernel
theorem dX11_notesWeigh_32 : decode cX11_notesWeigh 32 = .ok (.iconst (-1), 1) := by decide +kernel
theorem dX11_notesWeigh_33 : decode cX11_notesWeigh 33 = .ok (.if_icmp .ne 40, 3) := by decide +kernel
theorem dX11_notesWeigh_36 : decode cX11_notesWeigh 36 = .ok (.lload_n 3, 1) := by decide +kernel
theorem dX11_notesWeigh_37 : decode cX11_notesWeigh 37 = .ok (.aload_n 0, 1) := by decide +kernel
theorem dX11_notesWeigh_38 : decode cX11_notesWeigh 38 = .ok (.getfield 43, 3) := by decide +kernel
theorem dX11_notesWeigh_41 : decode cX11_notesWeigh 41 = .ok (.iload 5, 2) := by decide +kernel
theorem dX11_notesWeigh_43 : decode cX11_notesWeigh 43 = .ok (.iaload, 1) := by decide +kernel
theorem dX11_notesWeigh_44 : decode cX11_notesWeigh 44 = .ok (.iload_n 2, 1) := by decide +kernel
theorem dX11_notesWeigh_45 : decode cX11_notesWeigh 45 = .ok (.if_icmp .ne 13, 3) := by decide +kernel
theorem dX11_notesWeigh_48 : decode cX11_notesWeigh 48 = .ok (.aload_n 0, 1) := by decide +kernel
theorem dX11_notesWeigh_49 : decode cX11_notesWeigh 49 = .ok (.getfield 31, 3) := by decide +kernel
theorem dX11_notesWeigh_52 : decode cX11_notesWeigh 52 = .ok (.iconst 3, 1) := by decide +kernel
theorem dX11_notesWeigh_53 : decode cX11_notesWeigh 53 = .ok (.iaload, 1) := by decide +kernel
theorem dX11_notesWeigh_54 : decode cX11_notesWeigh 54 = .ok (.i2l, 1) := by decide +kernel
theorem dX11_notesWeigh_55 : decode cX11_notesWeigh 55 = .ok (.goto 13, 3) := by decide +kernel
theorem dX11_notesWeigh_58 : decode cX11_notesWeigh 58 = .ok (.bipush 16, 2) := by decide +kernel
theorem dX11_notesWeigh_60 : decode cX11_notesWeigh 60 = .ok (.aload_n 0, 1) := by decide +kernel
theorem dX11_notesWeigh_61 : decode cX11_notesWeigh 61 = .ok (.getfield 31, 3) := by decide +kernel
theorem dX11_notesWeigh_64 : decode cX11_notesWeigh 64 = .ok (.iconst 3, 1) := by decide +kernel
theorem dX11_notesWeigh_65 : decode cX11_notesWeigh 65 = .ok (.iaload, 1) := by decide +kernel
theorem dX11_notesWeigh_66 : decode cX11_notesWeigh 66 = .ok (.isub, 1) := by decide +kernel
theorem dX11_notesWeigh_67 : decode cX11_notesWeigh 67 = .ok (.i2l, 1) := by decide +kernel
theorem dX11_notesWeigh_68 : decode cX11_notesWeigh 68 = .ok (.lmul, 1) := by decide +kernel
theorem dX11_notesWeigh_69 : decode cX11_notesWeigh 69 = .ok (.lstore_n 3, 1) := by decide +kernel
theorem dX11_notesWeigh_70 : decode cX11_notesWeigh 70 = .ok (.goto 70, 3) := by decide +kernel
theorem dX11_notesWeigh_73 : decode cX11_notesWeigh 73 = .ok (.aload_n 0, 1) := by decide +kernel
theorem dX11_notesWeigh_74 : decode cX11_notesWeigh 74 = .ok (.getfield 37, 3) := by decide +kernel
theorem dX11_notesWeigh_77 : decode cX11_notesWeigh 77 = .ok (.iload 5, 2) := by decide +kernel
theorem dX11_notesWeigh_79 : decode cX11_notesWeigh 79 = .ok (.iaload, 1) := by decide +kernel
theorem dX11_notesWeigh_80 : decode cX11_notesWeigh 80 = .ok (.iload_n 1, 1) := by decide +kernel
theorem dX11_notesWeigh_81 : decode cX11_notesWeigh 81 = .ok (.if_icmp .ne 59, 3) := by decide +kernel
theorem dX11_notesWeigh_84 : decode cX11_notesWeigh 84 = .ok (.lload_n 3, 1) := by decide +kernel
theorem dX11_notesWeigh_85 : decode cX11_notesWeigh 85 = .ok (.aload_n 0, 1) := by decide +kernel
theorem dX11_notesWeigh_86 : decode cX11_notesWeigh 86 = .ok (.getfield 13, 3) := by decide +kernel
theorem dX11_notesWeigh_89 : decode cX11_notesWeigh 89 = .ok (.iload_n 2, 1) := by decide +kernel
theorem dX11_notesWeigh_90 : decode cX11_notesWeigh 90 = .ok (.iaload, 1) := by decide +kernel
theorem dX11_notesWeigh_91 : decode cX11_notesWeigh 91 = .ok (.iconst 4, 1) := by decide +kernel
theorem dX11_notesWeigh_92 : decode cX11_notesWeigh 92 = .ok (.if_icmp .eq 13, 3) := by decide +kernel
theorem dX11_notesWeigh_95 : decode cX11_notesWeigh 95 = .ok (.aload_n 0, 1) := by decide +kernel
theorem dX11_notesWeigh_96 : decode cX11_notesWeigh 96 = .ok (.getfield 31, 3) := by decide +kernel
theorem dX11_notesWeigh_99 : decode cX11_notesWeigh 99 = .ok (.iconst 2, 1) := by decide +kernel
theorem dX11_notesWeigh_100 : decode cX11_notesWeigh 100 = .ok (.iaload, 1) := by decide +kernel
theorem dX11_notesWeigh_101 : decode cX11_notesWeigh 101 = .ok (.i2l, 1) := by decide +kernel
theorem dX11_notesWeigh_102 : decode cX11_notesWeigh 102 = .ok (.goto 36, 3) := by decide +kernel
theorem dX11_notesWeigh_105 : decode cX11_notesWeigh 105 = .ok (.aload_n 0, 1) := by decide +kernel
theorem dX11_notesWeigh_106 : decode cX11_notesWeigh 106 = .ok (.getfield 16, 3) := by decide +kernel
theorem dX11_notesWeigh_109 : decode cX11_notesWeigh 109 = .ok (.iload_n 2, 1) := by decide +kernel
theorem dX11_notesWeigh_110 : decode cX11_notesWeigh 110 = .ok (.iaload, 1) := by decide +kernel
theorem dX11_notesWeigh_111 : decode cX11_notesWeigh 111 = .ok (.aload_n 0, 1) := by decide +kernel
theorem dX11_notesWeigh_112 : decode cX11_notesWeigh 112 = .ok (.getfield 40, 3) := by decide +kernel
theorem dX11_notesWeigh_115 : decode cX11_notesWeigh 115 = .ok (.iload 5, 2) := by decide +kernel
theorem dX11_notesWeigh_117 : decode cX11_notesWeigh 117 = .ok (.iaload, 1) := by decide +kernel
theorem dX11_notesWeigh_118 : decode cX11_notesWeigh 118 = .ok (.if_icmp .ne 13, 3) := by decide +kernel
theorem dX11_notesWeigh_121 : decode cX11_notesWeigh 121 = .ok (.aload_n 0, 1) := by decide +kernel
theorem dX11_notesWeigh_122 : decode cX11_notesWeigh 122 = .ok (.getfield 31, 3) := by decide +kernel
theorem dX11_notesWeigh_125 : decode cX11_notesWeigh 125 = .ok (.iconst 0, 1) := by decide +kernel
theorem dX11_notesWeigh_126 : decode cX11_notesWeigh 126 = .ok (.iaload, 1) := by decide +kernel
theorem dX11_notesWeigh_127 : decode cX11_notesWeigh 127 = .ok (.i2l, 1) := by decide +kernel
theorem dX11_notesWeigh_128 : decode cX11_notesWeigh 128 = .ok (.goto 10, 3) := by decide +kernel
theorem dX11_notesWeigh_131 : decode cX11_notesWeigh 131 = .ok (.aload_n 0, 1) := by decide +kernel
theorem dX11_notesWeigh_132 : decode cX11_notesWeigh 132 = .ok (.getfield 31, 3) := by decide +kernel
theorem dX11_notesWeigh_135 : decode cX11_notesWeigh 135 = .ok (.iconst 1, 1) := by decide +kernel
theorem dX11_notesWeigh_136 : decode cX11_notesWeigh 136 = .ok (.iaload, 1) := by decide +kernel
theorem dX11_notesWeigh_137 : decode cX11_notesWeigh 137 = .ok (.i2l, 1) := by decide +kernel
theorem dX11_notesWeigh_138 : decode cX11_notesWeigh 138 = .ok (.lmul, 1) := by decide +kernel
theorem dX11_notesWeigh_139 : decode cX11_notesWeigh 139 = .ok (.lstore_n 3, 1) := by decide +kernel
theorem dX11_notesWeigh_140 : decode cX11_notesWeigh 140 = .ok (.iinc 5 1, 3) := by decide +kernel
theorem dX11_notesWeigh_143 : decode cX11_notesWeigh 143 = .ok (.goto (-138), 3) := by decide +kernel
theorem dX11_notesWeigh_146 : decode cX11_notesWeigh 146 = .ok (.lload_n 3, 1) := by decide +kernel
theorem dX11_notesWeigh_147 : decode cX11_notesWeigh 147 = .ok (.lreturn, 1) := by decide +kernel
theorem dX11_saysOdds_0 : decode cX11_saysOdds 0 = .ok (.aload_n 0, 1) := by decide +kernel
theorem dX11_saysOdds_1 : decode cX11_saysOdds 1 = .ok (.getfield 13, 3) := by decide +kernel
theorem dX11_saysOdds_4 : decode cX11_saysOdds 4 = .ok (.iload_n 1, 1) := by decide +kernel
theorem dX11_saysOdds_5 : decode cX11_saysOdds 5 = .ok (.iaload, 1) := by decide +kernel
theorem dX11_saysOdds_6 : decode cX11_saysOdds 6 = .ok (.istore_n 3, 1) := by decide +kernel
theorem dX11_saysOdds_7 : decode cX11_saysOdds 7 = .ok (.iload_n 3, 1) := by decide +kernel
theorem dX11_saysOdds_8 : decode cX11_saysOdds 8 = .ok (.iconst 2, 1) := by decide +kernel
theorem dX11_saysOdds_9 : decode cX11_saysOdds 9 = .ok (.if_icmp .le 14, 3) := by decide +kernel
theorem dX11_saysOdds_12 : decode cX11_saysOdds 12 = .ok (.iload_n 2, 1) := by decide +kernel
theorem dX11_saysOdds_13 : decode cX11_saysOdds 13 = .ok (.iconst 1, 1) := by decide +kernel
theorem dX11_saysOdds_14 : decode cX11_saysOdds 14 = .ok (.if_icmp .ne 7, 3) := by decide +kernel
theorem dX11_saysOdds_17 : decode cX11_saysOdds 17 = .ok (.iconst 1, 1) := by decide +kernel
theorem dX11_saysOdds_18 : decode cX11_saysOdds 18 = .ok (.goto 4, 3) := by decide +kernel
theorem dX11_saysOdds_21 : decode cX11_saysOdds 21 = .ok (.iconst 0, 1) := by decide +kernel
theorem dX11_saysOdds_22 : decode cX11_saysOdds 22 = .ok (.ireturn, 1) := by decide +kernel
theorem dX11_saysOdds_23 : decode cX11_saysOdds 23 = .ok (.iload_n 2, 1) := by decide +kernel
theorem dX11_saysOdds_24 : decode cX11_saysOdds 24 = .ok (.ifCond .ne 12, 3) := by decide +kernel
theorem dX11_saysOdds_27 : decode cX11_saysOdds 27 = .ok (.aload_n 0, 1) := by decide +kernel
theorem dX11_saysOdds_28 : decode cX11_saysOdds 28 = .ok (.getfield 25, 3) := by decide +kernel
theorem dX11_saysOdds_31 : decode cX11_saysOdds 31 = .ok (.iload_n 3, 1) := by decide +kernel
theorem dX11_saysOdds_32 : decode cX11_saysOdds 32 = .ok (.iaload, 1) := by decide +kernel
theorem dX11_saysOdds_33 : decode cX11_saysOdds 33 = .ok (.goto 33, 3) := by decide +kernel
theorem dX11_saysOdds_36 : decode cX11_saysOdds 36 = .ok (.iload_n 2, 1) := by decide +kernel
theorem dX11_saysOdds_37 : decode cX11_saysOdds 37 = .ok (.iconst 2, 1) := by decide +kernel
theorem dX11_saysOdds_38 : decode cX11_saysOdds 38 = .ok (.if_icmp .ne 12, 3) := by decide +kernel
theorem dX11_saysOdds_41 : decode cX11_saysOdds 41 = .ok (.aload_n 0, 1) := by decide +kernel
theorem dX11_saysOdds_42 : decode cX11_saysOdds 42 = .ok (.getfield 28, 3) := by decide +kernel
theorem dX11_saysOdds_45 : decode cX11_saysOdds 45 = .ok (.iload_n 3, 1) := by decide +kernel
theorem dX11_saysOdds_46 : decode cX11_saysOdds 46 = .ok (.iaload, 1) := by decide +kernel
theorem dX11_saysOdds_47 : decode cX11_saysOdds 47 = .ok (.goto 19, 3) := by decide +kernel
theorem dX11_saysOdds_50 : decode cX11_saysOdds 50 = .ok (.bipush 16, 2) := by decide +kernel
theorem dX11_saysOdds_52 : decode cX11_saysOdds 52 = .ok (.aload_n 0, 1) := by decide +kernel
theorem dX11_saysOdds_53 : decode cX11_saysOdds 53 = .ok (.getfield 25, 3) := by decide +kernel
theorem dX11_saysOdds_56 : decode cX11_saysOdds 56 = .ok (.iload_n 3, 1) := by decide +kernel
theorem dX11_saysOdds_57 : decode cX11_saysOdds 57 = .ok (.iaload, 1) := by decide +kernel
theorem dX11_saysOdds_58 : decode cX11_saysOdds 58 = .ok (.isub, 1) := by decide +kernel
theorem dX11_saysOdds_59 : decode cX11_saysOdds 59 = .ok (.aload_n 0, 1) := by decide +kernel
theorem dX11_saysOdds_60 : decode cX11_saysOdds 60 = .ok (.getfield 28, 3) := by decide +kernel
theorem dX11_saysOdds_63 : decode cX11_saysOdds 63 = .ok (.iload_n 3, 1) := by decide +kernel
theorem dX11_saysOdds_64 : decode cX11_saysOdds 64 = .ok (.iaload, 1) := by decide +kernel
theorem dX11_saysOdds_65 : decode cX11_saysOdds 65 = .ok (.isub, 1) := by decide +kernel
theorem dX11_saysOdds_66 : decode cX11_saysOdds 66 = .ok (.ireturn, 1) := by decide +kernel
theorem dX11_findsWhere_0 : decode cX11_findsWhere 0 = .ok (.aload_n 0, 1) := by decide +kernel
theorem dX11_findsWhere_1 : decode cX11_findsWhere 1 = .ok (.invokevirtual 121, 3) := by decide +kernel
theorem dX11_findsWhere_4 : decode cX11_findsWhere 4 = .ok (.lconst 1, 1) := by decide +kernel
theorem dX11_findsWhere_5 : decode cX11_findsWhere 5 = .ok (.lstore_n 2, 1) := by decide +kernel
theorem dX11_findsWhere_6 : decode cX11_findsWhere 6 = .ok (.iconst 0, 1) := by decide +kernel
theorem dX11_findsWhere_7 : decode cX11_findsWhere 7 = .ok (.istore 4, 2) := by decide +kernel
theorem dX11_findsWhere_9 : decode cX11_findsWhere 9 = .ok (.iload 4, 2) := by decide +kernel
theorem dX11_findsWhere_11 : decode cX11_findsWhere 11 = .ok (.aload_n 0, 1) := by decide +kernel
theorem dX11_findsWhere_12 : decode cX11_findsWhere 12 = .ok (.getfield 103, 3) := by decide +kernel
theorem dX11_findsWhere_15 : decode cX11_findsWhere 15 = .ok (.if_icmp .ge 15, 3) := by decide +kernel
theorem dX11_findsWhere_18 : decode cX11_findsWhere 18 = .ok (.lload_n 2, 1) := by decide +kernel
theorem dX11_findsWhere_19 : decode cX11_findsWhere 19 = .ok (.ldc2_w 151, 3) := by decide +kernel
theorem dX11_findsWhere_22 : decode cX11_findsWhere 22 = .ok (.lmul, 1) := by decide +kernel
theorem dX11_findsWhere_23 : decode cX11_findsWhere 23 = .ok (.lstore_n 2, 1) := by decide +kernel
theorem dX11_findsWhere_24 : decode cX11_findsWhere 24 = .ok (.iinc 4 1, 3) := by decide +kernel
theorem dX11_findsWhere_27 : decode cX11_findsWhere 27 = .ok (.goto (-18), 3) := by decide +kernel
theorem dX11_findsWhere_30 : decode cX11_findsWhere 30 = .ok (.iconst 0, 1) := by decide +kernel
theorem dX11_findsWhere_31 : decode cX11_findsWhere 31 = .ok (.istore 4, 2) := by decide +kernel
theorem dX11_findsWhere_33 : decode cX11_findsWhere 33 = .ok (.iload 4, 2) := by decide +kernel
theorem dX11_findsWhere_35 : decode cX11_findsWhere 35 = .ok (.bipush 112, 2) := by decide +kernel
theorem dX11_findsWhere_37 : decode cX11_findsWhere 37 = .ok (.if_icmp .ge 26, 3) := by decide +kernel
theorem dX11_findsWhere_40 : decode cX11_findsWhere 40 = .ok (.aload_n 0, 1) := by decide +kernel
theorem dX11_findsWhere_41 : decode cX11_findsWhere 41 = .ok (.getfield 46, 3) := by decide +kernel
theorem dX11_findsWhere_44 : decode cX11_findsWhere 44 = .ok (.iload 4, 2) := by decide +kernel
theorem dX11_findsWhere_46 : decode cX11_findsWhere 46 = .ok (.iload 4, 2) := by decide +kernel
theorem dX11_findsWhere_48 : decode cX11_findsWhere 48 = .ok (.ifCond .ne 7, 3) := by decide +kernel
theorem dX11_findsWhere_51 : decode cX11_findsWhere 51 = .ok (.lconst 1, 1) := by decide +kernel
theorem dX11_findsWhere_52 : decode cX11_findsWhere 52 = .ok (.goto 4, 3) := by decide +kernel
theorem dX11_findsWhere_55 : decode cX11_findsWhere 55 = .ok (.lconst 0, 1) := by decide +kernel
theorem dX11_findsWhere_56 : decode cX11_findsWhere 56 = .ok (.lastore, 1) := by decide +kernel
theorem dX11_findsWhere_57 : decode cX11_findsWhere 57 = .ok (.iinc 4 1, 3) := by decide +kernel
theorem dX11_findsWhere_60 : decode cX11_findsWhere 60 = .ok (.goto (-27), 3) := by decide +kernel
theorem dX11_findsWhere_63 : decode cX11_findsWhere 63 = .ok (.aload_n 0, 1) := by decide +kernel
theorem dX11_findsWhere_64 : decode cX11_findsWhere 64 = .ok (.lconst 0, 1) := by decide +kernel
theorem dX11_findsWhere_65 : decode cX11_findsWhere 65 = .ok (.putfield 153, 3) := by decide +kernel
theorem dX11_findsWhere_68 : decode cX11_findsWhere 68 = .ok (.iconst 0, 1) := by decide +kernel
theorem dX11_findsWhere_69 : decode cX11_findsWhere 69 = .ok (.istore 4, 2) := by decide +kernel
theorem dX11_findsWhere_71 : decode cX11_findsWhere 71 = .ok (.iload 4, 2) := by decide +kernel
theorem dX11_findsWhere_73 : decode cX11_findsWhere 73 = .ok (.aload_n 0, 1) := by decide +kernel
theorem dX11_findsWhere_74 : decode cX11_findsWhere 74 = .ok (.getfield 97, 3) := by decide +kernel
theorem dX11_findsWhere_77 : decode cX11_findsWhere 77 = .ok (.if_icmp .ge 260, 3) := by decide +kernel
theorem dX11_findsWhere_80 : decode cX11_findsWhere 80 = .ok (.lload_n 2, 1) := by decide +kernel
theorem dX11_findsWhere_81 : decode cX11_findsWhere 81 = .ok (.aload_n 0, 1) := by decide +kernel
theorem dX11_findsWhere_82 : decode cX11_findsWhere 82 = .ok (.getfield 13, 3) := by decide +kernel
theorem dX11_findsWhere_85 : decode cX11_findsWhere 85 = .ok (.iload 4, 2) := by decide +kernel
theorem dX11_findsWhere_87 : decode cX11_findsWhere 87 = .ok (.iaload, 1) := by decide +kernel
theorem dX11_findsWhere_88 : decode cX11_findsWhere 88 = .ok (.iconst 3, 1) := by decide +kernel
theorem dX11_findsWhere_89 : decode cX11_findsWhere 89 = .ok (.if_icmp .ge 9, 3) := by decide +kernel
theorem dX11_findsWhere_92 : decode cX11_findsWhere 92 = .ok (.ldc2_w 151, 3) := by decide +kernel
theorem dX11_findsWhere_95 : decode cX11_findsWhere 95 = .ok (.goto 4, 3) := by decide +kernel
theorem dX11_findsWhere_98 : decode cX11_findsWhere 98 = .ok (.lconst 1, 1) := by decide +kernel
theorem dX11_findsWhere_99 : decode cX11_findsWhere 99 = .ok (.ldiv, 1) := by decide +kernel
theorem dX11_findsWhere_100 : decode cX11_findsWhere 100 = .ok (.lstore_n 2, 1) := by decide +kernel
theorem dX11_findsWhere_101 : decode cX11_findsWhere 101 = .ok (.aload_n 0, 1) := by decide +kernel
theorem dX11_findsWhere_102 : decode cX11_findsWhere 102 = .ok (.getfield 53, 3) := by decide +kernel
theorem dX11_findsWhere_105 : decode cX11_findsWhere 105 = .ok (.iload 4, 2) := by decide +kernel
theorem dX11_findsWhere_107 : decode cX11_findsWhere 107 = .ok (.lconst 0, 1) := by decide +kernel
theorem dX11_findsWhere_108 : decode cX11_findsWhere 108 = .ok (.lastore, 1) := by decide +kernel
theorem dX11_findsWhere_109 : decode cX11_findsWhere 109 = .ok (.iconst 0, 1) := by decide +kernel
theorem dX11_findsWhere_110 : decode cX11_findsWhere 110 = .ok (.istore 5, 2) := by decide +kernel
theorem dX11_findsWhere_112 : decode cX11_findsWhere 112 = .ok (.iload 5, 2) := by decide +kernel
theorem dX11_findsWhere_114 : decode cX11_findsWhere 114 = .ok (.bipush 112, 2) := by decide +kernel
theorem dX11_findsWhere_116 : decode cX11_findsWhere 116 = .ok (.if_icmp .ge 17, 3) := by decide +kernel
theorem dX11_findsWhere_119 : decode cX11_findsWhere 119 = .ok (.aload_n 0, 1) := by decide +kernel
theorem dX11_findsWhere_120 : decode cX11_findsWhere 120 = .ok (.getfield 50, 3) := by decide +kernel
theorem dX11_findsWhere_123 : decode cX11_findsWhere 123 = .ok (.iload 5, 2) := by decide +kernel
theorem dX11_findsWhere_125 : decode cX11_findsWhere 125 = .ok (.lconst 0, 1) := by decide +kernel
theorem dX11_findsWhere_126 : decode cX11_findsWhere 126 = .ok (.lastore, 1) := by decide +kernel
theorem dX11_findsWhere_127 : decode cX11_findsWhere 127 = .ok (.iinc 5 1, 3) := by decide +kernel
theorem dX11_findsWhere_130 : decode cX11_findsWhere 130 = .ok (.goto (-18), 3) := by decide +kernel
theorem dX11_findsWhere_133 : decode cX11_findsWhere 133 = .ok (.iconst 0, 1) := by decide +kernel
theorem dX11_findsWhere_134 : decode cX11_findsWhere 134 = .ok (.istore 5, 2) := by decide +kernel
theorem dX11_findsWhere_136 : decode cX11_findsWhere 136 = .ok (.iload 5, 2) := by decide +kernel
theorem dX11_findsWhere_138 : decode cX11_findsWhere 138 = .ok (.iload_n 1, 1) := by decide +kernel
theorem dX11_findsWhere_139 : decode cX11_findsWhere 139 = .ok (.if_icmp .ge 135, 3) := by decide +kernel
theorem dX11_findsWhere_142 : decode cX11_findsWhere 142 = .ok (.iconst 0, 1) := by decide +kernel
theorem dX11_findsWhere_143 : decode cX11_findsWhere 143 = .ok (.istore 6, 2) := by decide +kernel
theorem dX11_findsWhere_145 : decode cX11_findsWhere 145 = .ok (.iload 6, 2) := by decide +kernel
theorem dX11_findsWhere_147 : decode cX11_findsWhere 147 = .ok (.iconst 3, 1) := by decide +kernel
theorem dX11_findsWhere_148 : decode cX11_findsWhere 148 = .ok (.if_icmp .ge 120, 3) := by decide +kernel
theorem dX11_findsWhere_151 : decode cX11_findsWhere 151 = .ok (.aload_n 0, 1) := by decide +kernel
theorem dX11_findsWhere_152 : decode cX11_findsWhere 152 = .ok (.getfield 46, 3) := by decide +kernel
theorem dX11_findsWhere_155 : decode cX11_findsWhere 155 = .ok (.iload 5, 2) := by decide +kernel
theorem dX11_findsWhere_157 : decode cX11_findsWhere 157 = .ok (.laload, 1) := by decide +kernel
theorem dX11_findsWhere_158 : decode cX11_findsWhere 158 = .ok (.lconst 0, 1) := by decide +kernel
theorem dX11_findsWhere_159 : decode cX11_findsWhere 159 = .ok (.lcmp, 1) := by decide +kernel
theorem dX11_findsWhere_160 : decode cX11_findsWhere 160 = .ok (.ifCond .le 108, 3) := by decide +kernel
theorem dX11_findsWhere_163 : decode cX11_findsWhere 163 = .ok (.aload_n 0, 1) := by decide +kernel
theorem dX11_findsWhere_164 : decode cX11_findsWhere 164 = .ok (.getfield 46, 3) := by decide +kernel
theorem dX11_findsWhere_167 : decode cX11_findsWhere 167 = .ok (.iload 5, 2) := by decide +kernel
theorem dX11_findsWhere_169 : decode cX11_findsWhere 169 = .ok (.laload, 1) := by decide +kernel
theorem dX11_findsWhere_170 : decode cX11_findsWhere 170 = .ok (.aload_n 0, 1) := by decide +kernel
theorem dX11_findsWhere_171 : decode cX11_findsWhere 171 = .ok (.iload 4, 2) := by decide +kernel
theorem dX11_findsWhere_173 : decode cX11_findsWhere 173 = .ok (.iload 6, 2) := by decide +kernel
theorem dX11_findsWhere_175 : decode cX11_findsWhere 175 = .ok (.invokevirtual 157, 3) := by decide +kernel
theorem dX11_findsWhere_178 : decode cX11_findsWhere 178 = .ok (.i2l, 1) := by decide +kernel
theorem dX11_findsWhere_179 : decode cX11_findsWhere 179 = .ok (.lmul, 1) := by decide +kernel
theorem dX11_findsWhere_180 : decode cX11_findsWhere 180 = .ok (.lstore 7, 2) := by decide +kernel
theorem dX11_findsWhere_182 : decode cX11_findsWhere 182 = .ok (.iconst 1, 1) := by decide +kernel
theorem dX11_findsWhere_183 : decode cX11_findsWhere 183 = .ok (.istore 9, 2) := by decide +kernel
theorem dX11_findsWhere_185 : decode cX11_findsWhere 185 = .ok (.iload 9, 2) := by decide +kernel
theorem dX11_findsWhere_187 : decode cX11_findsWhere 187 = .ok (.iload 6, 2) := by decide +kernel
theorem dX11_findsWhere_189 : decode cX11_findsWhere 189 = .ok (.if_icmp .gt 34, 3) := by decide +kernel
theorem dX11_findsWhere_192 : decode cX11_findsWhere 192 = .ok (.iload 5, 2) := by decide +kernel
theorem dX11_findsWhere_194 : decode cX11_findsWhere 194 = .ok (.iload 9, 2) := by decide +kernel
theorem dX11_findsWhere_196 : decode cX11_findsWhere 196 = .ok (.iadd, 1) := by decide +kernel
theorem dX11_findsWhere_197 : decode cX11_findsWhere 197 = .ok (.iload_n 1, 1) := by decide +kernel
theorem dX11_findsWhere_198 : decode cX11_findsWhere 198 = .ok (.if_icmp .gt 25, 3) := by decide +kernel
theorem dX11_findsWhere_201 : decode cX11_findsWhere 201 = .ok (.lload 7, 2) := by decide +kernel
theorem dX11_findsWhere_203 : decode cX11_findsWhere 203 = .ok (.aload_n 0, 1) := by decide +kernel
theorem dX11_findsWhere_204 : decode cX11_findsWhere 204 = .ok (.iload 5, 2) := by decide +kernel
theorem dX11_findsWhere_206 : decode cX11_findsWhere 206 = .ok (.iload 9, 2) := by decide +kernel
theorem dX11_findsWhere_208 : decode cX11_findsWhere 208 = .ok (.iadd, 1) := by decide +kernel
theorem dX11_findsWhere_209 : decode cX11_findsWhere 209 = .ok (.iload 4, 2) := by decide +kernel
theorem dX11_findsWhere_211 : decode cX11_findsWhere 211 = .ok (.invokevirtual 160, 3) := by decide +kernel
theorem dX11_findsWhere_214 : decode cX11_findsWhere 214 = .ok (.lmul, 1) := by decide +kernel
theorem dX11_findsWhere_215 : decode cX11_findsWhere 215 = .ok (.lstore 7, 2) := by decide +kernel
theorem dX11_findsWhere_217 : decode cX11_findsWhere 217 = .ok (.iinc 9 1, 3) := by decide +kernel
theorem dX11_findsWhere_220 : decode cX11_findsWhere 220 = .ok (.goto (-35), 3) := by decide +kernel
theorem dX11_findsWhere_223 : decode cX11_findsWhere 223 = .ok (.iload 5, 2) := by decide +kernel
theorem dX11_findsWhere_225 : decode cX11_findsWhere 225 = .ok (.iload 6, 2) := by decide +kernel
theorem dX11_findsWhere_227 : decode cX11_findsWhere 227 = .ok (.iadd, 1) := by decide +kernel
theorem dX11_findsWhere_228 : decode cX11_findsWhere 228 = .ok (.iload_n 1, 1) := by decide +kernel
theorem dX11_findsWhere_229 : decode cX11_findsWhere 229 = .ok (.if_icmp .lt 18, 3) := by decide +kernel
theorem dX11_findsWhere_232 : decode cX11_findsWhere 232 = .ok (.aload_n 0, 1) := by decide +kernel
theorem dX11_findsWhere_233 : decode cX11_findsWhere 233 = .ok (.getfield 53, 3) := by decide +kernel
theorem dX11_findsWhere_236 : decode cX11_findsWhere 236 = .ok (.iload 4, 2) := by decide +kernel
theorem dX11_findsWhere_238 : decode cX11_findsWhere 238 = .ok (.dup2, 1) := by decide +kernel
theorem dX11_findsWhere_239 : decode cX11_findsWhere 239 = .ok (.laload, 1) := by decide +kernel
theorem dX11_findsWhere_240 : decode cX11_findsWhere 240 = .ok (.lload 7, 2) := by decide +kernel
theorem dX11_findsWhere_242 : decode cX11_findsWhere 242 = .ok (.ladd, 1) := by decide +kernel
theorem dX11_findsWhere_243 : decode cX11_findsWhere 243 = .ok (.lastore, 1) := by decide +kernel
theorem dX11_findsWhere_244 : decode cX11_findsWhere 244 = .ok (.goto 18, 3) := by decide +kernel
theorem dX11_findsWhere_247 : decode cX11_findsWhere 247 = .ok (.aload_n 0, 1) := by decide +kernel
theorem dX11_findsWhere_248 : decode cX11_findsWhere 248 = .ok (.getfield 50, 3) := by decide +kernel
theorem dX11_findsWhere_251 : decode cX11_findsWhere 251 = .ok (.iload 5, 2) := by decide +kernel
theorem dX11_findsWhere_253 : decode cX11_findsWhere 253 = .ok (.iload 6, 2) := by decide +kernel
theorem dX11_findsWhere_255 : decode cX11_findsWhere 255 = .ok (.iadd, 1) := by decide +kernel
theorem dX11_findsWhere_256 : decode cX11_findsWhere 256 = .ok (.dup2, 1) := by decide +kernel
theorem dX11_findsWhere_257 : decode cX11_findsWhere 257 = .ok (.laload, 1) := by decide +kernel
theorem dX11_findsWhere_258 : decode cX11_findsWhere 258 = .ok (.lload 7, 2) := by decide +kernel
theorem dX11_findsWhere_260 : decode cX11_findsWhere 260 = .ok (.ladd, 1) := by decide +kernel
theorem dX11_findsWhere_261 : decode cX11_findsWhere 261 = .ok (.lastore, 1) := by decide +kernel
theorem dX11_findsWhere_262 : decode cX11_findsWhere 262 = .ok (.iinc 6 1, 3) := by decide +kernel
theorem dX11_findsWhere_265 : decode cX11_findsWhere 265 = .ok (.goto (-120), 3) := by decide +kernel
theorem dX11_findsWhere_268 : decode cX11_findsWhere 268 = .ok (.iinc 5 1, 3) := by decide +kernel
theorem dX11_findsWhere_271 : decode cX11_findsWhere 271 = .ok (.goto (-135), 3) := by decide +kernel
theorem dX11_findsWhere_274 : decode cX11_findsWhere 274 = .ok (.iconst 0, 1) := by decide +kernel
theorem dX11_findsWhere_275 : decode cX11_findsWhere 275 = .ok (.istore 5, 2) := by decide +kernel
theorem dX11_findsWhere_277 : decode cX11_findsWhere 277 = .ok (.iload 5, 2) := by decide +kernel
theorem dX11_findsWhere_279 : decode cX11_findsWhere 279 = .ok (.bipush 112, 2) := by decide +kernel
theorem dX11_findsWhere_281 : decode cX11_findsWhere 281 = .ok (.if_icmp .ge 23, 3) := by decide +kernel
theorem dX11_findsWhere_284 : decode cX11_findsWhere 284 = .ok (.aload_n 0, 1) := by decide +kernel
theorem dX11_findsWhere_285 : decode cX11_findsWhere 285 = .ok (.getfield 46, 3) := by decide +kernel
theorem dX11_findsWhere_288 : decode cX11_findsWhere 288 = .ok (.iload 5, 2) := by decide +kernel
theorem dX11_findsWhere_290 : decode cX11_findsWhere 290 = .ok (.aload_n 0, 1) := by decide +kernel
theorem dX11_findsWhere_291 : decode cX11_findsWhere 291 = .ok (.getfield 50, 3) := by decide +kernel
theorem dX11_findsWhere_294 : decode cX11_findsWhere 294 = .ok (.iload 5, 2) := by decide +kernel
theorem dX11_findsWhere_296 : decode cX11_findsWhere 296 = .ok (.laload, 1) := by decide +kernel
theorem dX11_findsWhere_297 : decode cX11_findsWhere 297 = .ok (.lastore, 1) := by decide +kernel
theorem dX11_findsWhere_298 : decode cX11_findsWhere 298 = .ok (.iinc 5 1, 3) := by decide +kernel
theorem dX11_findsWhere_301 : decode cX11_findsWhere 301 = .ok (.goto (-24), 3) := by decide +kernel
theorem dX11_findsWhere_304 : decode cX11_findsWhere 304 = .ok (.aload_n 0, 1) := by decide +kernel
theorem dX11_findsWhere_305 : decode cX11_findsWhere 305 = .ok (.getfield 53, 3) := by decide +kernel
theorem dX11_findsWhere_308 : decode cX11_findsWhere 308 = .ok (.iload 4, 2) := by decide +kernel
theorem dX11_findsWhere_310 : decode cX11_findsWhere 310 = .ok (.dup2, 1) := by decide +kernel
theorem dX11_findsWhere_311 : decode cX11_findsWhere 311 = .ok (.laload, 1) := by decide +kernel
theorem dX11_findsWhere_312 : decode cX11_findsWhere 312 = .ok (.lload_n 2, 1) := by decide +kernel
theorem dX11_findsWhere_313 : decode cX11_findsWhere 313 = .ok (.lmul, 1) := by decide +kernel
theorem dX11_findsWhere_314 : decode cX11_findsWhere 314 = .ok (.lastore, 1) := by decide +kernel
theorem dX11_findsWhere_315 : decode cX11_findsWhere 315 = .ok (.aload_n 0, 1) := by decide +kernel
theorem dX11_findsWhere_316 : decode cX11_findsWhere 316 = .ok (.dup, 1) := by decide +kernel
theorem dX11_findsWhere_317 : decode cX11_findsWhere 317 = .ok (.getfield 153, 3) := by decide +kernel
theorem dX11_findsWhere_320 : decode cX11_findsWhere 320 = .ok (.aload_n 0, 1) := by decide +kernel
theorem dX11_findsWhere_321 : decode cX11_findsWhere 321 = .ok (.getfield 53, 3) := by decide +kernel
theorem dX11_findsWhere_324 : decode cX11_findsWhere 324 = .ok (.iload 4, 2) := by decide +kernel
theorem dX11_findsWhere_326 : decode cX11_findsWhere 326 = .ok (.laload, 1) := by decide +kernel
theorem dX11_findsWhere_327 : decode cX11_findsWhere 327 = .ok (.ladd, 1) := by decide +kernel
theorem dX11_findsWhere_328 : decode cX11_findsWhere 328 = .ok (.putfield 153, 3) := by decide +kernel
theorem dX11_findsWhere_331 : decode cX11_findsWhere 331 = .ok (.iinc 4 1, 3) := by decide +kernel
theorem dX11_findsWhere_334 : decode cX11_findsWhere 334 = .ok (.goto (-263), 3) := by decide +kernel
theorem dX11_findsWhere_337 : decode cX11_findsWhere 337 = .ok (.return_, 1) := by decide +kernel
theorem dX11_whereOf_0 : decode cX11_whereOf 0 = .ok (.aload_n 0, 1) := by decide +kernel
theorem dX11_whereOf_1 : decode cX11_whereOf 1 = .ok (.iload_n 1, 1) := by decide +kernel
theorem dX11_whereOf_2 : decode cX11_whereOf 2 = .ok (.invokevirtual 164, 3) := by decide +kernel
theorem dX11_whereOf_5 : decode cX11_whereOf 5 = .ok (.aload_n 0, 1) := by decide +kernel
theorem dX11_whereOf_6 : decode cX11_whereOf 6 = .ok (.getfield 153, 3) := by decide +kernel
theorem dX11_whereOf_9 : decode cX11_whereOf 9 = .ok (.lconst 0, 1) := by decide +kernel
theorem dX11_whereOf_10 : decode cX11_whereOf 10 = .ok (.lcmp, 1) := by decide +kernel
theorem dX11_whereOf_11 : decode cX11_whereOf 11 = .ok (.ifCond .ne 11, 3) := by decide +kernel
theorem dX11_whereOf_14 : decode cX11_whereOf 14 = .ok (.bipush (-3), 2) := by decide +kernel
theorem dX11_whereOf_16 : decode cX11_whereOf 16 = .ok (.invokestatic 168, 3) := by decide +kernel
theorem dX11_whereOf_19 : decode cX11_whereOf 19 = .ok (.goto 17, 3) := by decide +kernel
theorem dX11_whereOf_22 : decode cX11_whereOf 22 = .ok (.aload_n 0, 1) := by decide +kernel
theorem dX11_whereOf_23 : decode cX11_whereOf 23 = .ok (.getfield 53, 3) := by decide +kernel
theorem dX11_whereOf_26 : decode cX11_whereOf 26 = .ok (.iload_n 2, 1) := by decide +kernel
theorem dX11_whereOf_27 : decode cX11_whereOf 27 = .ok (.laload, 1) := by decide +kernel
theorem dX11_whereOf_28 : decode cX11_whereOf 28 = .ok (.aload_n 0, 1) := by decide +kernel
theorem dX11_whereOf_29 : decode cX11_whereOf 29 = .ok (.getfield 153, 3) := by decide +kernel
theorem dX11_whereOf_32 : decode cX11_whereOf 32 = .ok (.iload_n 3, 1) := by decide +kernel
theorem dX11_whereOf_33 : decode cX11_whereOf 33 = .ok (.invokestatic 172, 3) := by decide +kernel
theorem dX11_whereOf_36 : decode cX11_whereOf 36 = .ok (.lreturn, 1) := by decide +kernel
theorem dX11_where_0 : decode cX11_where 0 = .ok (.iload_n 1, 1) := by decide +kernel
theorem dX11_where_1 : decode cX11_where 1 = .ok (.invokestatic 138, 3) := by decide +kernel
theorem dX11_where_4 : decode cX11_where 4 = .ok (.ifCond .eq 30, 3) := by decide +kernel
theorem dX11_where_7 : decode cX11_where 7 = .ok (.aload_n 0, 1) := by decide +kernel
theorem dX11_where_8 : decode cX11_where 8 = .ok (.iload_n 2, 1) := by decide +kernel
theorem dX11_where_9 : decode cX11_where 9 = .ok (.invokevirtual 124, 3) := by decide +kernel
theorem dX11_where_12 : decode cX11_where 12 = .ok (.ifCond .eq 22, 3) := by decide +kernel
theorem dX11_where_15 : decode cX11_where 15 = .ok (.iload_n 3, 1) := by decide +kernel
theorem dX11_where_16 : decode cX11_where 16 = .ok (.iconst 0, 1) := by decide +kernel
theorem dX11_where_17 : decode cX11_where 17 = .ok (.iconst 1, 1) := by decide +kernel
theorem dX11_where_18 : decode cX11_where 18 = .ok (.invokestatic 89, 3) := by decide +kernel
theorem dX11_where_21 : decode cX11_where 21 = .ok (.ifCond .eq 13, 3) := by decide +kernel
theorem dX11_where_24 : decode cX11_where 24 = .ok (.aload_n 0, 1) := by decide +kernel
theorem dX11_where_25 : decode cX11_where 25 = .ok (.iload_n 1, 1) := by decide +kernel
theorem dX11_where_26 : decode cX11_where 26 = .ok (.iload_n 2, 1) := by decide +kernel
theorem dX11_where_27 : decode cX11_where 27 = .ok (.iload_n 3, 1) := by decide +kernel
theorem dX11_where_28 : decode cX11_where 28 = .ok (.invokevirtual 176, 3) := by decide +kernel
theorem dX11_where_31 : decode cX11_where 31 = .ok (.goto 8, 3) := by decide +kernel
theorem dX11_where_34 : decode cX11_where 34 = .ok (.bipush (-2), 2) := by decide +kernel
theorem dX11_where_36 : decode cX11_where 36 = .ok (.invokestatic 168, 3) := by decide +kernel
theorem dX11_where_39 : decode cX11_where 39 = .ok (.lreturn, 1) := by decide +kernel
theorem dX11_likeliestOf_0 : decode cX11_likeliestOf 0 = .ok (.aload_n 0, 1) := by decide +kernel
theorem dX11_likeliestOf_1 : decode cX11_likeliestOf 1 = .ok (.iload_n 1, 1) := by decide +kernel
theorem dX11_likeliestOf_2 : decode cX11_likeliestOf 2 = .ok (.invokevirtual 164, 3) := by decide +kernel
theorem dX11_likeliestOf_5 : decode cX11_likeliestOf 5 = .ok (.aload_n 0, 1) := by decide +kernel
theorem dX11_likeliestOf_6 : decode cX11_likeliestOf 6 = .ok (.getfield 153, 3) := by decide +kernel
theorem dX11_likeliestOf_9 : decode cX11_likeliestOf 9 = .ok (.lconst 0, 1) := by decide +kernel
theorem dX11_likeliestOf_10 : decode cX11_likeliestOf 10 = .ok (.lcmp, 1) := by decide +kernel
theorem dX11_likeliestOf_11 : decode cX11_likeliestOf 11 = .ok (.ifCond .ne 6, 3) := by decide +kernel
theorem dX11_likeliestOf_14 : decode cX11_likeliestOf 14 = .ok (.bipush (-3), 2) := by decide +kernel
theorem dX11_likeliestOf_16 : decode cX11_likeliestOf 16 = .ok (.ireturn, 1) := by decide +kernel
theorem dX11_likeliestOf_17 : decode cX11_likeliestOf 17 = .ok (.iconst 0, 1) := by decide +kernel
theorem dX11_likeliestOf_18 : decode cX11_likeliestOf 18 = .ok (.istore_n 2, 1) := by decide +kernel
theorem dX11_likeliestOf_19 : decode cX11_likeliestOf 19 = .ok (.iconst 1, 1) := by decide +kernel
theorem dX11_likeliestOf_20 : decode cX11_likeliestOf 20 = .ok (.istore_n 3, 1) := by decide +kernel
theorem dX11_likeliestOf_21 : decode cX11_likeliestOf 21 = .ok (.iload_n 3, 1) := by decide +kernel
theorem dX11_likeliestOf_22 : decode cX11_likeliestOf 22 = .ok (.aload_n 0, 1) := by decide +kernel
theorem dX11_likeliestOf_23 : decode cX11_likeliestOf 23 = .ok (.getfield 97, 3) := by decide +kernel
theorem dX11_likeliestOf_26 : decode cX11_likeliestOf 26 = .ok (.if_icmp .ge 31, 3) := by decide +kernel
theorem dX11_likeliestOf_29 : decode cX11_likeliestOf 29 = .ok (.aload_n 0, 1) := by decide +kernel
theorem dX11_likeliestOf_30 : decode cX11_likeliestOf 30 = .ok (.getfield 53, 3) := by decide +kernel
theorem dX11_likeliestOf_33 : decode cX11_likeliestOf 33 = .ok (.iload_n 3, 1) := by decide +kernel
theorem dX11_likeliestOf_34 : decode cX11_likeliestOf 34 = .ok (.laload, 1) := by decide +kernel
theorem dX11_likeliestOf_35 : decode cX11_likeliestOf 35 = .ok (.aload_n 0, 1) := by decide +kernel
theorem dX11_likeliestOf_36 : decode cX11_likeliestOf 36 = .ok (.getfield 53, 3) := by decide +kernel
theorem dX11_likeliestOf_39 : decode cX11_likeliestOf 39 = .ok (.iload_n 2, 1) := by decide +kernel
theorem dX11_likeliestOf_40 : decode cX11_likeliestOf 40 = .ok (.laload, 1) := by decide +kernel
theorem dX11_likeliestOf_41 : decode cX11_likeliestOf 41 = .ok (.lcmp, 1) := by decide +kernel
theorem dX11_likeliestOf_42 : decode cX11_likeliestOf 42 = .ok (.ifCond .le 7, 3) := by decide +kernel
theorem dX11_likeliestOf_45 : decode cX11_likeliestOf 45 = .ok (.iload_n 3, 1) := by decide +kernel
theorem dX11_likeliestOf_46 : decode cX11_likeliestOf 46 = .ok (.goto 4, 3) := by decide +kernel
theorem dX11_likeliestOf_49 : decode cX11_likeliestOf 49 = .ok (.iload_n 2, 1) := by decide +kernel
theorem dX11_likeliestOf_50 : decode cX11_likeliestOf 50 = .ok (.istore_n 2, 1) := by decide +kernel
theorem dX11_likeliestOf_51 : decode cX11_likeliestOf 51 = .ok (.iinc 3 1, 3) := by decide +kernel
theorem dX11_likeliestOf_54 : decode cX11_likeliestOf 54 = .ok (.goto (-33), 3) := by decide +kernel
theorem dX11_likeliestOf_57 : decode cX11_likeliestOf 57 = .ok (.iload_n 2, 1) := by decide +kernel
theorem dX11_likeliestOf_58 : decode cX11_likeliestOf 58 = .ok (.ireturn, 1) := by decide +kernel
theorem dX11_likeliest_0 : decode cX11_likeliest 0 = .ok (.iload_n 1, 1) := by decide +kernel
theorem dX11_likeliest_1 : decode cX11_likeliest 1 = .ok (.invokestatic 138, 3) := by decide +kernel
theorem dX11_likeliest_4 : decode cX11_likeliest 4 = .ok (.ifCond .eq 11, 3) := by decide +kernel
theorem dX11_likeliest_7 : decode cX11_likeliest 7 = .ok (.aload_n 0, 1) := by decide +kernel
theorem dX11_likeliest_8 : decode cX11_likeliest 8 = .ok (.iload_n 1, 1) := by decide +kernel
theorem dX11_likeliest_9 : decode cX11_likeliest 9 = .ok (.invokevirtual 180, 3) := by decide +kernel
theorem dX11_likeliest_12 : decode cX11_likeliest 12 = .ok (.goto 5, 3) := by decide +kernel
theorem dX11_likeliest_15 : decode cX11_likeliest 15 = .ok (.bipush (-2), 2) := by decide +kernel
theorem dX11_likeliest_17 : decode cX11_likeliest 17 = .ok (.ireturn, 1) := by decide +kernel
theorem dX11_strikeOf_0 : decode cX11_strikeOf 0 = .ok (.aload_n 0, 1) := by decide +kernel
theorem dX11_strikeOf_1 : decode cX11_strikeOf 1 = .ok (.iload_n 1, 1) := by decide +kernel
theorem dX11_strikeOf_2 : decode cX11_strikeOf 2 = .ok (.invokevirtual 164, 3) := by decide +kernel
theorem dX11_strikeOf_5 : decode cX11_strikeOf 5 = .ok (.aload_n 0, 1) := by decide +kernel
theorem dX11_strikeOf_6 : decode cX11_strikeOf 6 = .ok (.getfield 153, 3) := by decide +kernel
theorem dX11_strikeOf_9 : decode cX11_strikeOf 9 = .ok (.lconst 0, 1) := by decide +kernel
theorem dX11_strikeOf_10 : decode cX11_strikeOf 10 = .ok (.lcmp, 1) := by decide +kernel
theorem dX11_strikeOf_11 : decode cX11_strikeOf 11 = .ok (.ifCond .ne 11, 3) := by decide +kernel
theorem dX11_strikeOf_14 : decode cX11_strikeOf 14 = .ok (.bipush (-3), 2) := by decide +kernel
theorem dX11_strikeOf_16 : decode cX11_strikeOf 16 = .ok (.invokestatic 168, 3) := by decide +kernel
theorem dX11_strikeOf_19 : decode cX11_strikeOf 19 = .ok (.goto 35, 3) := by decide +kernel
theorem dX11_strikeOf_22 : decode cX11_strikeOf 22 = .ok (.aload_n 0, 1) := by decide +kernel
theorem dX11_strikeOf_23 : decode cX11_strikeOf 23 = .ok (.getfield 31, 3) := by decide +kernel
theorem dX11_strikeOf_26 : decode cX11_strikeOf 26 = .ok (.iconst 4, 1) := by decide +kernel
theorem dX11_strikeOf_27 : decode cX11_strikeOf 27 = .ok (.iaload, 1) := by decide +kernel
theorem dX11_strikeOf_28 : decode cX11_strikeOf 28 = .ok (.i2l, 1) := by decide +kernel
theorem dX11_strikeOf_29 : decode cX11_strikeOf 29 = .ok (.aload_n 0, 1) := by decide +kernel
theorem dX11_strikeOf_30 : decode cX11_strikeOf 30 = .ok (.getfield 153, 3) := by decide +kernel
theorem dX11_strikeOf_33 : decode cX11_strikeOf 33 = .ok (.aload_n 0, 1) := by decide +kernel
theorem dX11_strikeOf_34 : decode cX11_strikeOf 34 = .ok (.getfield 53, 3) := by decide +kernel
theorem dX11_strikeOf_37 : decode cX11_strikeOf 37 = .ok (.aload_n 0, 1) := by decide +kernel
theorem dX11_strikeOf_38 : decode cX11_strikeOf 38 = .ok (.getfield 97, 3) := by decide +kernel
theorem dX11_strikeOf_41 : decode cX11_strikeOf 41 = .ok (.iconst 1, 1) := by decide +kernel
theorem dX11_strikeOf_42 : decode cX11_strikeOf 42 = .ok (.isub, 1) := by decide +kernel
theorem dX11_strikeOf_43 : decode cX11_strikeOf 43 = .ok (.laload, 1) := by decide +kernel
theorem dX11_strikeOf_44 : decode cX11_strikeOf 44 = .ok (.lsub, 1) := by decide +kernel
theorem dX11_strikeOf_45 : decode cX11_strikeOf 45 = .ok (.lmul, 1) := by decide +kernel
theorem dX11_strikeOf_46 : decode cX11_strikeOf 46 = .ok (.aload_n 0, 1) := by decide +kernel
theorem dX11_strikeOf_47 : decode cX11_strikeOf 47 = .ok (.getfield 153, 3) := by decide +kernel
theorem dX11_strikeOf_50 : decode cX11_strikeOf 50 = .ok (.iload_n 2, 1) := by decide +kernel
theorem dX11_strikeOf_51 : decode cX11_strikeOf 51 = .ok (.invokestatic 172, 3) := by decide +kernel
theorem dX11_strikeOf_54 : decode cX11_strikeOf 54 = .ok (.lreturn, 1) := by decide +kernel
theorem dX11_strike_0 : decode cX11_strike 0 = .ok (.iload_n 1, 1) := by decide +kernel
theorem dX11_strike_1 : decode cX11_strike 1 = .ok (.invokestatic 138, 3) := by decide +kernel
theorem dX11_strike_4 : decode cX11_strike 4 = .ok (.ifCond .eq 21, 3) := by decide +kernel
theorem dX11_strike_7 : decode cX11_strike 7 = .ok (.iload_n 2, 1) := by decide +kernel
theorem dX11_strike_8 : decode cX11_strike 8 = .ok (.iconst 0, 1) := by decide +kernel
theorem dX11_strike_9 : decode cX11_strike 9 = .ok (.iconst 1, 1) := by decide +kernel
theorem dX11_strike_10 : decode cX11_strike 10 = .ok (.invokestatic 89, 3) := by decide +kernel
theorem dX11_strike_13 : decode cX11_strike 13 = .ok (.ifCond .eq 12, 3) := by decide +kernel
theorem dX11_strike_16 : decode cX11_strike 16 = .ok (.aload_n 0, 1) := by decide +kernel
theorem dX11_strike_17 : decode cX11_strike 17 = .ok (.iload_n 1, 1) := by decide +kernel
theorem dX11_strike_18 : decode cX11_strike 18 = .ok (.iload_n 2, 1) := by decide +kernel
theorem dX11_strike_19 : decode cX11_strike 19 = .ok (.invokevirtual 183, 3) := by decide +kernel
theorem dX11_strike_22 : decode cX11_strike 22 = .ok (.goto 8, 3) := by decide +kernel
theorem dX11_strike_25 : decode cX11_strike 25 = .ok (.bipush (-2), 2) := by decide +kernel
theorem dX11_strike_27 : decode cX11_strike 27 = .ok (.invokestatic 168, 3) := by decide +kernel
theorem dX11_strike_30 : decode cX11_strike 30 = .ok (.lreturn, 1) := by decide +kernel
theorem dX11_isLess_0 : decode cX11_isLess 0 = .ok (.lload_n 0, 1) := by decide +kernel
theorem dX11_isLess_1 : decode cX11_isLess 1 = .ok (.lstore 8, 2) := by decide +kernel
theorem dX11_isLess_3 : decode cX11_isLess 3 = .ok (.lload_n 2, 1) := by decide +kernel
theorem dX11_isLess_4 : decode cX11_isLess 4 = .ok (.lstore 10, 2) := by decide +kernel
theorem dX11_isLess_6 : decode cX11_isLess 6 = .ok (.lload 4, 2) := by decide +kernel
theorem dX11_isLess_8 : decode cX11_isLess 8 = .ok (.lstore 12, 2) := by decide +kernel
theorem dX11_isLess_10 : decode cX11_isLess 10 = .ok (.lload 6, 2) := by decide +kernel
theorem dX11_isLess_12 : decode cX11_isLess 12 = .ok (.lstore 14, 2) := by decide +kernel
theorem dX11_isLess_14 : decode cX11_isLess 14 = .ok (.iconst 0, 1) := by decide +kernel
theorem dX11_isLess_15 : decode cX11_isLess 15 = .ok (.istore 16, 2) := by decide +kernel
theorem dX11_isLess_17 : decode cX11_isLess 17 = .ok (.lload 8, 2) := by decide +kernel
theorem dX11_isLess_19 : decode cX11_isLess 19 = .ok (.lload 10, 2) := by decide +kernel
theorem dX11_isLess_21 : decode cX11_isLess 21 = .ok (.ldiv, 1) := by decide +kernel
theorem dX11_isLess_22 : decode cX11_isLess 22 = .ok (.lstore 17, 2) := by decide +kernel
theorem dX11_isLess_24 : decode cX11_isLess 24 = .ok (.lload 12, 2) := by decide +kernel
theorem dX11_isLess_26 : decode cX11_isLess 26 = .ok (.lload 14, 2) := by decide +kernel
theorem dX11_isLess_28 : decode cX11_isLess 28 = .ok (.ldiv, 1) := by decide +kernel
theorem dX11_isLess_29 : decode cX11_isLess 29 = .ok (.lstore 19, 2) := by decide +kernel
theorem dX11_isLess_31 : decode cX11_isLess 31 = .ok (.lload 17, 2) := by decide +kernel
theorem dX11_isLess_33 : decode cX11_isLess 33 = .ok (.lload 19, 2) := by decide +kernel
theorem dX11_isLess_35 : decode cX11_isLess 35 = .ok (.lcmp, 1) := by decide +kernel
theorem dX11_isLess_36 : decode cX11_isLess 36 = .ok (.ifCond .eq 27, 3) := by decide +kernel
theorem dX11_isLess_39 : decode cX11_isLess 39 = .ok (.lload 17, 2) := by decide +kernel
theorem dX11_isLess_41 : decode cX11_isLess 41 = .ok (.lload 19, 2) := by decide +kernel
theorem dX11_isLess_43 : decode cX11_isLess 43 = .ok (.lcmp, 1) := by decide +kernel
theorem dX11_isLess_44 : decode cX11_isLess 44 = .ok (.ifCond .ge 7, 3) := by decide +kernel
theorem dX11_isLess_47 : decode cX11_isLess 47 = .ok (.iconst 1, 1) := by decide +kernel
theorem dX11_isLess_48 : decode cX11_isLess 48 = .ok (.goto 4, 3) := by decide +kernel
theorem dX11_isLess_51 : decode cX11_isLess 51 = .ok (.iconst 0, 1) := by decide +kernel
theorem dX11_isLess_52 : decode cX11_isLess 52 = .ok (.iload 16, 2) := by decide +kernel
theorem dX11_isLess_54 : decode cX11_isLess 54 = .ok (.if_icmp .eq 7, 3) := by decide +kernel
theorem dX11_isLess_57 : decode cX11_isLess 57 = .ok (.iconst 1, 1) := by decide +kernel
theorem dX11_isLess_58 : decode cX11_isLess 58 = .ok (.goto 4, 3) := by decide +kernel
theorem dX11_isLess_61 : decode cX11_isLess 61 = .ok (.iconst 0, 1) := by decide +kernel
theorem dX11_isLess_62 : decode cX11_isLess 62 = .ok (.ireturn, 1) := by decide +kernel
theorem dX11_isLess_63 : decode cX11_isLess 63 = .ok (.lload 8, 2) := by decide +kernel
theorem dX11_isLess_65 : decode cX11_isLess 65 = .ok (.lload 10, 2) := by decide +kernel
theorem dX11_isLess_67 : decode cX11_isLess 67 = .ok (.lrem, 1) := by decide +kernel
theorem dX11_isLess_68 : decode cX11_isLess 68 = .ok (.lstore 8, 2) := by decide +kernel
theorem dX11_isLess_70 : decode cX11_isLess 70 = .ok (.lload 12, 2) := by decide +kernel
theorem dX11_isLess_72 : decode cX11_isLess 72 = .ok (.lload 14, 2) := by decide +kernel
theorem dX11_isLess_74 : decode cX11_isLess 74 = .ok (.lrem, 1) := by decide +kernel
theorem dX11_isLess_75 : decode cX11_isLess 75 = .ok (.lstore 12, 2) := by decide +kernel
theorem dX11_isLess_77 : decode cX11_isLess 77 = .ok (.lload 8, 2) := by decide +kernel
theorem dX11_isLess_79 : decode cX11_isLess 79 = .ok (.lconst 0, 1) := by decide +kernel
theorem dX11_isLess_80 : decode cX11_isLess 80 = .ok (.lcmp, 1) := by decide +kernel
theorem dX11_isLess_81 : decode cX11_isLess 81 = .ok (.ifCond .eq 10, 3) := by decide +kernel
theorem dX11_isLess_84 : decode cX11_isLess 84 = .ok (.lload 12, 2) := by decide +kernel
theorem dX11_isLess_86 : decode cX11_isLess 86 = .ok (.lconst 0, 1) := by decide +kernel
theorem dX11_isLess_87 : decode cX11_isLess 87 = .ok (.lcmp, 1) := by decide +kernel
theorem dX11_isLess_88 : decode cX11_isLess 88 = .ok (.ifCond .ne 50, 3) := by decide +kernel
theorem dX11_isLess_91 : decode cX11_isLess 91 = .ok (.iload 16, 2) := by decide +kernel
theorem dX11_isLess_93 : decode cX11_isLess 93 = .ok (.ifCond .eq 25, 3) := by decide +kernel
theorem dX11_isLess_96 : decode cX11_isLess 96 = .ok (.lload 12, 2) := by decide +kernel
theorem dX11_isLess_98 : decode cX11_isLess 98 = .ok (.lconst 0, 1) := by decide +kernel
theorem dX11_isLess_99 : decode cX11_isLess 99 = .ok (.lcmp, 1) := by decide +kernel
theorem dX11_isLess_100 : decode cX11_isLess 100 = .ok (.ifCond .ne 14, 3) := by decide +kernel
theorem dX11_isLess_103 : decode cX11_isLess 103 = .ok (.lload 8, 2) := by decide +kernel
theorem dX11_isLess_105 : decode cX11_isLess 105 = .ok (.lconst 0, 1) := by decide +kernel
theorem dX11_isLess_106 : decode cX11_isLess 106 = .ok (.lcmp, 1) := by decide +kernel
theorem dX11_isLess_107 : decode cX11_isLess 107 = .ok (.ifCond .le 7, 3) := by decide +kernel
theorem dX11_isLess_110 : decode cX11_isLess 110 = .ok (.iconst 1, 1) := by decide +kernel
theorem dX11_isLess_111 : decode cX11_isLess 111 = .ok (.goto 26, 3) := by decide +kernel
theorem dX11_isLess_114 : decode cX11_isLess 114 = .ok (.iconst 0, 1) := by decide +kernel
theorem dX11_isLess_115 : decode cX11_isLess 115 = .ok (.goto 22, 3) := by decide +kernel
theorem dX11_isLess_118 : decode cX11_isLess 118 = .ok (.lload 8, 2) := by decide +kernel
theorem dX11_isLess_120 : decode cX11_isLess 120 = .ok (.lconst 0, 1) := by decide +kernel
theorem dX11_isLess_121 : decode cX11_isLess 121 = .ok (.lcmp, 1) := by decide +kernel
theorem dX11_isLess_122 : decode cX11_isLess 122 = .ok (.ifCond .ne 14, 3) := by decide +kernel
theorem dX11_isLess_125 : decode cX11_isLess 125 = .ok (.lload 12, 2) := by decide +kernel
theorem dX11_isLess_127 : decode cX11_isLess 127 = .ok (.lconst 0, 1) := by decide +kernel
theorem dX11_isLess_128 : decode cX11_isLess 128 = .ok (.lcmp, 1) := by decide +kernel
theorem dX11_isLess_129 : decode cX11_isLess 129 = .ok (.ifCond .le 7, 3) := by decide +kernel
theorem dX11_isLess_132 : decode cX11_isLess 132 = .ok (.iconst 1, 1) := by decide +kernel
theorem dX11_isLess_133 : decode cX11_isLess 133 = .ok (.goto 4, 3) := by decide +kernel
theorem dX11_isLess_136 : decode cX11_isLess 136 = .ok (.iconst 0, 1) := by decide +kernel
theorem dX11_isLess_137 : decode cX11_isLess 137 = .ok (.ireturn, 1) := by decide +kernel
theorem dX11_isLess_138 : decode cX11_isLess 138 = .ok (.lload 8, 2) := by decide +kernel
theorem dX11_isLess_140 : decode cX11_isLess 140 = .ok (.lstore 21, 2) := by decide +kernel
theorem dX11_isLess_142 : decode cX11_isLess 142 = .ok (.lload 10, 2) := by decide +kernel
theorem dX11_isLess_144 : decode cX11_isLess 144 = .ok (.lstore 8, 2) := by decide +kernel
theorem dX11_isLess_146 : decode cX11_isLess 146 = .ok (.lload 21, 2) := by decide +kernel
theorem dX11_isLess_148 : decode cX11_isLess 148 = .ok (.lstore 10, 2) := by decide +kernel
theorem dX11_isLess_150 : decode cX11_isLess 150 = .ok (.lload 12, 2) := by decide +kernel
theorem dX11_isLess_152 : decode cX11_isLess 152 = .ok (.lstore 21, 2) := by decide +kernel
theorem dX11_isLess_154 : decode cX11_isLess 154 = .ok (.lload 14, 2) := by decide +kernel
theorem dX11_isLess_156 : decode cX11_isLess 156 = .ok (.lstore 12, 2) := by decide +kernel
theorem dX11_isLess_158 : decode cX11_isLess 158 = .ok (.lload 21, 2) := by decide +kernel
theorem dX11_isLess_160 : decode cX11_isLess 160 = .ok (.lstore 14, 2) := by decide +kernel
theorem dX11_isLess_162 : decode cX11_isLess 162 = .ok (.iload 16, 2) := by decide +kernel
theorem dX11_isLess_164 : decode cX11_isLess 164 = .ok (.ifCond .ne 7, 3) := by decide +kernel
theorem dX11_isLess_167 : decode cX11_isLess 167 = .ok (.iconst 1, 1) := by decide +kernel
theorem dX11_isLess_168 : decode cX11_isLess 168 = .ok (.goto 4, 3) := by decide +kernel
theorem dX11_isLess_171 : decode cX11_isLess 171 = .ok (.iconst 0, 1) := by decide +kernel
theorem dX11_isLess_172 : decode cX11_isLess 172 = .ok (.istore 16, 2) := by decide +kernel
theorem dX11_isLess_174 : decode cX11_isLess 174 = .ok (.goto (-157), 3) := by decide +kernel
theorem dX11_lineNow_0 : decode cX11_lineNow 0 = .ok (.iconst (-1), 1) := by decide +kernel
theorem dX11_lineNow_1 : decode cX11_lineNow 1 = .ok (.istore_n 1, 1) := by decide +kernel
theorem dX11_lineNow_2 : decode cX11_lineNow 2 = .ok (.lconst 0, 1) := by decide +kernel
theorem dX11_lineNow_3 : decode cX11_lineNow 3 = .ok (.lstore_n 2, 1) := by decide +kernel
theorem dX11_lineNow_4 : decode cX11_lineNow 4 = .ok (.lconst 1, 1) := by decide +kernel
theorem dX11_lineNow_5 : decode cX11_lineNow 5 = .ok (.lstore 4, 2) := by decide +kernel
theorem dX11_lineNow_7 : decode cX11_lineNow 7 = .ok (.iconst 1, 1) := by decide +kernel
theorem dX11_lineNow_8 : decode cX11_lineNow 8 = .ok (.istore 6, 2) := by decide +kernel
theorem dX11_lineNow_10 : decode cX11_lineNow 10 = .ok (.iload 6, 2) := by decide +kernel
theorem dX11_lineNow_12 : decode cX11_lineNow 12 = .ok (.bipush 110, 2) := by decide +kernel
theorem dX11_lineNow_14 : decode cX11_lineNow 14 = .ok (.if_icmp .gt 82, 3) := by decide +kernel
theorem dX11_lineNow_17 : decode cX11_lineNow 17 = .ok (.aload_n 0, 1) := by decide +kernel
theorem dX11_lineNow_18 : decode cX11_lineNow 18 = .ok (.iload 6, 2) := by decide +kernel
theorem dX11_lineNow_20 : decode cX11_lineNow 20 = .ok (.invokevirtual 164, 3) := by decide +kernel
theorem dX11_lineNow_23 : decode cX11_lineNow 23 = .ok (.aload_n 0, 1) := by decide +kernel
theorem dX11_lineNow_24 : decode cX11_lineNow 24 = .ok (.getfield 153, 3) := by decide +kernel
theorem dX11_lineNow_27 : decode cX11_lineNow 27 = .ok (.lconst 0, 1) := by decide +kernel
theorem dX11_lineNow_28 : decode cX11_lineNow 28 = .ok (.lcmp, 1) := by decide +kernel
theorem dX11_lineNow_29 : decode cX11_lineNow 29 = .ok (.ifCond .le 61, 3) := by decide +kernel
theorem dX11_lineNow_32 : decode cX11_lineNow 32 = .ok (.aload_n 0, 1) := by decide +kernel
theorem dX11_lineNow_33 : decode cX11_lineNow 33 = .ok (.getfield 31, 3) := by decide +kernel
theorem dX11_lineNow_36 : decode cX11_lineNow 36 = .ok (.iconst 4, 1) := by decide +kernel
theorem dX11_lineNow_37 : decode cX11_lineNow 37 = .ok (.iaload, 1) := by decide +kernel
theorem dX11_lineNow_38 : decode cX11_lineNow 38 = .ok (.i2l, 1) := by decide +kernel
theorem dX11_lineNow_39 : decode cX11_lineNow 39 = .ok (.aload_n 0, 1) := by decide +kernel
theorem dX11_lineNow_40 : decode cX11_lineNow 40 = .ok (.getfield 153, 3) := by decide +kernel
theorem dX11_lineNow_43 : decode cX11_lineNow 43 = .ok (.aload_n 0, 1) := by decide +kernel
theorem dX11_lineNow_44 : decode cX11_lineNow 44 = .ok (.getfield 53, 3) := by decide +kernel
theorem dX11_lineNow_47 : decode cX11_lineNow 47 = .ok (.aload_n 0, 1) := by decide +kernel
theorem dX11_lineNow_48 : decode cX11_lineNow 48 = .ok (.getfield 97, 3) := by decide +kernel
theorem dX11_lineNow_51 : decode cX11_lineNow 51 = .ok (.iconst 1, 1) := by decide +kernel
theorem dX11_lineNow_52 : decode cX11_lineNow 52 = .ok (.isub, 1) := by decide +kernel
theorem dX11_lineNow_53 : decode cX11_lineNow 53 = .ok (.laload, 1) := by decide +kernel
theorem dX11_lineNow_54 : decode cX11_lineNow 54 = .ok (.lsub, 1) := by decide +kernel
theorem dX11_lineNow_55 : decode cX11_lineNow 55 = .ok (.lmul, 1) := by decide +kernel
theorem dX11_lineNow_56 : decode cX11_lineNow 56 = .ok (.lstore 7, 2) := by decide +kernel
theorem dX11_lineNow_58 : decode cX11_lineNow 58 = .ok (.iload_n 1, 1) := by decide +kernel
theorem dX11_lineNow_59 : decode cX11_lineNow 59 = .ok (.iconst (-1), 1) := by decide +kernel
theorem dX11_lineNow_60 : decode cX11_lineNow 60 = .ok (.if_icmp .eq 18, 3) := by decide +kernel
theorem dX11_lineNow_63 : decode cX11_lineNow 63 = .ok (.lload 7, 2) := by decide +kernel
theorem dX11_lineNow_65 : decode cX11_lineNow 65 = .ok (.aload_n 0, 1) := by decide +kernel
theorem dX11_lineNow_66 : decode cX11_lineNow 66 = .ok (.getfield 153, 3) := by decide +kernel
theorem dX11_lineNow_69 : decode cX11_lineNow 69 = .ok (.lload_n 2, 1) := by decide +kernel
theorem dX11_lineNow_70 : decode cX11_lineNow 70 = .ok (.lload 4, 2) := by decide +kernel
theorem dX11_lineNow_72 : decode cX11_lineNow 72 = .ok (.invokestatic 186, 3) := by decide +kernel
theorem dX11_lineNow_75 : decode cX11_lineNow 75 = .ok (.ifCond .eq 15, 3) := by decide +kernel
theorem dX11_lineNow_78 : decode cX11_lineNow 78 = .ok (.iload 6, 2) := by decide +kernel
theorem dX11_lineNow_80 : decode cX11_lineNow 80 = .ok (.istore_n 1, 1) := by decide +kernel
theorem dX11_lineNow_81 : decode cX11_lineNow 81 = .ok (.lload 7, 2) := by decide +kernel
theorem dX11_lineNow_83 : decode cX11_lineNow 83 = .ok (.lstore_n 2, 1) := by decide +kernel
theorem dX11_lineNow_84 : decode cX11_lineNow 84 = .ok (.aload_n 0, 1) := by decide +kernel
theorem dX11_lineNow_85 : decode cX11_lineNow 85 = .ok (.getfield 153, 3) := by decide +kernel
theorem dX11_lineNow_88 : decode cX11_lineNow 88 = .ok (.lstore 4, 2) := by decide +kernel
theorem dX11_lineNow_90 : decode cX11_lineNow 90 = .ok (.iinc 6 1, 3) := by decide +kernel
theorem dX11_lineNow_93 : decode cX11_lineNow 93 = .ok (.goto (-83), 3) := by decide +kernel
theorem dX11_lineNow_96 : decode cX11_lineNow 96 = .ok (.iload_n 1, 1) := by decide +kernel
theorem dX11_lineNow_97 : decode cX11_lineNow 97 = .ok (.iconst (-1), 1) := by decide +kernel
theorem dX11_lineNow_98 : decode cX11_lineNow 98 = .ok (.if_icmp .eq 22, 3) := by decide +kernel
theorem dX11_lineNow_101 : decode cX11_lineNow 101 = .ok (.lload_n 2, 1) := by decide +kernel
theorem dX11_lineNow_102 : decode cX11_lineNow 102 = .ok (.aload_n 0, 1) := by decide +kernel
theorem dX11_lineNow_103 : decode cX11_lineNow 103 = .ok (.getfield 31, 3) := by decide +kernel
theorem dX11_lineNow_106 : decode cX11_lineNow 106 = .ok (.iconst 5, 1) := by decide +kernel
theorem dX11_lineNow_107 : decode cX11_lineNow 107 = .ok (.iaload, 1) := by decide +kernel
theorem dX11_lineNow_108 : decode cX11_lineNow 108 = .ok (.i2l, 1) := by decide +kernel
theorem dX11_lineNow_109 : decode cX11_lineNow 109 = .ok (.lload 4, 2) := by decide +kernel
theorem dX11_lineNow_111 : decode cX11_lineNow 111 = .ok (.lmul, 1) := by decide +kernel
theorem dX11_lineNow_112 : decode cX11_lineNow 112 = .ok (.lcmp, 1) := by decide +kernel
theorem dX11_lineNow_113 : decode cX11_lineNow 113 = .ok (.ifCond .ge 7, 3) := by decide +kernel
theorem dX11_lineNow_116 : decode cX11_lineNow 116 = .ok (.iload_n 1, 1) := by decide +kernel
theorem dX11_lineNow_117 : decode cX11_lineNow 117 = .ok (.goto 4, 3) := by decide +kernel
theorem dX11_lineNow_120 : decode cX11_lineNow 120 = .ok (.iconst (-1), 1) := by decide +kernel
theorem dX11_lineNow_121 : decode cX11_lineNow 121 = .ok (.ireturn, 1) := by decide +kernel
theorem dX11_line_0 : decode cX11_line 0 = .ok (.aload_n 0, 1) := by decide +kernel
theorem dX11_line_1 : decode cX11_line 1 = .ok (.invokevirtual 190, 3) := by decide +kernel
theorem dX11_line_4 : decode cX11_line 4 = .ok (.ireturn, 1) := by decide +kernel
theorem dX11_findsSlips_0 : decode cX11_findsSlips 0 = .ok (.iconst 0, 1) := by decide +kernel
theorem dX11_findsSlips_1 : decode cX11_findsSlips 1 = .ok (.istore 4, 2) := by decide +kernel
theorem dX11_findsSlips_3 : decode cX11_findsSlips 3 = .ok (.iload 4, 2) := by decide +kernel
theorem dX11_findsSlips_5 : decode cX11_findsSlips 5 = .ok (.bipush 21, 2) := by decide +kernel
theorem dX11_findsSlips_7 : decode cX11_findsSlips 7 = .ok (.if_icmp .ge 28, 3) := by decide +kernel
theorem dX11_findsSlips_10 : decode cX11_findsSlips 10 = .ok (.aload_n 0, 1) := by decide +kernel
theorem dX11_findsSlips_11 : decode cX11_findsSlips 11 = .ok (.getfield 56, 3) := by decide +kernel
theorem dX11_findsSlips_14 : decode cX11_findsSlips 14 = .ok (.iload 4, 2) := by decide +kernel
theorem dX11_findsSlips_16 : decode cX11_findsSlips 16 = .ok (.iload 4, 2) := by decide +kernel
theorem dX11_findsSlips_18 : decode cX11_findsSlips 18 = .ok (.bipush 10, 2) := by decide +kernel
theorem dX11_findsSlips_20 : decode cX11_findsSlips 20 = .ok (.if_icmp .ne 7, 3) := by decide +kernel
theorem dX11_findsSlips_23 : decode cX11_findsSlips 23 = .ok (.lconst 1, 1) := by decide +kernel
theorem dX11_findsSlips_24 : decode cX11_findsSlips 24 = .ok (.goto 4, 3) := by decide +kernel
theorem dX11_findsSlips_27 : decode cX11_findsSlips 27 = .ok (.lconst 0, 1) := by decide +kernel
theorem dX11_findsSlips_28 : decode cX11_findsSlips 28 = .ok (.lastore, 1) := by decide +kernel
theorem dX11_findsSlips_29 : decode cX11_findsSlips 29 = .ok (.iinc 4 1, 3) := by decide +kernel
theorem dX11_findsSlips_32 : decode cX11_findsSlips 32 = .ok (.goto (-29), 3) := by decide +kernel
theorem dX11_findsSlips_35 : decode cX11_findsSlips 35 = .ok (.aload_n 0, 1) := by decide +kernel
theorem dX11_findsSlips_36 : decode cX11_findsSlips 36 = .ok (.lconst 1, 1) := by decide +kernel
theorem dX11_findsSlips_37 : decode cX11_findsSlips 37 = .ok (.putfield 193, 3) := by decide +kernel
theorem dX11_findsSlips_40 : decode cX11_findsSlips 40 = .ok (.iconst 0, 1) := by decide +kernel
theorem dX11_findsSlips_41 : decode cX11_findsSlips 41 = .ok (.istore 4, 2) := by decide +kernel
theorem dX11_findsSlips_43 : decode cX11_findsSlips 43 = .ok (.iload 4, 2) := by decide +kernel
theorem dX11_findsSlips_45 : decode cX11_findsSlips 45 = .ok (.iload_n 1, 1) := by decide +kernel
theorem dX11_findsSlips_46 : decode cX11_findsSlips 46 = .ok (.if_icmp .ge 157, 3) := by decide +kernel
theorem dX11_findsSlips_49 : decode cX11_findsSlips 49 = .ok (.aload_n 0, 1) := by decide +kernel
theorem dX11_findsSlips_50 : decode cX11_findsSlips 50 = .ok (.getfield 13, 3) := by decide +kernel
theorem dX11_findsSlips_53 : decode cX11_findsSlips 53 = .ok (.iload 4, 2) := by decide +kernel
theorem dX11_findsSlips_55 : decode cX11_findsSlips 55 = .ok (.iaload, 1) := by decide +kernel
theorem dX11_findsSlips_56 : decode cX11_findsSlips 56 = .ok (.iconst 3, 1) := by decide +kernel
theorem dX11_findsSlips_57 : decode cX11_findsSlips 57 = .ok (.if_icmp .ge 18, 3) := by decide +kernel
theorem dX11_findsSlips_60 : decode cX11_findsSlips 60 = .ok (.aload_n 0, 1) := by decide +kernel
theorem dX11_findsSlips_61 : decode cX11_findsSlips 61 = .ok (.aload_n 0, 1) := by decide +kernel
theorem dX11_findsSlips_62 : decode cX11_findsSlips 62 = .ok (.getfield 13, 3) := by decide +kernel
theorem dX11_findsSlips_65 : decode cX11_findsSlips 65 = .ok (.iload 4, 2) := by decide +kernel
theorem dX11_findsSlips_67 : decode cX11_findsSlips 67 = .ok (.iaload, 1) := by decide +kernel
theorem dX11_findsSlips_68 : decode cX11_findsSlips 68 = .ok (.iload_n 3, 1) := by decide +kernel
theorem dX11_findsSlips_69 : decode cX11_findsSlips 69 = .ok (.invokevirtual 196, 3) := by decide +kernel
theorem dX11_findsSlips_72 : decode cX11_findsSlips 72 = .ok (.goto 125, 3) := by decide +kernel
theorem dX11_findsSlips_75 : decode cX11_findsSlips 75 = .ok (.aload_n 0, 1) := by decide +kernel
theorem dX11_findsSlips_76 : decode cX11_findsSlips 76 = .ok (.getfield 13, 3) := by decide +kernel
theorem dX11_findsSlips_79 : decode cX11_findsSlips 79 = .ok (.iload 4, 2) := by decide +kernel
theorem dX11_findsSlips_81 : decode cX11_findsSlips 81 = .ok (.iaload, 1) := by decide +kernel
theorem dX11_findsSlips_82 : decode cX11_findsSlips 82 = .ok (.iconst 4, 1) := by decide +kernel
theorem dX11_findsSlips_83 : decode cX11_findsSlips 83 = .ok (.if_icmp .ne 114, 3) := by decide +kernel
theorem dX11_findsSlips_86 : decode cX11_findsSlips 86 = .ok (.iload_n 2, 1) := by decide +kernel
theorem dX11_findsSlips_87 : decode cX11_findsSlips 87 = .ok (.aload_n 0, 1) := by decide +kernel
theorem dX11_findsSlips_88 : decode cX11_findsSlips 88 = .ok (.getfield 19, 3) := by decide +kernel
theorem dX11_findsSlips_91 : decode cX11_findsSlips 91 = .ok (.iload 4, 2) := by decide +kernel
theorem dX11_findsSlips_93 : decode cX11_findsSlips 93 = .ok (.iaload, 1) := by decide +kernel
theorem dX11_findsSlips_94 : decode cX11_findsSlips 94 = .ok (.invokestatic 199, 3) := by decide +kernel
theorem dX11_findsSlips_97 : decode cX11_findsSlips 97 = .ok (.ifCond .eq 100, 3) := by decide +kernel
theorem dX11_findsSlips_100 : decode cX11_findsSlips 100 = .ok (.iconst 0, 1) := by decide +kernel
theorem dX11_findsSlips_101 : decode cX11_findsSlips 101 = .ok (.istore 5, 2) := by decide +kernel
theorem dX11_findsSlips_103 : decode cX11_findsSlips 103 = .ok (.iload 5, 2) := by decide +kernel
theorem dX11_findsSlips_105 : decode cX11_findsSlips 105 = .ok (.bipush 21, 2) := by decide +kernel
theorem dX11_findsSlips_107 : decode cX11_findsSlips 107 = .ok (.if_icmp .ge 78, 3) := by decide +kernel
theorem dX11_findsSlips_110 : decode cX11_findsSlips 110 = .ok (.aload_n 0, 1) := by decide +kernel
theorem dX11_findsSlips_111 : decode cX11_findsSlips 111 = .ok (.getfield 56, 3) := by decide +kernel
theorem dX11_findsSlips_114 : decode cX11_findsSlips 114 = .ok (.iload 5, 2) := by decide +kernel
theorem dX11_findsSlips_116 : decode cX11_findsSlips 116 = .ok (.iload 5, 2) := by decide +kernel
theorem dX11_findsSlips_118 : decode cX11_findsSlips 118 = .ok (.bipush 10, 2) := by decide +kernel
theorem dX11_findsSlips_120 : decode cX11_findsSlips 120 = .ok (.if_icmp .ne 39, 3) := by decide +kernel
theorem dX11_findsSlips_123 : decode cX11_findsSlips 123 = .ok (.ldc2_w 151, 3) := by decide +kernel
theorem dX11_findsSlips_126 : decode cX11_findsSlips 126 = .ok (.aload_n 0, 1) := by decide +kernel
theorem dX11_findsSlips_127 : decode cX11_findsSlips 127 = .ok (.getfield 56, 3) := by decide +kernel
theorem dX11_findsSlips_130 : decode cX11_findsSlips 130 = .ok (.iload 5, 2) := by decide +kernel
theorem dX11_findsSlips_132 : decode cX11_findsSlips 132 = .ok (.laload, 1) := by decide +kernel
theorem dX11_findsSlips_133 : decode cX11_findsSlips 133 = .ok (.lmul, 1) := by decide +kernel
theorem dX11_findsSlips_134 : decode cX11_findsSlips 134 = .ok (.aload_n 0, 1) := by decide +kernel
theorem dX11_findsSlips_135 : decode cX11_findsSlips 135 = .ok (.getfield 31, 3) := by decide +kernel
theorem dX11_findsSlips_138 : decode cX11_findsSlips 138 = .ok (.bipush 6, 2) := by decide +kernel
theorem dX11_findsSlips_140 : decode cX11_findsSlips 140 = .ok (.iaload, 1) := by decide +kernel
theorem dX11_findsSlips_141 : decode cX11_findsSlips 141 = .ok (.i2l, 1) := by decide +kernel
theorem dX11_findsSlips_142 : decode cX11_findsSlips 142 = .ok (.aload_n 0, 1) := by decide +kernel
theorem dX11_findsSlips_143 : decode cX11_findsSlips 143 = .ok (.getfield 193, 3) := by decide +kernel
theorem dX11_findsSlips_146 : decode cX11_findsSlips 146 = .ok (.aload_n 0, 1) := by decide +kernel
theorem dX11_findsSlips_147 : decode cX11_findsSlips 147 = .ok (.getfield 56, 3) := by decide +kernel
theorem dX11_findsSlips_150 : decode cX11_findsSlips 150 = .ok (.iload 5, 2) := by decide +kernel
theorem dX11_findsSlips_152 : decode cX11_findsSlips 152 = .ok (.laload, 1) := by decide +kernel
theorem dX11_findsSlips_153 : decode cX11_findsSlips 153 = .ok (.lsub, 1) := by decide +kernel
theorem dX11_findsSlips_154 : decode cX11_findsSlips 154 = .ok (.lmul, 1) := by decide +kernel
theorem dX11_findsSlips_155 : decode cX11_findsSlips 155 = .ok (.ladd, 1) := by decide +kernel
theorem dX11_findsSlips_156 : decode cX11_findsSlips 156 = .ok (.goto 22, 3) := by decide +kernel
theorem dX11_findsSlips_159 : decode cX11_findsSlips 159 = .ok (.bipush 16, 2) := by decide +kernel
theorem dX11_findsSlips_161 : decode cX11_findsSlips 161 = .ok (.aload_n 0, 1) := by decide +kernel
theorem dX11_findsSlips_162 : decode cX11_findsSlips 162 = .ok (.getfield 31, 3) := by decide +kernel
theorem dX11_findsSlips_165 : decode cX11_findsSlips 165 = .ok (.bipush 6, 2) := by decide +kernel
theorem dX11_findsSlips_167 : decode cX11_findsSlips 167 = .ok (.iaload, 1) := by decide +kernel
theorem dX11_findsSlips_168 : decode cX11_findsSlips 168 = .ok (.isub, 1) := by decide +kernel
theorem dX11_findsSlips_169 : decode cX11_findsSlips 169 = .ok (.i2l, 1) := by decide +kernel
theorem dX11_findsSlips_170 : decode cX11_findsSlips 170 = .ok (.aload_n 0, 1) := by decide +kernel
theorem dX11_findsSlips_171 : decode cX11_findsSlips 171 = .ok (.getfield 56, 3) := by decide +kernel
theorem dX11_findsSlips_174 : decode cX11_findsSlips 174 = .ok (.iload 5, 2) := by decide +kernel
theorem dX11_findsSlips_176 : decode cX11_findsSlips 176 = .ok (.laload, 1) := by decide +kernel
theorem dX11_findsSlips_177 : decode cX11_findsSlips 177 = .ok (.lmul, 1) := by decide +kernel
theorem dX11_findsSlips_178 : decode cX11_findsSlips 178 = .ok (.lastore, 1) := by decide +kernel
theorem dX11_findsSlips_179 : decode cX11_findsSlips 179 = .ok (.iinc 5 1, 3) := by decide +kernel
theorem dX11_findsSlips_182 : decode cX11_findsSlips 182 = .ok (.goto (-79), 3) := by decide +kernel
theorem dX11_findsSlips_185 : decode cX11_findsSlips 185 = .ok (.aload_n 0, 1) := by decide +kernel
theorem dX11_findsSlips_186 : decode cX11_findsSlips 186 = .ok (.dup, 1) := by decide +kernel
theorem dX11_findsSlips_187 : decode cX11_findsSlips 187 = .ok (.getfield 193, 3) := by decide +kernel
theorem dX11_findsSlips_190 : decode cX11_findsSlips 190 = .ok (.ldc2_w 151, 3) := by decide +kernel
theorem dX11_findsSlips_193 : decode cX11_findsSlips 193 = .ok (.lmul, 1) := by decide +kernel
theorem dX11_findsSlips_194 : decode cX11_findsSlips 194 = .ok (.putfield 193, 3) := by decide +kernel
theorem dX11_findsSlips_197 : decode cX11_findsSlips 197 = .ok (.iinc 4 1, 3) := by decide +kernel
theorem dX11_findsSlips_200 : decode cX11_findsSlips 200 = .ok (.goto (-157), 3) := by decide +kernel
theorem dX11_findsSlips_203 : decode cX11_findsSlips 203 = .ok (.return_, 1) := by decide +kernel
theorem dX11_missedIn_0 : decode cX11_missedIn 0 = .ok (.iload_n 2, 1) := by decide +kernel
theorem dX11_missedIn_1 : decode cX11_missedIn 1 = .ok (.iconst (-1), 1) := by decide +kernel
theorem dX11_missedIn_2 : decode cX11_missedIn 2 = .ok (.if_icmp .ne 10, 3) := by decide +kernel
theorem dX11_missedIn_5 : decode cX11_missedIn 5 = .ok (.aload_n 0, 1) := by decide +kernel
theorem dX11_missedIn_6 : decode cX11_missedIn 6 = .ok (.getfield 25, 3) := by decide +kernel
theorem dX11_missedIn_9 : decode cX11_missedIn 9 = .ok (.iload_n 1, 1) := by decide +kernel
theorem dX11_missedIn_10 : decode cX11_missedIn 10 = .ok (.iaload, 1) := by decide +kernel
theorem dX11_missedIn_11 : decode cX11_missedIn 11 = .ok (.ireturn, 1) := by decide +kernel
theorem dX11_missedIn_12 : decode cX11_missedIn 12 = .ok (.aload_n 0, 1) := by decide +kernel
theorem dX11_missedIn_13 : decode cX11_missedIn 13 = .ok (.getfield 25, 3) := by decide +kernel
theorem dX11_missedIn_16 : decode cX11_missedIn 16 = .ok (.iload_n 1, 1) := by decide +kernel
theorem dX11_missedIn_17 : decode cX11_missedIn 17 = .ok (.iaload, 1) := by decide +kernel
theorem dX11_missedIn_18 : decode cX11_missedIn 18 = .ok (.iload_n 2, 1) := by decide +kernel
theorem dX11_missedIn_19 : decode cX11_missedIn 19 = .ok (.aload_n 0, 1) := by decide +kernel
theorem dX11_missedIn_20 : decode cX11_missedIn 20 = .ok (.getfield 31, 3) := by decide +kernel
theorem dX11_missedIn_23 : decode cX11_missedIn 23 = .ok (.bipush 7, 2) := by decide +kernel
theorem dX11_missedIn_25 : decode cX11_missedIn 25 = .ok (.iaload, 1) := by decide +kernel
theorem dX11_missedIn_26 : decode cX11_missedIn 26 = .ok (.imul, 1) := by decide +kernel
theorem dX11_missedIn_27 : decode cX11_missedIn 27 = .ok (.iconst 4, 1) := by decide +kernel
theorem dX11_missedIn_28 : decode cX11_missedIn 28 = .ok (.idiv, 1) := by decide +kernel
theorem dX11_missedIn_29 : decode cX11_missedIn 29 = .ok (.isub, 1) := by decide +kernel
theorem dX11_missedIn_30 : decode cX11_missedIn 30 = .ok (.istore_n 3, 1) := by decide +kernel
theorem dX11_missedIn_31 : decode cX11_missedIn 31 = .ok (.iload_n 3, 1) := by decide +kernel
theorem dX11_missedIn_32 : decode cX11_missedIn 32 = .ok (.ifCond .ge 7, 3) := by decide +kernel
theorem dX11_missedIn_35 : decode cX11_missedIn 35 = .ok (.iconst 0, 1) := by decide +kernel
theorem dX11_missedIn_36 : decode cX11_missedIn 36 = .ok (.goto 4, 3) := by decide +kernel
theorem dX11_missedIn_39 : decode cX11_missedIn 39 = .ok (.iload_n 3, 1) := by decide +kernel
theorem dX11_missedIn_40 : decode cX11_missedIn 40 = .ok (.iload_n 2, 1) := by decide +kernel
theorem dX11_missedIn_41 : decode cX11_missedIn 41 = .ok (.aload_n 0, 1) := by decide +kernel
theorem dX11_missedIn_42 : decode cX11_missedIn 42 = .ok (.getfield 31, 3) := by decide +kernel
theorem dX11_missedIn_45 : decode cX11_missedIn 45 = .ok (.bipush 8, 2) := by decide +kernel
theorem dX11_missedIn_47 : decode cX11_missedIn 47 = .ok (.iaload, 1) := by decide +kernel
theorem dX11_missedIn_48 : decode cX11_missedIn 48 = .ok (.imul, 1) := by decide +kernel
theorem dX11_missedIn_49 : decode cX11_missedIn 49 = .ok (.bipush 8, 2) := by decide +kernel
theorem dX11_missedIn_51 : decode cX11_missedIn 51 = .ok (.idiv, 1) := by decide +kernel
theorem dX11_missedIn_52 : decode cX11_missedIn 52 = .ok (.iadd, 1) := by decide +kernel
theorem dX11_missedIn_53 : decode cX11_missedIn 53 = .ok (.istore 4, 2) := by decide +kernel
theorem dX11_missedIn_55 : decode cX11_missedIn 55 = .ok (.iload 4, 2) := by decide +kernel
theorem dX11_missedIn_57 : decode cX11_missedIn 57 = .ok (.bipush 16, 2) := by decide +kernel
theorem dX11_missedIn_59 : decode cX11_missedIn 59 = .ok (.aload_n 0, 1) := by decide +kernel
theorem dX11_missedIn_60 : decode cX11_missedIn 60 = .ok (.getfield 28, 3) := by decide +kernel
theorem dX11_missedIn_63 : decode cX11_missedIn 63 = .ok (.iload_n 1, 1) := by decide +kernel
theorem dX11_missedIn_64 : decode cX11_missedIn 64 = .ok (.iaload, 1) := by decide +kernel
theorem dX11_missedIn_65 : decode cX11_missedIn 65 = .ok (.isub, 1) := by decide +kernel
theorem dX11_missedIn_66 : decode cX11_missedIn 66 = .ok (.if_icmp .le 15, 3) := by decide +kernel
theorem dX11_missedIn_69 : decode cX11_missedIn 69 = .ok (.bipush 16, 2) := by decide +kernel
theorem dX11_missedIn_71 : decode cX11_missedIn 71 = .ok (.aload_n 0, 1) := by decide +kernel
theorem dX11_missedIn_72 : decode cX11_missedIn 72 = .ok (.getfield 28, 3) := by decide +kernel
theorem dX11_missedIn_75 : decode cX11_missedIn 75 = .ok (.iload_n 1, 1) := by decide +kernel
theorem dX11_missedIn_76 : decode cX11_missedIn 76 = .ok (.iaload, 1) := by decide +kernel
theorem dX11_missedIn_77 : decode cX11_missedIn 77 = .ok (.isub, 1) := by decide +kernel
theorem dX11_missedIn_78 : decode cX11_missedIn 78 = .ok (.goto 5, 3) := by decide +kernel
theorem dX11_missedIn_81 : decode cX11_missedIn 81 = .ok (.iload 4, 2) := by decide +kernel
theorem dX11_missedIn_83 : decode cX11_missedIn 83 = .ok (.ireturn, 1) := by decide +kernel
theorem dX11_slipLoose_0 : decode cX11_slipLoose 0 = .ok (.aload_n 0, 1) := by decide +kernel
theorem dX11_slipLoose_1 : decode cX11_slipLoose 1 = .ok (.iload_n 1, 1) := by decide +kernel
theorem dX11_slipLoose_2 : decode cX11_slipLoose 2 = .ok (.iload_n 2, 1) := by decide +kernel
theorem dX11_slipLoose_3 : decode cX11_slipLoose 3 = .ok (.invokevirtual 203, 3) := by decide +kernel
theorem dX11_slipLoose_6 : decode cX11_slipLoose 6 = .ok (.istore_n 3, 1) := by decide +kernel
theorem dX11_slipLoose_7 : decode cX11_slipLoose 7 = .ok (.aload_n 0, 1) := by decide +kernel
theorem dX11_slipLoose_8 : decode cX11_slipLoose 8 = .ok (.getfield 28, 3) := by decide +kernel
theorem dX11_slipLoose_11 : decode cX11_slipLoose 11 = .ok (.iload_n 1, 1) := by decide +kernel
theorem dX11_slipLoose_12 : decode cX11_slipLoose 12 = .ok (.iaload, 1) := by decide +kernel
theorem dX11_slipLoose_13 : decode cX11_slipLoose 13 = .ok (.istore 4, 2) := by decide +kernel
theorem dX11_slipLoose_15 : decode cX11_slipLoose 15 = .ok (.iconst 0, 1) := by decide +kernel
theorem dX11_slipLoose_16 : decode cX11_slipLoose 16 = .ok (.istore 5, 2) := by decide +kernel
theorem dX11_slipLoose_18 : decode cX11_slipLoose 18 = .ok (.iload 5, 2) := by decide +kernel
theorem dX11_slipLoose_20 : decode cX11_slipLoose 20 = .ok (.bipush 21, 2) := by decide +kernel
theorem dX11_slipLoose_22 : decode cX11_slipLoose 22 = .ok (.if_icmp .ge 87, 3) := by decide +kernel
theorem dX11_slipLoose_25 : decode cX11_slipLoose 25 = .ok (.iload 5, 2) := by decide +kernel
theorem dX11_slipLoose_27 : decode cX11_slipLoose 27 = .ok (.bipush 20, 2) := by decide +kernel
theorem dX11_slipLoose_29 : decode cX11_slipLoose 29 = .ok (.if_icmp .ge 18, 3) := by decide +kernel
theorem dX11_slipLoose_32 : decode cX11_slipLoose 32 = .ok (.aload_n 0, 1) := by decide +kernel
theorem dX11_slipLoose_33 : decode cX11_slipLoose 33 = .ok (.getfield 56, 3) := by decide +kernel
theorem dX11_slipLoose_36 : decode cX11_slipLoose 36 = .ok (.iload 5, 2) := by decide +kernel
theorem dX11_slipLoose_38 : decode cX11_slipLoose 38 = .ok (.iconst 1, 1) := by decide +kernel
theorem dX11_slipLoose_39 : decode cX11_slipLoose 39 = .ok (.iadd, 1) := by decide +kernel
theorem dX11_slipLoose_40 : decode cX11_slipLoose 40 = .ok (.laload, 1) := by decide +kernel
theorem dX11_slipLoose_41 : decode cX11_slipLoose 41 = .ok (.iload_n 3, 1) := by decide +kernel
theorem dX11_slipLoose_42 : decode cX11_slipLoose 42 = .ok (.i2l, 1) := by decide +kernel
theorem dX11_slipLoose_43 : decode cX11_slipLoose 43 = .ok (.lmul, 1) := by decide +kernel
theorem dX11_slipLoose_44 : decode cX11_slipLoose 44 = .ok (.goto 4, 3) := by decide +kernel
theorem dX11_slipLoose_47 : decode cX11_slipLoose 47 = .ok (.lconst 0, 1) := by decide +kernel
theorem dX11_slipLoose_48 : decode cX11_slipLoose 48 = .ok (.lstore 6, 2) := by decide +kernel
theorem dX11_slipLoose_50 : decode cX11_slipLoose 50 = .ok (.iload 5, 2) := by decide +kernel
theorem dX11_slipLoose_52 : decode cX11_slipLoose 52 = .ok (.ifCond .le 19, 3) := by decide +kernel
theorem dX11_slipLoose_55 : decode cX11_slipLoose 55 = .ok (.aload_n 0, 1) := by decide +kernel
theorem dX11_slipLoose_56 : decode cX11_slipLoose 56 = .ok (.getfield 56, 3) := by decide +kernel
theorem dX11_slipLoose_59 : decode cX11_slipLoose 59 = .ok (.iload 5, 2) := by decide +kernel
theorem dX11_slipLoose_61 : decode cX11_slipLoose 61 = .ok (.iconst 1, 1) := by decide +kernel
theorem dX11_slipLoose_62 : decode cX11_slipLoose 62 = .ok (.isub, 1) := by decide +kernel
theorem dX11_slipLoose_63 : decode cX11_slipLoose 63 = .ok (.laload, 1) := by decide +kernel
theorem dX11_slipLoose_64 : decode cX11_slipLoose 64 = .ok (.iload 4, 2) := by decide +kernel
theorem dX11_slipLoose_66 : decode cX11_slipLoose 66 = .ok (.i2l, 1) := by decide +kernel
theorem dX11_slipLoose_67 : decode cX11_slipLoose 67 = .ok (.lmul, 1) := by decide +kernel
theorem dX11_slipLoose_68 : decode cX11_slipLoose 68 = .ok (.goto 4, 3) := by decide +kernel
theorem dX11_slipLoose_71 : decode cX11_slipLoose 71 = .ok (.lconst 0, 1) := by decide +kernel
theorem dX11_slipLoose_72 : decode cX11_slipLoose 72 = .ok (.lstore 8, 2) := by decide +kernel
theorem dX11_slipLoose_74 : decode cX11_slipLoose 74 = .ok (.aload_n 0, 1) := by decide +kernel
theorem dX11_slipLoose_75 : decode cX11_slipLoose 75 = .ok (.getfield 59, 3) := by decide +kernel
theorem dX11_slipLoose_78 : decode cX11_slipLoose 78 = .ok (.iload 5, 2) := by decide +kernel
theorem dX11_slipLoose_80 : decode cX11_slipLoose 80 = .ok (.aload_n 0, 1) := by decide +kernel
theorem dX11_slipLoose_81 : decode cX11_slipLoose 81 = .ok (.getfield 56, 3) := by decide +kernel
theorem dX11_slipLoose_84 : decode cX11_slipLoose 84 = .ok (.iload 5, 2) := by decide +kernel
theorem dX11_slipLoose_86 : decode cX11_slipLoose 86 = .ok (.laload, 1) := by decide +kernel
theorem dX11_slipLoose_87 : decode cX11_slipLoose 87 = .ok (.bipush 16, 2) := by decide +kernel
theorem dX11_slipLoose_89 : decode cX11_slipLoose 89 = .ok (.iload_n 3, 1) := by decide +kernel
theorem dX11_slipLoose_90 : decode cX11_slipLoose 90 = .ok (.isub, 1) := by decide +kernel
theorem dX11_slipLoose_91 : decode cX11_slipLoose 91 = .ok (.iload 4, 2) := by decide +kernel
theorem dX11_slipLoose_93 : decode cX11_slipLoose 93 = .ok (.isub, 1) := by decide +kernel
theorem dX11_slipLoose_94 : decode cX11_slipLoose 94 = .ok (.i2l, 1) := by decide +kernel
theorem dX11_slipLoose_95 : decode cX11_slipLoose 95 = .ok (.lmul, 1) := by decide +kernel
theorem dX11_slipLoose_96 : decode cX11_slipLoose 96 = .ok (.lload 6, 2) := by decide +kernel
theorem dX11_slipLoose_98 : decode cX11_slipLoose 98 = .ok (.ladd, 1) := by decide +kernel
theorem dX11_slipLoose_99 : decode cX11_slipLoose 99 = .ok (.lload 8, 2) := by decide +kernel
theorem dX11_slipLoose_101 : decode cX11_slipLoose 101 = .ok (.ladd, 1) := by decide +kernel
theorem dX11_slipLoose_102 : decode cX11_slipLoose 102 = .ok (.lastore, 1) := by decide +kernel
theorem dX11_slipLoose_103 : decode cX11_slipLoose 103 = .ok (.iinc 5 1, 3) := by decide +kernel
theorem dX11_slipLoose_106 : decode cX11_slipLoose 106 = .ok (.goto (-88), 3) := by decide +kernel
theorem dX11_slipLoose_109 : decode cX11_slipLoose 109 = .ok (.iconst 0, 1) := by decide +kernel
theorem dX11_slipLoose_110 : decode cX11_slipLoose 110 = .ok (.istore 5, 2) := by decide +kernel
theorem dX11_slipLoose_112 : decode cX11_slipLoose 112 = .ok (.iload 5, 2) := by decide +kernel
theorem dX11_slipLoose_114 : decode cX11_slipLoose 114 = .ok (.bipush 21, 2) := by decide +kernel
theorem dX11_slipLoose_116 : decode cX11_slipLoose 116 = .ok (.if_icmp .ge 23, 3) := by decide +kernel
theorem dX11_slipLoose_119 : decode cX11_slipLoose 119 = .ok (.aload_n 0, 1) := by decide +kernel
theorem dX11_slipLoose_120 : decode cX11_slipLoose 120 = .ok (.getfield 56, 3) := by decide +kernel
theorem dX11_slipLoose_123 : decode cX11_slipLoose 123 = .ok (.iload 5, 2) := by decide +kernel
theorem dX11_slipLoose_125 : decode cX11_slipLoose 125 = .ok (.aload_n 0, 1) := by decide +kernel
theorem dX11_slipLoose_126 : decode cX11_slipLoose 126 = .ok (.getfield 59, 3) := by decide +kernel
theorem dX11_slipLoose_129 : decode cX11_slipLoose 129 = .ok (.iload 5, 2) := by decide +kernel
theorem dX11_slipLoose_131 : decode cX11_slipLoose 131 = .ok (.laload, 1) := by decide +kernel
theorem dX11_slipLoose_132 : decode cX11_slipLoose 132 = .ok (.lastore, 1) := by decide +kernel
theorem dX11_slipLoose_133 : decode cX11_slipLoose 133 = .ok (.iinc 5 1, 3) := by decide +kernel
theorem dX11_slipLoose_136 : decode cX11_slipLoose 136 = .ok (.goto (-24), 3) := by decide +kernel
theorem dX11_slipLoose_139 : decode cX11_slipLoose 139 = .ok (.aload_n 0, 1) := by decide +kernel
theorem dX11_slipLoose_140 : decode cX11_slipLoose 140 = .ok (.dup, 1) := by decide +kernel
theorem dX11_slipLoose_141 : decode cX11_slipLoose 141 = .ok (.getfield 193, 3) := by decide +kernel
theorem dX11_slipLoose_144 : decode cX11_slipLoose 144 = .ok (.ldc2_w 151, 3) := by decide +kernel
theorem dX11_slipLoose_147 : decode cX11_slipLoose 147 = .ok (.lmul, 1) := by decide +kernel
theorem dX11_slipLoose_148 : decode cX11_slipLoose 148 = .ok (.putfield 193, 3) := by decide +kernel
theorem dX11_slipLoose_151 : decode cX11_slipLoose 151 = .ok (.return_, 1) := by decide +kernel
theorem dX11_slipsOf_0 : decode cX11_slipsOf 0 = .ok (.aload_n 0, 1) := by decide +kernel
theorem dX11_slipsOf_1 : decode cX11_slipsOf 1 = .ok (.iload_n 1, 1) := by decide +kernel
theorem dX11_slipsOf_2 : decode cX11_slipsOf 2 = .ok (.iconst 0, 1) := by decide +kernel
theorem dX11_slipsOf_3 : decode cX11_slipsOf 3 = .ok (.iconst (-1), 1) := by decide +kernel
theorem dX11_slipsOf_4 : decode cX11_slipsOf 4 = .ok (.invokevirtual 206, 3) := by decide +kernel
theorem dX11_slipsOf_7 : decode cX11_slipsOf 7 = .ok (.aload_n 0, 1) := by decide +kernel
theorem dX11_slipsOf_8 : decode cX11_slipsOf 8 = .ok (.getfield 56, 3) := by decide +kernel
theorem dX11_slipsOf_11 : decode cX11_slipsOf 11 = .ok (.iload_n 2, 1) := by decide +kernel
theorem dX11_slipsOf_12 : decode cX11_slipsOf 12 = .ok (.bipush 10, 2) := by decide +kernel
theorem dX11_slipsOf_14 : decode cX11_slipsOf 14 = .ok (.iadd, 1) := by decide +kernel
theorem dX11_slipsOf_15 : decode cX11_slipsOf 15 = .ok (.laload, 1) := by decide +kernel
theorem dX11_slipsOf_16 : decode cX11_slipsOf 16 = .ok (.aload_n 0, 1) := by decide +kernel
theorem dX11_slipsOf_17 : decode cX11_slipsOf 17 = .ok (.getfield 193, 3) := by decide +kernel
theorem dX11_slipsOf_20 : decode cX11_slipsOf 20 = .ok (.iload_n 3, 1) := by decide +kernel
theorem dX11_slipsOf_21 : decode cX11_slipsOf 21 = .ok (.invokestatic 172, 3) := by decide +kernel
theorem dX11_slipsOf_24 : decode cX11_slipsOf 24 = .ok (.lreturn, 1) := by decide +kernel
theorem dX11_slips_0 : decode cX11_slips 0 = .ok (.aload_n 0, 1) := by decide +kernel
theorem dX11_slips_1 : decode cX11_slips 1 = .ok (.iload_n 1, 1) := by decide +kernel
theorem dX11_slips_2 : decode cX11_slips 2 = .ok (.invokevirtual 124, 3) := by decide +kernel
theorem dX11_slips_5 : decode cX11_slips 5 = .ok (.ifCond .eq 33, 3) := by decide +kernel
theorem dX11_slips_8 : decode cX11_slips 8 = .ok (.iload_n 2, 1) := by decide +kernel
theorem dX11_slips_9 : decode cX11_slips 9 = .ok (.bipush (-10), 2) := by decide +kernel
theorem dX11_slips_11 : decode cX11_slips 11 = .ok (.bipush 10, 2) := by decide +kernel
theorem dX11_slips_13 : decode cX11_slips 13 = .ok (.invokestatic 89, 3) := by decide +kernel
theorem dX11_slips_16 : decode cX11_slips 16 = .ok (.ifCond .eq 22, 3) := by decide +kernel
theorem dX11_slips_19 : decode cX11_slips 19 = .ok (.iload_n 3, 1) := by decide +kernel
theorem dX11_slips_20 : decode cX11_slips 20 = .ok (.iconst 0, 1) := by decide +kernel
theorem dX11_slips_21 : decode cX11_slips 21 = .ok (.iconst 1, 1) := by decide +kernel
theorem dX11_slips_22 : decode cX11_slips 22 = .ok (.invokestatic 89, 3) := by decide +kernel
theorem dX11_slips_25 : decode cX11_slips 25 = .ok (.ifCond .eq 13, 3) := by decide +kernel
theorem dX11_slips_28 : decode cX11_slips 28 = .ok (.aload_n 0, 1) := by decide +kernel
theorem dX11_slips_29 : decode cX11_slips 29 = .ok (.iload_n 1, 1) := by decide +kernel
theorem dX11_slips_30 : decode cX11_slips 30 = .ok (.iload_n 2, 1) := by decide +kernel
theorem dX11_slips_31 : decode cX11_slips 31 = .ok (.iload_n 3, 1) := by decide +kernel
theorem dX11_slips_32 : decode cX11_slips 32 = .ok (.invokevirtual 210, 3) := by decide +kernel
theorem dX11_slips_35 : decode cX11_slips 35 = .ok (.goto 8, 3) := by decide +kernel
theorem dX11_slips_38 : decode cX11_slips 38 = .ok (.bipush (-2), 2) := by decide +kernel
theorem dX11_slips_40 : decode cX11_slips 40 = .ok (.invokestatic 168, 3) := by decide +kernel
theorem dX11_slips_43 : decode cX11_slips 43 = .ok (.lreturn, 1) := by decide +kernel
theorem dX11_isSome_0 : decode cX11_isSome 0 = .ok (.aload_n 0, 1) := by decide +kernel
theorem dX11_isSome_1 : decode cX11_isSome 1 = .ok (.invokevirtual 121, 3) := by decide +kernel
theorem dX11_isSome_4 : decode cX11_isSome 4 = .ok (.iload_n 1, 1) := by decide +kernel
theorem dX11_isSome_5 : decode cX11_isSome 5 = .ok (.iconst 0, 1) := by decide +kernel
theorem dX11_isSome_6 : decode cX11_isSome 6 = .ok (.bipush 63, 2) := by decide +kernel
theorem dX11_isSome_8 : decode cX11_isSome 8 = .ok (.invokestatic 89, 3) := by decide +kernel
theorem dX11_isSome_11 : decode cX11_isSome 11 = .ok (.ifCond .eq 24, 3) := by decide +kernel
theorem dX11_isSome_14 : decode cX11_isSome 14 = .ok (.iload_n 1, 1) := by decide +kernel
theorem dX11_isSome_15 : decode cX11_isSome 15 = .ok (.iconst 1, 1) := by decide +kernel
theorem dX11_isSome_16 : decode cX11_isSome 16 = .ok (.aload_n 0, 1) := by decide +kernel
theorem dX11_isSome_17 : decode cX11_isSome 17 = .ok (.getfield 100, 3) := by decide +kernel
theorem dX11_isSome_20 : decode cX11_isSome 20 = .ok (.ishl, 1) := by decide +kernel
theorem dX11_isSome_21 : decode cX11_isSome 21 = .ok (.iconst 1, 1) := by decide +kernel
theorem dX11_isSome_22 : decode cX11_isSome 22 = .ok (.isub, 1) := by decide +kernel
theorem dX11_isSome_23 : decode cX11_isSome 23 = .ok (.iand, 1) := by decide +kernel
theorem dX11_isSome_24 : decode cX11_isSome 24 = .ok (.invokestatic 213, 3) := by decide +kernel
theorem dX11_isSome_27 : decode cX11_isSome 27 = .ok (.iconst 4, 1) := by decide +kernel
theorem dX11_isSome_28 : decode cX11_isSome 28 = .ok (.if_icmp .ge 7, 3) := by decide +kernel
theorem dX11_isSome_31 : decode cX11_isSome 31 = .ok (.iconst 1, 1) := by decide +kernel
theorem dX11_isSome_32 : decode cX11_isSome 32 = .ok (.goto 4, 3) := by decide +kernel
theorem dX11_isSome_35 : decode cX11_isSome 35 = .ok (.iconst 0, 1) := by decide +kernel
theorem dX11_isSome_36 : decode cX11_isSome 36 = .ok (.ireturn, 1) := by decide +kernel
theorem dX11_safeBy_0 : decode cX11_safeBy 0 = .ok (.aload_n 0, 1) := by decide +kernel
theorem dX11_safeBy_1 : decode cX11_safeBy 1 = .ok (.aload_n 0, 1) := by decide +kernel
theorem dX11_safeBy_2 : decode cX11_safeBy 2 = .ok (.getfield 97, 3) := by decide +kernel
theorem dX11_safeBy_5 : decode cX11_safeBy 5 = .ok (.iconst 1, 1) := by decide +kernel
theorem dX11_safeBy_6 : decode cX11_safeBy 6 = .ok (.isub, 1) := by decide +kernel
theorem dX11_safeBy_7 : decode cX11_safeBy 7 = .ok (.iload_n 1, 1) := by decide +kernel
theorem dX11_safeBy_8 : decode cX11_safeBy 8 = .ok (.iconst (-1), 1) := by decide +kernel
theorem dX11_safeBy_9 : decode cX11_safeBy 9 = .ok (.invokevirtual 206, 3) := by decide +kernel
theorem dX11_safeBy_12 : decode cX11_safeBy 12 = .ok (.aload_n 0, 1) := by decide +kernel
theorem dX11_safeBy_13 : decode cX11_safeBy 13 = .ok (.getfield 56, 3) := by decide +kernel
theorem dX11_safeBy_16 : decode cX11_safeBy 16 = .ok (.bipush 10, 2) := by decide +kernel
theorem dX11_safeBy_18 : decode cX11_safeBy 18 = .ok (.laload, 1) := by decide +kernel
theorem dX11_safeBy_19 : decode cX11_safeBy 19 = .ok (.lreturn, 1) := by decide +kernel
theorem dX11_safeOf_0 : decode cX11_safeOf 0 = .ok (.aload_n 0, 1) := by decide +kernel
theorem dX11_safeOf_1 : decode cX11_safeOf 1 = .ok (.getfield 97, 3) := by decide +kernel
theorem dX11_safeOf_4 : decode cX11_safeOf 4 = .ok (.ifCond .ne 9, 3) := by decide +kernel
theorem dX11_safeOf_7 : decode cX11_safeOf 7 = .ok (.bipush (-3), 2) := by decide +kernel
theorem dX11_safeOf_9 : decode cX11_safeOf 9 = .ok (.invokestatic 168, 3) := by decide +kernel
theorem dX11_safeOf_12 : decode cX11_safeOf 12 = .ok (.lreturn, 1) := by decide +kernel
theorem dX11_safeOf_13 : decode cX11_safeOf 13 = .ok (.aload_n 0, 1) := by decide +kernel
theorem dX11_safeOf_14 : decode cX11_safeOf 14 = .ok (.iload_n 1, 1) := by decide +kernel
theorem dX11_safeOf_15 : decode cX11_safeOf 15 = .ok (.invokevirtual 216, 3) := by decide +kernel
theorem dX11_safeOf_18 : decode cX11_safeOf 18 = .ok (.lstore_n 3, 1) := by decide +kernel
theorem dX11_safeOf_19 : decode cX11_safeOf 19 = .ok (.lload_n 3, 1) := by decide +kernel
theorem dX11_safeOf_20 : decode cX11_safeOf 20 = .ok (.aload_n 0, 1) := by decide +kernel
theorem dX11_safeOf_21 : decode cX11_safeOf 21 = .ok (.getfield 193, 3) := by decide +kernel
theorem dX11_safeOf_24 : decode cX11_safeOf 24 = .ok (.iload_n 2, 1) := by decide +kernel
theorem dX11_safeOf_25 : decode cX11_safeOf 25 = .ok (.invokestatic 172, 3) := by decide +kernel
theorem dX11_safeOf_28 : decode cX11_safeOf 28 = .ok (.lreturn, 1) := by decide +kernel
theorem dX11_safe_0 : decode cX11_safe 0 = .ok (.aload_n 0, 1) := by decide +kernel
theorem dX11_safe_1 : decode cX11_safe 1 = .ok (.iload_n 1, 1) := by decide +kernel
theorem dX11_safe_2 : decode cX11_safe 2 = .ok (.invokevirtual 219, 3) := by decide +kernel
theorem dX11_safe_5 : decode cX11_safe 5 = .ok (.ifCond .eq 21, 3) := by decide +kernel
theorem dX11_safe_8 : decode cX11_safe 8 = .ok (.iload_n 2, 1) := by decide +kernel
theorem dX11_safe_9 : decode cX11_safe 9 = .ok (.iconst 0, 1) := by decide +kernel
theorem dX11_safe_10 : decode cX11_safe 10 = .ok (.iconst 1, 1) := by decide +kernel
theorem dX11_safe_11 : decode cX11_safe 11 = .ok (.invokestatic 89, 3) := by decide +kernel
theorem dX11_safe_14 : decode cX11_safe 14 = .ok (.ifCond .eq 12, 3) := by decide +kernel
theorem dX11_safe_17 : decode cX11_safe 17 = .ok (.aload_n 0, 1) := by decide +kernel
theorem dX11_safe_18 : decode cX11_safe 18 = .ok (.iload_n 1, 1) := by decide +kernel
theorem dX11_safe_19 : decode cX11_safe 19 = .ok (.iload_n 2, 1) := by decide +kernel
theorem dX11_safe_20 : decode cX11_safe 20 = .ok (.invokevirtual 222, 3) := by decide +kernel
theorem dX11_safe_23 : decode cX11_safe 23 = .ok (.goto 8, 3) := by decide +kernel
theorem dX11_safe_26 : decode cX11_safe 26 = .ok (.bipush (-2), 2) := by decide +kernel
theorem dX11_safe_28 : decode cX11_safe 28 = .ok (.invokestatic 168, 3) := by decide +kernel
theorem dX11_safe_31 : decode cX11_safe 31 = .ok (.lreturn, 1) := by decide +kernel
theorem dX11_writeOf_0 : decode cX11_writeOf 0 = .ok (.aload_n 0, 1) := by decide +kernel
theorem dX11_writeOf_1 : decode cX11_writeOf 1 = .ok (.getfield 97, 3) := by decide +kernel
theorem dX11_writeOf_4 : decode cX11_writeOf 4 = .ok (.ifCond .ne 6, 3) := by decide +kernel
theorem dX11_writeOf_7 : decode cX11_writeOf 7 = .ok (.bipush (-3), 2) := by decide +kernel
theorem dX11_writeOf_9 : decode cX11_writeOf 9 = .ok (.ireturn, 1) := by decide +kernel
theorem dX11_writeOf_10 : decode cX11_writeOf 10 = .ok (.iconst (-1), 1) := by decide +kernel
theorem dX11_writeOf_11 : decode cX11_writeOf 11 = .ok (.istore_n 2, 1) := by decide +kernel
theorem dX11_writeOf_12 : decode cX11_writeOf 12 = .ok (.lconst 0, 1) := by decide +kernel
theorem dX11_writeOf_13 : decode cX11_writeOf 13 = .ok (.lstore_n 3, 1) := by decide +kernel
theorem dX11_writeOf_14 : decode cX11_writeOf 14 = .ok (.iconst 0, 1) := by decide +kernel
theorem dX11_writeOf_15 : decode cX11_writeOf 15 = .ok (.istore 5, 2) := by decide +kernel
theorem dX11_writeOf_17 : decode cX11_writeOf 17 = .ok (.iload 5, 2) := by decide +kernel
theorem dX11_writeOf_19 : decode cX11_writeOf 19 = .ok (.iconst 1, 1) := by decide +kernel
theorem dX11_writeOf_20 : decode cX11_writeOf 20 = .ok (.aload_n 0, 1) := by decide +kernel
theorem dX11_writeOf_21 : decode cX11_writeOf 21 = .ok (.getfield 100, 3) := by decide +kernel
theorem dX11_writeOf_24 : decode cX11_writeOf 24 = .ok (.ishl, 1) := by decide +kernel
theorem dX11_writeOf_25 : decode cX11_writeOf 25 = .ok (.if_icmp .ge 71, 3) := by decide +kernel
theorem dX11_writeOf_28 : decode cX11_writeOf 28 = .ok (.iload 5, 2) := by decide +kernel
theorem dX11_writeOf_30 : decode cX11_writeOf 30 = .ok (.invokestatic 213, 3) := by decide +kernel
theorem dX11_writeOf_33 : decode cX11_writeOf 33 = .ok (.iload_n 1, 1) := by decide +kernel
theorem dX11_writeOf_34 : decode cX11_writeOf 34 = .ok (.if_icmp .ne 12, 3) := by decide +kernel
theorem dX11_writeOf_37 : decode cX11_writeOf 37 = .ok (.aload_n 0, 1) := by decide +kernel
theorem dX11_writeOf_38 : decode cX11_writeOf 38 = .ok (.iload 5, 2) := by decide +kernel
theorem dX11_writeOf_40 : decode cX11_writeOf 40 = .ok (.invokevirtual 216, 3) := by decide +kernel
theorem dX11_writeOf_43 : decode cX11_writeOf 43 = .ok (.goto 6, 3) := by decide +kernel
theorem dX11_writeOf_46 : decode cX11_writeOf 46 = .ok (.ldc2_w 225, 3) := by decide +kernel
theorem dX11_writeOf_49 : decode cX11_writeOf 49 = .ok (.lstore 6, 2) := by decide +kernel
theorem dX11_writeOf_51 : decode cX11_writeOf 51 = .ok (.lload 6, 2) := by decide +kernel
theorem dX11_writeOf_53 : decode cX11_writeOf 53 = .ok (.lconst 0, 1) := by decide +kernel
theorem dX11_writeOf_54 : decode cX11_writeOf 54 = .ok (.lcmp, 1) := by decide +kernel
theorem dX11_writeOf_55 : decode cX11_writeOf 55 = .ok (.ifCond .lt 20, 3) := by decide +kernel
theorem dX11_writeOf_58 : decode cX11_writeOf 58 = .ok (.iload_n 2, 1) := by decide +kernel
theorem dX11_writeOf_59 : decode cX11_writeOf 59 = .ok (.iconst (-1), 1) := by decide +kernel
theorem dX11_writeOf_60 : decode cX11_writeOf 60 = .ok (.if_icmp .eq 10, 3) := by decide +kernel
theorem dX11_writeOf_63 : decode cX11_writeOf 63 = .ok (.lload 6, 2) := by decide +kernel
theorem dX11_writeOf_65 : decode cX11_writeOf 65 = .ok (.lload_n 3, 1) := by decide +kernel
theorem dX11_writeOf_66 : decode cX11_writeOf 66 = .ok (.lcmp, 1) := by decide +kernel
theorem dX11_writeOf_67 : decode cX11_writeOf 67 = .ok (.ifCond .le 8, 3) := by decide +kernel
theorem dX11_writeOf_70 : decode cX11_writeOf 70 = .ok (.iload 5, 2) := by decide +kernel
theorem dX11_writeOf_72 : decode cX11_writeOf 72 = .ok (.goto 4, 3) := by decide +kernel
theorem dX11_writeOf_75 : decode cX11_writeOf 75 = .ok (.iload_n 2, 1) := by decide +kernel
theorem dX11_writeOf_76 : decode cX11_writeOf 76 = .ok (.istore_n 2, 1) := by decide +kernel
theorem dX11_writeOf_77 : decode cX11_writeOf 77 = .ok (.iload_n 2, 1) := by decide +kernel
theorem dX11_writeOf_78 : decode cX11_writeOf 78 = .ok (.iload 5, 2) := by decide +kernel
theorem dX11_writeOf_80 : decode cX11_writeOf 80 = .ok (.if_icmp .ne 8, 3) := by decide +kernel
theorem dX11_writeOf_83 : decode cX11_writeOf 83 = .ok (.lload 6, 2) := by decide +kernel
theorem dX11_writeOf_85 : decode cX11_writeOf 85 = .ok (.goto 4, 3) := by decide +kernel
theorem dX11_writeOf_88 : decode cX11_writeOf 88 = .ok (.lload_n 3, 1) := by decide +kernel
theorem dX11_writeOf_89 : decode cX11_writeOf 89 = .ok (.lstore_n 3, 1) := by decide +kernel
theorem dX11_writeOf_90 : decode cX11_writeOf 90 = .ok (.iinc 5 1, 3) := by decide +kernel
theorem dX11_writeOf_93 : decode cX11_writeOf 93 = .ok (.goto (-76), 3) := by decide +kernel
theorem dX11_writeOf_96 : decode cX11_writeOf 96 = .ok (.iload_n 2, 1) := by decide +kernel
theorem dX11_writeOf_97 : decode cX11_writeOf 97 = .ok (.ireturn, 1) := by decide +kernel
theorem dX11_cuesNow_0 : decode cX11_cuesNow 0 = .ok (.aload_n 0, 1) := by decide +kernel
theorem dX11_cuesNow_1 : decode cX11_cuesNow 1 = .ok (.invokevirtual 121, 3) := by decide +kernel
theorem dX11_cuesNow_4 : decode cX11_cuesNow 4 = .ok (.aload_n 0, 1) := by decide +kernel
theorem dX11_cuesNow_5 : decode cX11_cuesNow 5 = .ok (.getfield 100, 3) := by decide +kernel
theorem dX11_cuesNow_8 : decode cX11_cuesNow 8 = .ok (.ireturn, 1) := by decide +kernel
theorem dX11_write_0 : decode cX11_write 0 = .ok (.aload_n 0, 1) := by decide +kernel
theorem dX11_write_1 : decode cX11_write 1 = .ok (.invokevirtual 227, 3) := by decide +kernel
theorem dX11_write_4 : decode cX11_write 4 = .ok (.istore_n 2, 1) := by decide +kernel
theorem dX11_write_5 : decode cX11_write 5 = .ok (.iload_n 1, 1) := by decide +kernel
theorem dX11_write_6 : decode cX11_write 6 = .ok (.iconst 0, 1) := by decide +kernel
theorem dX11_write_7 : decode cX11_write 7 = .ok (.iload_n 2, 1) := by decide +kernel
theorem dX11_write_8 : decode cX11_write 8 = .ok (.iconst 3, 1) := by decide +kernel
theorem dX11_write_9 : decode cX11_write 9 = .ok (.if_icmp .ge 7, 3) := by decide +kernel
theorem dX11_write_12 : decode cX11_write 12 = .ok (.iload_n 2, 1) := by decide +kernel
theorem dX11_write_13 : decode cX11_write 13 = .ok (.goto 4, 3) := by decide +kernel
theorem dX11_write_16 : decode cX11_write 16 = .ok (.iconst 3, 1) := by decide +kernel
theorem dX11_write_17 : decode cX11_write 17 = .ok (.invokestatic 89, 3) := by decide +kernel
theorem dX11_write_20 : decode cX11_write 20 = .ok (.ifCond .eq 11, 3) := by decide +kernel
theorem dX11_write_23 : decode cX11_write 23 = .ok (.aload_n 0, 1) := by decide +kernel
theorem dX11_write_24 : decode cX11_write 24 = .ok (.iload_n 1, 1) := by decide +kernel
theorem dX11_write_25 : decode cX11_write 25 = .ok (.invokevirtual 230, 3) := by decide +kernel
theorem dX11_write_28 : decode cX11_write 28 = .ok (.goto 5, 3) := by decide +kernel
theorem dX11_write_31 : decode cX11_write 31 = .ok (.bipush (-2), 2) := by decide +kernel
theorem dX11_write_33 : decode cX11_write 33 = .ok (.ireturn, 1) := by decide +kernel
theorem dX11_fewOf_0 : decode cX11_fewOf 0 = .ok (.aload_n 0, 1) := by decide +kernel
theorem dX11_fewOf_1 : decode cX11_fewOf 1 = .ok (.invokevirtual 121, 3) := by decide +kernel
theorem dX11_fewOf_4 : decode cX11_fewOf 4 = .ok (.aload_n 0, 1) := by decide +kernel
theorem dX11_fewOf_5 : decode cX11_fewOf 5 = .ok (.getfield 97, 3) := by decide +kernel
theorem dX11_fewOf_8 : decode cX11_fewOf 8 = .ok (.ifCond .ne 6, 3) := by decide +kernel
theorem dX11_fewOf_11 : decode cX11_fewOf 11 = .ok (.bipush (-3), 2) := by decide +kernel
theorem dX11_fewOf_13 : decode cX11_fewOf 13 = .ok (.ireturn, 1) := by decide +kernel
theorem dX11_fewOf_14 : decode cX11_fewOf 14 = .ok (.iconst (-1), 1) := by decide +kernel
theorem dX11_fewOf_15 : decode cX11_fewOf 15 = .ok (.istore_n 2, 1) := by decide +kernel
theorem dX11_fewOf_16 : decode cX11_fewOf 16 = .ok (.iconst 0, 1) := by decide +kernel
theorem dX11_fewOf_17 : decode cX11_fewOf 17 = .ok (.istore_n 3, 1) := by decide +kernel
theorem dX11_fewOf_18 : decode cX11_fewOf 18 = .ok (.iload_n 3, 1) := by decide +kernel
theorem dX11_fewOf_19 : decode cX11_fewOf 19 = .ok (.iconst 1, 1) := by decide +kernel
theorem dX11_fewOf_20 : decode cX11_fewOf 20 = .ok (.aload_n 0, 1) := by decide +kernel
theorem dX11_fewOf_21 : decode cX11_fewOf 21 = .ok (.getfield 100, 3) := by decide +kernel
theorem dX11_fewOf_24 : decode cX11_fewOf 24 = .ok (.ishl, 1) := by decide +kernel
theorem dX11_fewOf_25 : decode cX11_fewOf 25 = .ok (.if_icmp .ge 63, 3) := by decide +kernel
theorem dX11_fewOf_28 : decode cX11_fewOf 28 = .ok (.iload_n 3, 1) := by decide +kernel
theorem dX11_fewOf_29 : decode cX11_fewOf 29 = .ok (.invokestatic 213, 3) := by decide +kernel
theorem dX11_fewOf_32 : decode cX11_fewOf 32 = .ok (.iconst 4, 1) := by decide +kernel
theorem dX11_fewOf_33 : decode cX11_fewOf 33 = .ok (.if_icmp .ge 49, 3) := by decide +kernel
theorem dX11_fewOf_36 : decode cX11_fewOf 36 = .ok (.iload_n 2, 1) := by decide +kernel
theorem dX11_fewOf_37 : decode cX11_fewOf 37 = .ok (.iconst (-1), 1) := by decide +kernel
theorem dX11_fewOf_38 : decode cX11_fewOf 38 = .ok (.if_icmp .eq 14, 3) := by decide +kernel
theorem dX11_fewOf_41 : decode cX11_fewOf 41 = .ok (.iload_n 3, 1) := by decide +kernel
theorem dX11_fewOf_42 : decode cX11_fewOf 42 = .ok (.invokestatic 213, 3) := by decide +kernel
theorem dX11_fewOf_45 : decode cX11_fewOf 45 = .ok (.iload_n 2, 1) := by decide +kernel
theorem dX11_fewOf_46 : decode cX11_fewOf 46 = .ok (.invokestatic 213, 3) := by decide +kernel
theorem dX11_fewOf_49 : decode cX11_fewOf 49 = .ok (.if_icmp .ge 33, 3) := by decide +kernel
theorem dX11_fewOf_52 : decode cX11_fewOf 52 = .ok (.aload_n 0, 1) := by decide +kernel
theorem dX11_fewOf_53 : decode cX11_fewOf 53 = .ok (.iload_n 3, 1) := by decide +kernel
theorem dX11_fewOf_54 : decode cX11_fewOf 54 = .ok (.invokevirtual 216, 3) := by decide +kernel
theorem dX11_fewOf_57 : decode cX11_fewOf 57 = .ok (.lstore 4, 2) := by decide +kernel
theorem dX11_fewOf_59 : decode cX11_fewOf 59 = .ok (.ldc2_w 151, 3) := by decide +kernel
theorem dX11_fewOf_62 : decode cX11_fewOf 62 = .ok (.lload 4, 2) := by decide +kernel
theorem dX11_fewOf_64 : decode cX11_fewOf 64 = .ok (.lmul, 1) := by decide +kernel
theorem dX11_fewOf_65 : decode cX11_fewOf 65 = .ok (.iload_n 1, 1) := by decide +kernel
theorem dX11_fewOf_66 : decode cX11_fewOf 66 = .ok (.i2l, 1) := by decide +kernel
theorem dX11_fewOf_67 : decode cX11_fewOf 67 = .ok (.aload_n 0, 1) := by decide +kernel
theorem dX11_fewOf_68 : decode cX11_fewOf 68 = .ok (.getfield 193, 3) := by decide +kernel
theorem dX11_fewOf_71 : decode cX11_fewOf 71 = .ok (.lmul, 1) := by decide +kernel
theorem dX11_fewOf_72 : decode cX11_fewOf 72 = .ok (.lcmp, 1) := by decide +kernel
theorem dX11_fewOf_73 : decode cX11_fewOf 73 = .ok (.ifCond .lt 7, 3) := by decide +kernel
theorem dX11_fewOf_76 : decode cX11_fewOf 76 = .ok (.iload_n 3, 1) := by decide +kernel
theorem dX11_fewOf_77 : decode cX11_fewOf 77 = .ok (.goto 4, 3) := by decide +kernel
theorem dX11_fewOf_80 : decode cX11_fewOf 80 = .ok (.iload_n 2, 1) := by decide +kernel
theorem dX11_fewOf_81 : decode cX11_fewOf 81 = .ok (.istore_n 2, 1) := by decide +kernel
theorem dX11_fewOf_82 : decode cX11_fewOf 82 = .ok (.iinc 3 1, 3) := by decide +kernel
theorem dX11_fewOf_85 : decode cX11_fewOf 85 = .ok (.goto (-67), 3) := by decide +kernel
theorem dX11_fewOf_88 : decode cX11_fewOf 88 = .ok (.iload_n 2, 1) := by decide +kernel
theorem dX11_fewOf_89 : decode cX11_fewOf 89 = .ok (.ireturn, 1) := by decide +kernel
theorem dX11_few_0 : decode cX11_few 0 = .ok (.iload_n 1, 1) := by decide +kernel
theorem dX11_few_1 : decode cX11_few 1 = .ok (.iconst 0, 1) := by decide +kernel
theorem dX11_few_2 : decode cX11_few 2 = .ok (.bipush 16, 2) := by decide +kernel
theorem dX11_few_4 : decode cX11_few 4 = .ok (.invokestatic 89, 3) := by decide +kernel
theorem dX11_few_7 : decode cX11_few 7 = .ok (.ifCond .eq 11, 3) := by decide +kernel
theorem dX11_few_10 : decode cX11_few 10 = .ok (.aload_n 0, 1) := by decide +kernel
theorem dX11_few_11 : decode cX11_few 11 = .ok (.iload_n 1, 1) := by decide +kernel
theorem dX11_few_12 : decode cX11_few 12 = .ok (.invokevirtual 233, 3) := by decide +kernel
theorem dX11_few_15 : decode cX11_few 15 = .ok (.goto 5, 3) := by decide +kernel
theorem dX11_few_18 : decode cX11_few 18 = .ok (.bipush (-2), 2) := by decide +kernel
theorem dX11_few_20 : decode cX11_few 20 = .ok (.ireturn, 1) := by decide +kernel
theorem dX11_anewOf_0 : decode cX11_anewOf 0 = .ok (.iconst 0, 1) := by decide +kernel
theorem dX11_anewOf_1 : decode cX11_anewOf 1 = .ok (.istore_n 2, 1) := by decide +kernel
theorem dX11_anewOf_2 : decode cX11_anewOf 2 = .ok (.iconst 0, 1) := by decide +kernel
theorem dX11_anewOf_3 : decode cX11_anewOf 3 = .ok (.istore_n 3, 1) := by decide +kernel
theorem dX11_anewOf_4 : decode cX11_anewOf 4 = .ok (.iload_n 3, 1) := by decide +kernel
theorem dX11_anewOf_5 : decode cX11_anewOf 5 = .ok (.aload_n 0, 1) := by decide +kernel
theorem dX11_anewOf_6 : decode cX11_anewOf 6 = .ok (.getfield 100, 3) := by decide +kernel
theorem dX11_anewOf_9 : decode cX11_anewOf 9 = .ok (.if_icmp .ge 42, 3) := by decide +kernel
theorem dX11_anewOf_12 : decode cX11_anewOf 12 = .ok (.iload_n 2, 1) := by decide +kernel
theorem dX11_anewOf_13 : decode cX11_anewOf 13 = .ok (.aload_n 0, 1) := by decide +kernel
theorem dX11_anewOf_14 : decode cX11_anewOf 14 = .ok (.getfield 16, 3) := by decide +kernel
theorem dX11_anewOf_17 : decode cX11_anewOf 17 = .ok (.aload_n 0, 1) := by decide +kernel
theorem dX11_anewOf_18 : decode cX11_anewOf 18 = .ok (.getfield 22, 3) := by decide +kernel
theorem dX11_anewOf_21 : decode cX11_anewOf 21 = .ok (.iload_n 3, 1) := by decide +kernel
theorem dX11_anewOf_22 : decode cX11_anewOf 22 = .ok (.iaload, 1) := by decide +kernel
theorem dX11_anewOf_23 : decode cX11_anewOf 23 = .ok (.iaload, 1) := by decide +kernel
theorem dX11_anewOf_24 : decode cX11_anewOf 24 = .ok (.aload_n 0, 1) := by decide +kernel
theorem dX11_anewOf_25 : decode cX11_anewOf 25 = .ok (.getfield 16, 3) := by decide +kernel
theorem dX11_anewOf_28 : decode cX11_anewOf 28 = .ok (.aload_n 0, 1) := by decide +kernel
theorem dX11_anewOf_29 : decode cX11_anewOf 29 = .ok (.getfield 22, 3) := by decide +kernel
theorem dX11_anewOf_32 : decode cX11_anewOf 32 = .ok (.iload_n 1, 1) := by decide +kernel
theorem dX11_anewOf_33 : decode cX11_anewOf 33 = .ok (.iaload, 1) := by decide +kernel
theorem dX11_anewOf_34 : decode cX11_anewOf 34 = .ok (.iaload, 1) := by decide +kernel
theorem dX11_anewOf_35 : decode cX11_anewOf 35 = .ok (.if_icmp .ne 7, 3) := by decide +kernel
theorem dX11_anewOf_38 : decode cX11_anewOf 38 = .ok (.iconst 1, 1) := by decide +kernel
theorem dX11_anewOf_39 : decode cX11_anewOf 39 = .ok (.goto 4, 3) := by decide +kernel
theorem dX11_anewOf_42 : decode cX11_anewOf 42 = .ok (.iconst 0, 1) := by decide +kernel
theorem dX11_anewOf_43 : decode cX11_anewOf 43 = .ok (.iadd, 1) := by decide +kernel
theorem dX11_anewOf_44 : decode cX11_anewOf 44 = .ok (.istore_n 2, 1) := by decide +kernel
theorem dX11_anewOf_45 : decode cX11_anewOf 45 = .ok (.iinc 3 1, 3) := by decide +kernel
theorem dX11_anewOf_48 : decode cX11_anewOf 48 = .ok (.goto (-44), 3) := by decide +kernel
theorem dX11_anewOf_51 : decode cX11_anewOf 51 = .ok (.aload_n 0, 1) := by decide +kernel
theorem dX11_anewOf_52 : decode cX11_anewOf 52 = .ok (.getfield 31, 3) := by decide +kernel
theorem dX11_anewOf_55 : decode cX11_anewOf 55 = .ok (.iconst 0, 1) := by decide +kernel
theorem dX11_anewOf_56 : decode cX11_anewOf 56 = .ok (.iaload, 1) := by decide +kernel
theorem dX11_anewOf_57 : decode cX11_anewOf 57 = .ok (.iload_n 2, 1) := by decide +kernel
theorem dX11_anewOf_58 : decode cX11_anewOf 58 = .ok (.imul, 1) := by decide +kernel
theorem dX11_anewOf_59 : decode cX11_anewOf 59 = .ok (.aload_n 0, 1) := by decide +kernel
theorem dX11_anewOf_60 : decode cX11_anewOf 60 = .ok (.getfield 31, 3) := by decide +kernel
theorem dX11_anewOf_63 : decode cX11_anewOf 63 = .ok (.iconst 1, 1) := by decide +kernel
theorem dX11_anewOf_64 : decode cX11_anewOf 64 = .ok (.iaload, 1) := by decide +kernel
theorem dX11_anewOf_65 : decode cX11_anewOf 65 = .ok (.aload_n 0, 1) := by decide +kernel
theorem dX11_anewOf_66 : decode cX11_anewOf 66 = .ok (.getfield 100, 3) := by decide +kernel
theorem dX11_anewOf_69 : decode cX11_anewOf 69 = .ok (.iload_n 2, 1) := by decide +kernel
theorem dX11_anewOf_70 : decode cX11_anewOf 70 = .ok (.isub, 1) := by decide +kernel
theorem dX11_anewOf_71 : decode cX11_anewOf 71 = .ok (.imul, 1) := by decide +kernel
theorem dX11_anewOf_72 : decode cX11_anewOf 72 = .ok (.iadd, 1) := by decide +kernel
theorem dX11_anewOf_73 : decode cX11_anewOf 73 = .ok (.i2l, 1) := by decide +kernel
theorem dX11_anewOf_74 : decode cX11_anewOf 74 = .ok (.lstore_n 3, 1) := by decide +kernel
theorem dX11_anewOf_75 : decode cX11_anewOf 75 = .ok (.aload_n 0, 1) := by decide +kernel
theorem dX11_anewOf_76 : decode cX11_anewOf 76 = .ok (.aload_n 0, 1) := by decide +kernel
theorem dX11_anewOf_77 : decode cX11_anewOf 77 = .ok (.getfield 22, 3) := by decide +kernel
theorem dX11_anewOf_80 : decode cX11_anewOf 80 = .ok (.iload_n 1, 1) := by decide +kernel
theorem dX11_anewOf_81 : decode cX11_anewOf 81 = .ok (.iaload, 1) := by decide +kernel
theorem dX11_anewOf_82 : decode cX11_anewOf 82 = .ok (.iconst 0, 1) := by decide +kernel
theorem dX11_anewOf_83 : decode cX11_anewOf 83 = .ok (.iconst (-1), 1) := by decide +kernel
theorem dX11_anewOf_84 : decode cX11_anewOf 84 = .ok (.invokevirtual 206, 3) := by decide +kernel
theorem dX11_anewOf_87 : decode cX11_anewOf 87 = .ok (.lload_n 3, 1) := by decide +kernel
theorem dX11_anewOf_88 : decode cX11_anewOf 88 = .ok (.lconst 0, 1) := by decide +kernel
theorem dX11_anewOf_89 : decode cX11_anewOf 89 = .ok (.lcmp, 1) := by decide +kernel
theorem dX11_anewOf_90 : decode cX11_anewOf 90 = .ok (.ifCond .le 32, 3) := by decide +kernel
theorem dX11_anewOf_93 : decode cX11_anewOf 93 = .ok (.aload_n 0, 1) := by decide +kernel
theorem dX11_anewOf_94 : decode cX11_anewOf 94 = .ok (.getfield 31, 3) := by decide +kernel
theorem dX11_anewOf_97 : decode cX11_anewOf 97 = .ok (.iconst 0, 1) := by decide +kernel
theorem dX11_anewOf_98 : decode cX11_anewOf 98 = .ok (.iaload, 1) := by decide +kernel
theorem dX11_anewOf_99 : decode cX11_anewOf 99 = .ok (.i2l, 1) := by decide +kernel
theorem dX11_anewOf_100 : decode cX11_anewOf 100 = .ok (.aload_n 0, 1) := by decide +kernel
theorem dX11_anewOf_101 : decode cX11_anewOf 101 = .ok (.getfield 193, 3) := by decide +kernel
theorem dX11_anewOf_104 : decode cX11_anewOf 104 = .ok (.lmul, 1) := by decide +kernel
theorem dX11_anewOf_105 : decode cX11_anewOf 105 = .ok (.aload_n 0, 1) := by decide +kernel
theorem dX11_anewOf_106 : decode cX11_anewOf 106 = .ok (.getfield 56, 3) := by decide +kernel
theorem dX11_anewOf_109 : decode cX11_anewOf 109 = .ok (.bipush 10, 2) := by decide +kernel
theorem dX11_anewOf_111 : decode cX11_anewOf 111 = .ok (.laload, 1) := by decide +kernel
theorem dX11_anewOf_112 : decode cX11_anewOf 112 = .ok (.lload_n 3, 1) := by decide +kernel
theorem dX11_anewOf_113 : decode cX11_anewOf 113 = .ok (.lmul, 1) := by decide +kernel
theorem dX11_anewOf_114 : decode cX11_anewOf 114 = .ok (.lcmp, 1) := by decide +kernel
theorem dX11_anewOf_115 : decode cX11_anewOf 115 = .ok (.ifCond .le 7, 3) := by decide +kernel
theorem dX11_anewOf_118 : decode cX11_anewOf 118 = .ok (.iconst 1, 1) := by decide +kernel
theorem dX11_anewOf_119 : decode cX11_anewOf 119 = .ok (.goto 4, 3) := by decide +kernel
theorem dX11_anewOf_122 : decode cX11_anewOf 122 = .ok (.iconst 0, 1) := by decide +kernel
theorem dX11_anewOf_123 : decode cX11_anewOf 123 = .ok (.ireturn, 1) := by decide +kernel
theorem dX11_anew_0 : decode cX11_anew 0 = .ok (.iload_n 1, 1) := by decide +kernel
theorem dX11_anew_1 : decode cX11_anew 1 = .ok (.iconst 0, 1) := by decide +kernel
theorem dX11_anew_2 : decode cX11_anew 2 = .ok (.aload_n 0, 1) := by decide +kernel
theorem dX11_anew_3 : decode cX11_anew 3 = .ok (.invokevirtual 227, 3) := by decide +kernel
theorem dX11_anew_6 : decode cX11_anew 6 = .ok (.iconst 1, 1) := by decide +kernel
theorem dX11_anew_7 : decode cX11_anew 7 = .ok (.isub, 1) := by decide +kernel
theorem dX11_anew_8 : decode cX11_anew 8 = .ok (.invokestatic 89, 3) := by decide +kernel
theorem dX11_anew_11 : decode cX11_anew 11 = .ok (.ifCond .eq 11, 3) := by decide +kernel
theorem dX11_anew_14 : decode cX11_anew 14 = .ok (.aload_n 0, 1) := by decide +kernel
theorem dX11_anew_15 : decode cX11_anew 15 = .ok (.iload_n 1, 1) := by decide +kernel
theorem dX11_anew_16 : decode cX11_anew 16 = .ok (.invokevirtual 236, 3) := by decide +kernel
theorem dX11_anew_19 : decode cX11_anew 19 = .ok (.goto 5, 3) := by decide +kernel
theorem dX11_anew_22 : decode cX11_anew 22 = .ok (.bipush (-2), 2) := by decide +kernel
theorem dX11_anew_24 : decode cX11_anew 24 = .ok (.ireturn, 1) := by decide +kernel
theorem dX11_joint_0 : decode cX11_joint 0 = .ok (.iload_n 1, 1) := by decide +kernel
theorem dX11_joint_1 : decode cX11_joint 1 = .ok (.iconst 0, 1) := by decide +kernel
theorem dX11_joint_2 : decode cX11_joint 2 = .ok (.bipush 16, 2) := by decide +kernel
theorem dX11_joint_4 : decode cX11_joint 4 = .ok (.invokestatic 89, 3) := by decide +kernel
theorem dX11_joint_7 : decode cX11_joint 7 = .ok (.ifCond .eq 22, 3) := by decide +kernel
theorem dX11_joint_10 : decode cX11_joint 10 = .ok (.iload_n 2, 1) := by decide +kernel
theorem dX11_joint_11 : decode cX11_joint 11 = .ok (.iconst 0, 1) := by decide +kernel
theorem dX11_joint_12 : decode cX11_joint 12 = .ok (.bipush 16, 2) := by decide +kernel
theorem dX11_joint_14 : decode cX11_joint 14 = .ok (.invokestatic 89, 3) := by decide +kernel
theorem dX11_joint_17 : decode cX11_joint 17 = .ok (.ifCond .eq 12, 3) := by decide +kernel
theorem dX11_joint_20 : decode cX11_joint 20 = .ok (.iload_n 3, 1) := by decide +kernel
theorem dX11_joint_21 : decode cX11_joint 21 = .ok (.iconst 0, 1) := by decide +kernel
theorem dX11_joint_22 : decode cX11_joint 22 = .ok (.iconst 1, 1) := by decide +kernel
theorem dX11_joint_23 : decode cX11_joint 23 = .ok (.invokestatic 89, 3) := by decide +kernel
theorem dX11_joint_26 : decode cX11_joint 26 = .ok (.ifCond .ne 9, 3) := by decide +kernel
theorem dX11_joint_29 : decode cX11_joint 29 = .ok (.bipush (-2), 2) := by decide +kernel
theorem dX11_joint_31 : decode cX11_joint 31 = .ok (.invokestatic 168, 3) := by decide +kernel
theorem dX11_joint_34 : decode cX11_joint 34 = .ok (.lreturn, 1) := by decide +kernel
theorem dX11_joint_35 : decode cX11_joint 35 = .ok (.iload_n 1, 1) := by decide +kernel
theorem dX11_joint_36 : decode cX11_joint 36 = .ok (.iload_n 2, 1) := by decide +kernel
theorem dX11_joint_37 : decode cX11_joint 37 = .ok (.imul, 1) := by decide +kernel
theorem dX11_joint_38 : decode cX11_joint 38 = .ok (.istore 4, 2) := by decide +kernel
theorem dX11_joint_40 : decode cX11_joint 40 = .ok (.bipush 16, 2) := by decide +kernel
theorem dX11_joint_42 : decode cX11_joint 42 = .ok (.iload_n 1, 1) := by decide +kernel
theorem dX11_joint_43 : decode cX11_joint 43 = .ok (.isub, 1) := by decide +kernel
theorem dX11_joint_44 : decode cX11_joint 44 = .ok (.bipush 16, 2) := by decide +kernel
theorem dX11_joint_46 : decode cX11_joint 46 = .ok (.iload_n 2, 1) := by decide +kernel
theorem dX11_joint_47 : decode cX11_joint 47 = .ok (.isub, 1) := by decide +kernel
theorem dX11_joint_48 : decode cX11_joint 48 = .ok (.imul, 1) := by decide +kernel
theorem dX11_joint_49 : decode cX11_joint 49 = .ok (.istore 5, 2) := by decide +kernel
theorem dX11_joint_51 : decode cX11_joint 51 = .ok (.iload 4, 2) := by decide +kernel
theorem dX11_joint_53 : decode cX11_joint 53 = .ok (.iload 5, 2) := by decide +kernel
theorem dX11_joint_55 : decode cX11_joint 55 = .ok (.iadd, 1) := by decide +kernel
theorem dX11_joint_56 : decode cX11_joint 56 = .ok (.ifCond .ne 11, 3) := by decide +kernel
theorem dX11_joint_59 : decode cX11_joint 59 = .ok (.bipush (-3), 2) := by decide +kernel
theorem dX11_joint_61 : decode cX11_joint 61 = .ok (.invokestatic 168, 3) := by decide +kernel
theorem dX11_joint_64 : decode cX11_joint 64 = .ok (.goto 16, 3) := by decide +kernel
theorem dX11_joint_67 : decode cX11_joint 67 = .ok (.iload 4, 2) := by decide +kernel
theorem dX11_joint_69 : decode cX11_joint 69 = .ok (.i2l, 1) := by decide +kernel
theorem dX11_joint_70 : decode cX11_joint 70 = .ok (.iload 4, 2) := by decide +kernel
theorem dX11_joint_72 : decode cX11_joint 72 = .ok (.iload 5, 2) := by decide +kernel
theorem dX11_joint_74 : decode cX11_joint 74 = .ok (.iadd, 1) := by decide +kernel
theorem dX11_joint_75 : decode cX11_joint 75 = .ok (.i2l, 1) := by decide +kernel
theorem dX11_joint_76 : decode cX11_joint 76 = .ok (.iload_n 3, 1) := by decide +kernel
theorem dX11_joint_77 : decode cX11_joint 77 = .ok (.invokestatic 172, 3) := by decide +kernel
theorem dX11_joint_80 : decode cX11_joint 80 = .ok (.lreturn, 1) := by decide +kernel
theorem dX11_eveningBy_0 : decode cX11_eveningBy 0 = .ok (.aload_n 0, 1) := by decide +kernel
theorem dX11_eveningBy_1 : decode cX11_eveningBy 1 = .ok (.aload_n 0, 1) := by decide +kernel
theorem dX11_eveningBy_2 : decode cX11_eveningBy 2 = .ok (.getfield 97, 3) := by decide +kernel
theorem dX11_eveningBy_5 : decode cX11_eveningBy 5 = .ok (.iconst 1, 1) := by decide +kernel
theorem dX11_eveningBy_6 : decode cX11_eveningBy 6 = .ok (.isub, 1) := by decide +kernel
theorem dX11_eveningBy_7 : decode cX11_eveningBy 7 = .ok (.iconst 0, 1) := by decide +kernel
theorem dX11_eveningBy_8 : decode cX11_eveningBy 8 = .ok (.iload_n 1, 1) := by decide +kernel
theorem dX11_eveningBy_9 : decode cX11_eveningBy 9 = .ok (.invokevirtual 206, 3) := by decide +kernel
theorem dX11_eveningBy_12 : decode cX11_eveningBy 12 = .ok (.aload_n 0, 1) := by decide +kernel
theorem dX11_eveningBy_13 : decode cX11_eveningBy 13 = .ok (.getfield 56, 3) := by decide +kernel
theorem dX11_eveningBy_16 : decode cX11_eveningBy 16 = .ok (.bipush 10, 2) := by decide +kernel
theorem dX11_eveningBy_18 : decode cX11_eveningBy 18 = .ok (.laload, 1) := by decide +kernel
theorem dX11_eveningBy_19 : decode cX11_eveningBy 19 = .ok (.lreturn, 1) := by decide +kernel
theorem dX11_eveningOf_0 : decode cX11_eveningOf 0 = .ok (.aload_n 0, 1) := by decide +kernel
theorem dX11_eveningOf_1 : decode cX11_eveningOf 1 = .ok (.invokevirtual 121, 3) := by decide +kernel
theorem dX11_eveningOf_4 : decode cX11_eveningOf 4 = .ok (.aload_n 0, 1) := by decide +kernel
theorem dX11_eveningOf_5 : decode cX11_eveningOf 5 = .ok (.getfield 97, 3) := by decide +kernel
theorem dX11_eveningOf_8 : decode cX11_eveningOf 8 = .ok (.ifCond .ne 9, 3) := by decide +kernel
theorem dX11_eveningOf_11 : decode cX11_eveningOf 11 = .ok (.bipush (-3), 2) := by decide +kernel
theorem dX11_eveningOf_13 : decode cX11_eveningOf 13 = .ok (.invokestatic 168, 3) := by decide +kernel
theorem dX11_eveningOf_16 : decode cX11_eveningOf 16 = .ok (.lreturn, 1) := by decide +kernel
theorem dX11_eveningOf_17 : decode cX11_eveningOf 17 = .ok (.aload_n 0, 1) := by decide +kernel
theorem dX11_eveningOf_18 : decode cX11_eveningOf 18 = .ok (.iload_n 1, 1) := by decide +kernel
theorem dX11_eveningOf_19 : decode cX11_eveningOf 19 = .ok (.invokevirtual 239, 3) := by decide +kernel
theorem dX11_eveningOf_22 : decode cX11_eveningOf 22 = .ok (.lstore_n 3, 1) := by decide +kernel
theorem dX11_eveningOf_23 : decode cX11_eveningOf 23 = .ok (.lload_n 3, 1) := by decide +kernel
theorem dX11_eveningOf_24 : decode cX11_eveningOf 24 = .ok (.aload_n 0, 1) := by decide +kernel
theorem dX11_eveningOf_25 : decode cX11_eveningOf 25 = .ok (.getfield 193, 3) := by decide +kernel
theorem dX11_eveningOf_28 : decode cX11_eveningOf 28 = .ok (.iload_n 2, 1) := by decide +kernel
theorem dX11_eveningOf_29 : decode cX11_eveningOf 29 = .ok (.invokestatic 172, 3) := by decide +kernel
theorem dX11_eveningOf_32 : decode cX11_eveningOf 32 = .ok (.lreturn, 1) := by decide +kernel
theorem dX11_evening_0 : decode cX11_evening 0 = .ok (.iload_n 1, 1) := by decide +kernel
theorem dX11_evening_1 : decode cX11_evening 1 = .ok (.iconst 0, 1) := by decide +kernel
theorem dX11_evening_2 : decode cX11_evening 2 = .ok (.bipush 59, 2) := by decide +kernel
theorem dX11_evening_4 : decode cX11_evening 4 = .ok (.invokestatic 89, 3) := by decide +kernel
theorem dX11_evening_7 : decode cX11_evening 7 = .ok (.ifCond .eq 21, 3) := by decide +kernel
theorem dX11_evening_10 : decode cX11_evening 10 = .ok (.iload_n 2, 1) := by decide +kernel
theorem dX11_evening_11 : decode cX11_evening 11 = .ok (.iconst 0, 1) := by decide +kernel
theorem dX11_evening_12 : decode cX11_evening 12 = .ok (.iconst 1, 1) := by decide +kernel
theorem dX11_evening_13 : decode cX11_evening 13 = .ok (.invokestatic 89, 3) := by decide +kernel
theorem dX11_evening_16 : decode cX11_evening 16 = .ok (.ifCond .eq 12, 3) := by decide +kernel
theorem dX11_evening_19 : decode cX11_evening 19 = .ok (.aload_n 0, 1) := by decide +kernel
theorem dX11_evening_20 : decode cX11_evening 20 = .ok (.iload_n 1, 1) := by decide +kernel
theorem dX11_evening_21 : decode cX11_evening 21 = .ok (.iload_n 2, 1) := by decide +kernel
theorem dX11_evening_22 : decode cX11_evening 22 = .ok (.invokevirtual 242, 3) := by decide +kernel
theorem dX11_evening_25 : decode cX11_evening 25 = .ok (.goto 8, 3) := by decide +kernel
theorem dX11_evening_28 : decode cX11_evening 28 = .ok (.bipush (-2), 2) := by decide +kernel
theorem dX11_evening_30 : decode cX11_evening 30 = .ok (.invokestatic 168, 3) := by decide +kernel
theorem dX11_evening_33 : decode cX11_evening 33 = .ok (.lreturn, 1) := by decide +kernel
theorem dX11_primeOf_0 : decode cX11_primeOf 0 = .ok (.aload_n 0, 1) := by decide +kernel
theorem dX11_primeOf_1 : decode cX11_primeOf 1 = .ok (.invokevirtual 121, 3) := by decide +kernel
theorem dX11_primeOf_4 : decode cX11_primeOf 4 = .ok (.aload_n 0, 1) := by decide +kernel
theorem dX11_primeOf_5 : decode cX11_primeOf 5 = .ok (.getfield 97, 3) := by decide +kernel
theorem dX11_primeOf_8 : decode cX11_primeOf 8 = .ok (.ifCond .ne 6, 3) := by decide +kernel
theorem dX11_primeOf_11 : decode cX11_primeOf 11 = .ok (.bipush (-3), 2) := by decide +kernel
theorem dX11_primeOf_13 : decode cX11_primeOf 13 = .ok (.ireturn, 1) := by decide +kernel
theorem dX11_primeOf_14 : decode cX11_primeOf 14 = .ok (.iconst 0, 1) := by decide +kernel
theorem dX11_primeOf_15 : decode cX11_primeOf 15 = .ok (.istore_n 2, 1) := by decide +kernel
theorem dX11_primeOf_16 : decode cX11_primeOf 16 = .ok (.iconst 1, 1) := by decide +kernel
theorem dX11_primeOf_17 : decode cX11_primeOf 17 = .ok (.istore_n 3, 1) := by decide +kernel
theorem dX11_primeOf_18 : decode cX11_primeOf 18 = .ok (.iload_n 3, 1) := by decide +kernel
theorem dX11_primeOf_19 : decode cX11_primeOf 19 = .ok (.bipush 60, 2) := by decide +kernel
theorem dX11_primeOf_21 : decode cX11_primeOf 21 = .ok (.if_icmp .ge 29, 3) := by decide +kernel
theorem dX11_primeOf_24 : decode cX11_primeOf 24 = .ok (.aload_n 0, 1) := by decide +kernel
theorem dX11_primeOf_25 : decode cX11_primeOf 25 = .ok (.iload_n 3, 1) := by decide +kernel
theorem dX11_primeOf_26 : decode cX11_primeOf 26 = .ok (.invokevirtual 239, 3) := by decide +kernel
theorem dX11_primeOf_29 : decode cX11_primeOf 29 = .ok (.aload_n 0, 1) := by decide +kernel
theorem dX11_primeOf_30 : decode cX11_primeOf 30 = .ok (.iload_n 2, 1) := by decide +kernel
theorem dX11_primeOf_31 : decode cX11_primeOf 31 = .ok (.invokevirtual 239, 3) := by decide +kernel
theorem dX11_primeOf_34 : decode cX11_primeOf 34 = .ok (.lcmp, 1) := by decide +kernel
theorem dX11_primeOf_35 : decode cX11_primeOf 35 = .ok (.ifCond .le 7, 3) := by decide +kernel
theorem dX11_primeOf_38 : decode cX11_primeOf 38 = .ok (.iload_n 3, 1) := by decide +kernel
theorem dX11_primeOf_39 : decode cX11_primeOf 39 = .ok (.goto 4, 3) := by decide +kernel
theorem dX11_primeOf_42 : decode cX11_primeOf 42 = .ok (.iload_n 2, 1) := by decide +kernel
theorem dX11_primeOf_43 : decode cX11_primeOf 43 = .ok (.istore_n 2, 1) := by decide +kernel
theorem dX11_primeOf_44 : decode cX11_primeOf 44 = .ok (.iinc 3 1, 3) := by decide +kernel
theorem dX11_primeOf_47 : decode cX11_primeOf 47 = .ok (.goto (-29), 3) := by decide +kernel
theorem dX11_primeOf_50 : decode cX11_primeOf 50 = .ok (.iconst 0, 1) := by decide +kernel
theorem dX11_primeOf_51 : decode cX11_primeOf 51 = .ok (.istore_n 3, 1) := by decide +kernel
theorem dX11_primeOf_52 : decode cX11_primeOf 52 = .ok (.iload_n 2, 1) := by decide +kernel
theorem dX11_primeOf_53 : decode cX11_primeOf 53 = .ok (.iload_n 3, 1) := by decide +kernel
theorem dX11_primeOf_54 : decode cX11_primeOf 54 = .ok (.iadd, 1) := by decide +kernel
theorem dX11_primeOf_55 : decode cX11_primeOf 55 = .ok (.bipush 60, 2) := by decide +kernel
theorem dX11_primeOf_57 : decode cX11_primeOf 57 = .ok (.if_icmp .ge 25, 3) := by decide +kernel
theorem dX11_primeOf_60 : decode cX11_primeOf 60 = .ok (.aload_n 0, 1) := by decide +kernel
theorem dX11_primeOf_61 : decode cX11_primeOf 61 = .ok (.iload_n 2, 1) := by decide +kernel
theorem dX11_primeOf_62 : decode cX11_primeOf 62 = .ok (.iload_n 3, 1) := by decide +kernel
theorem dX11_primeOf_63 : decode cX11_primeOf 63 = .ok (.iadd, 1) := by decide +kernel
theorem dX11_primeOf_64 : decode cX11_primeOf 64 = .ok (.invokevirtual 239, 3) := by decide +kernel
theorem dX11_primeOf_67 : decode cX11_primeOf 67 = .ok (.aload_n 0, 1) := by decide +kernel
theorem dX11_primeOf_68 : decode cX11_primeOf 68 = .ok (.iload_n 2, 1) := by decide +kernel
theorem dX11_primeOf_69 : decode cX11_primeOf 69 = .ok (.invokevirtual 239, 3) := by decide +kernel
theorem dX11_primeOf_72 : decode cX11_primeOf 72 = .ok (.lcmp, 1) := by decide +kernel
theorem dX11_primeOf_73 : decode cX11_primeOf 73 = .ok (.ifCond .ne 9, 3) := by decide +kernel
theorem dX11_primeOf_76 : decode cX11_primeOf 76 = .ok (.iinc 3 1, 3) := by decide +kernel
theorem dX11_primeOf_79 : decode cX11_primeOf 79 = .ok (.goto (-27), 3) := by decide +kernel
theorem dX11_primeOf_82 : decode cX11_primeOf 82 = .ok (.iload_n 1, 1) := by decide +kernel
theorem dX11_primeOf_83 : decode cX11_primeOf 83 = .ok (.ifCond .ne 7, 3) := by decide +kernel
theorem dX11_primeOf_86 : decode cX11_primeOf 86 = .ok (.iload_n 2, 1) := by decide +kernel
theorem dX11_primeOf_87 : decode cX11_primeOf 87 = .ok (.goto 4, 3) := by decide +kernel
theorem dX11_primeOf_90 : decode cX11_primeOf 90 = .ok (.iload_n 3, 1) := by decide +kernel
theorem dX11_primeOf_91 : decode cX11_primeOf 91 = .ok (.ireturn, 1) := by decide +kernel
theorem dX11_prime_0 : decode cX11_prime 0 = .ok (.iload_n 1, 1) := by decide +kernel
theorem dX11_prime_1 : decode cX11_prime 1 = .ok (.iconst 0, 1) := by decide +kernel
theorem dX11_prime_2 : decode cX11_prime 2 = .ok (.iconst 1, 1) := by decide +kernel
theorem dX11_prime_3 : decode cX11_prime 3 = .ok (.invokestatic 89, 3) := by decide +kernel
theorem dX11_prime_6 : decode cX11_prime 6 = .ok (.ifCond .eq 11, 3) := by decide +kernel
theorem dX11_prime_9 : decode cX11_prime 9 = .ok (.aload_n 0, 1) := by decide +kernel
theorem dX11_prime_10 : decode cX11_prime 10 = .ok (.iload_n 1, 1) := by decide +kernel
theorem dX11_prime_11 : decode cX11_prime 11 = .ok (.invokevirtual 245, 3) := by decide +kernel
theorem dX11_prime_14 : decode cX11_prime 14 = .ok (.goto 5, 3) := by decide +kernel
theorem dX11_prime_17 : decode cX11_prime 17 = .ok (.bipush (-2), 2) := by decide +kernel
theorem dX11_prime_19 : decode cX11_prime 19 = .ok (.ireturn, 1) := by decide +kernel
theorem dX11_player_0 : decode cX11_player 0 = .ok (.iload_n 1, 1) := by decide +kernel
theorem dX11_player_1 : decode cX11_player 1 = .ok (.iconst 1, 1) := by decide +kernel
theorem dX11_player_2 : decode cX11_player 2 = .ok (.bipush 98, 2) := by decide +kernel
theorem dX11_player_4 : decode cX11_player 4 = .ok (.invokestatic 89, 3) := by decide +kernel
theorem dX11_player_7 : decode cX11_player 7 = .ok (.ifCond .eq 13, 3) := by decide +kernel
theorem dX11_player_10 : decode cX11_player 10 = .ok (.iload_n 2, 1) := by decide +kernel
theorem dX11_player_11 : decode cX11_player 11 = .ok (.iconst 1, 1) := by decide +kernel
theorem dX11_player_12 : decode cX11_player 12 = .ok (.bipush 99, 2) := by decide +kernel
theorem dX11_player_14 : decode cX11_player 14 = .ok (.invokestatic 89, 3) := by decide +kernel
theorem dX11_player_17 : decode cX11_player 17 = .ok (.ifCond .ne 6, 3) := by decide +kernel
theorem dX11_player_20 : decode cX11_player 20 = .ok (.bipush (-2), 2) := by decide +kernel
theorem dX11_player_22 : decode cX11_player 22 = .ok (.ireturn, 1) := by decide +kernel
theorem dX11_player_23 : decode cX11_player 23 = .ok (.aload_n 0, 1) := by decide +kernel
theorem dX11_player_24 : decode cX11_player 24 = .ok (.getfield 248, 3) := by decide +kernel
theorem dX11_player_27 : decode cX11_player 27 = .ok (.bipush 8, 2) := by decide +kernel
theorem dX11_player_29 : decode cX11_player 29 = .ok (.if_icmp .ne 6, 3) := by decide +kernel
theorem dX11_player_32 : decode cX11_player 32 = .ok (.bipush (-4), 2) := by decide +kernel
theorem dX11_player_34 : decode cX11_player 34 = .ok (.ireturn, 1) := by decide +kernel
theorem dX11_player_35 : decode cX11_player 35 = .ok (.aload_n 0, 1) := by decide +kernel
theorem dX11_player_36 : decode cX11_player 36 = .ok (.getfield 62, 3) := by decide +kernel
theorem dX11_player_39 : decode cX11_player 39 = .ok (.aload_n 0, 1) := by decide +kernel
theorem dX11_player_40 : decode cX11_player 40 = .ok (.getfield 248, 3) := by decide +kernel
theorem dX11_player_43 : decode cX11_player 43 = .ok (.iload_n 1, 1) := by decide +kernel
theorem dX11_player_44 : decode cX11_player 44 = .ok (.iastore, 1) := by decide +kernel
theorem dX11_player_45 : decode cX11_player 45 = .ok (.aload_n 0, 1) := by decide +kernel
theorem dX11_player_46 : decode cX11_player 46 = .ok (.getfield 65, 3) := by decide +kernel
theorem dX11_player_49 : decode cX11_player 49 = .ok (.aload_n 0, 1) := by decide +kernel
theorem dX11_player_50 : decode cX11_player 50 = .ok (.getfield 248, 3) := by decide +kernel
theorem dX11_player_53 : decode cX11_player 53 = .ok (.iload_n 2, 1) := by decide +kernel
theorem dX11_player_54 : decode cX11_player 54 = .ok (.iastore, 1) := by decide +kernel
theorem dX11_player_55 : decode cX11_player 55 = .ok (.aload_n 0, 1) := by decide +kernel
theorem dX11_player_56 : decode cX11_player 56 = .ok (.dup, 1) := by decide +kernel
theorem dX11_player_57 : decode cX11_player 57 = .ok (.getfield 248, 3) := by decide +kernel
theorem dX11_player_60 : decode cX11_player 60 = .ok (.iconst 1, 1) := by decide +kernel
theorem dX11_player_61 : decode cX11_player 61 = .ok (.iadd, 1) := by decide +kernel
theorem dX11_player_62 : decode cX11_player 62 = .ok (.putfield 248, 3) := by decide +kernel
theorem dX11_player_65 : decode cX11_player 65 = .ok (.aload_n 0, 1) := by decide +kernel
theorem dX11_player_66 : decode cX11_player 66 = .ok (.getfield 248, 3) := by decide +kernel
theorem dX11_player_69 : decode cX11_player 69 = .ok (.ireturn, 1) := by decide +kernel
theorem dX11_leave_0 : decode cX11_leave 0 = .ok (.aload_n 0, 1) := by decide +kernel
theorem dX11_leave_1 : decode cX11_leave 1 = .ok (.getfield 248, 3) := by decide +kernel
theorem dX11_leave_4 : decode cX11_leave 4 = .ok (.istore_n 1, 1) := by decide +kernel
theorem dX11_leave_5 : decode cX11_leave 5 = .ok (.aload_n 0, 1) := by decide +kernel
theorem dX11_leave_6 : decode cX11_leave 6 = .ok (.iconst 0, 1) := by decide +kernel
theorem dX11_leave_7 : decode cX11_leave 7 = .ok (.putfield 248, 3) := by decide +kernel
theorem dX11_leave_10 : decode cX11_leave 10 = .ok (.iload_n 1, 1) := by decide +kernel
theorem dX11_leave_11 : decode cX11_leave 11 = .ok (.ireturn, 1) := by decide +kernel
theorem dX11_looksBy_0 : decode cX11_looksBy 0 = .ok (.iconst 0, 1) := by decide +kernel
theorem dX11_looksBy_1 : decode cX11_looksBy 1 = .ok (.istore_n 2, 1) := by decide +kernel
theorem dX11_looksBy_2 : decode cX11_looksBy 2 = .ok (.iconst 0, 1) := by decide +kernel
theorem dX11_looksBy_3 : decode cX11_looksBy 3 = .ok (.istore_n 3, 1) := by decide +kernel
theorem dX11_looksBy_4 : decode cX11_looksBy 4 = .ok (.iload_n 3, 1) := by decide +kernel
theorem dX11_looksBy_5 : decode cX11_looksBy 5 = .ok (.bipush 99, 2) := by decide +kernel
theorem dX11_looksBy_7 : decode cX11_looksBy 7 = .ok (.if_icmp .ge 137, 3) := by decide +kernel
theorem dX11_looksBy_10 : decode cX11_looksBy 10 = .ok (.iconst (-1), 1) := by decide +kernel
theorem dX11_looksBy_11 : decode cX11_looksBy 11 = .ok (.istore 4, 2) := by decide +kernel
theorem dX11_looksBy_13 : decode cX11_looksBy 13 = .ok (.iconst 0, 1) := by decide +kernel
theorem dX11_looksBy_14 : decode cX11_looksBy 14 = .ok (.istore 5, 2) := by decide +kernel
theorem dX11_looksBy_16 : decode cX11_looksBy 16 = .ok (.iload 5, 2) := by decide +kernel
theorem dX11_looksBy_18 : decode cX11_looksBy 18 = .ok (.aload_n 0, 1) := by decide +kernel
theorem dX11_looksBy_19 : decode cX11_looksBy 19 = .ok (.getfield 248, 3) := by decide +kernel
theorem dX11_looksBy_22 : decode cX11_looksBy 22 = .ok (.if_icmp .ge 91, 3) := by decide +kernel
theorem dX11_looksBy_25 : decode cX11_looksBy 25 = .ok (.iload_n 1, 1) := by decide +kernel
theorem dX11_looksBy_26 : decode cX11_looksBy 26 = .ok (.iload_n 2, 1) := by decide +kernel
theorem dX11_looksBy_27 : decode cX11_looksBy 27 = .ok (.iconst (-1), 1) := by decide +kernel
theorem dX11_looksBy_28 : decode cX11_looksBy 28 = .ok (.ixor, 1) := by decide +kernel
theorem dX11_looksBy_29 : decode cX11_looksBy 29 = .ok (.iand, 1) := by decide +kernel
theorem dX11_looksBy_30 : decode cX11_looksBy 30 = .ok (.iload 5, 2) := by decide +kernel
theorem dX11_looksBy_32 : decode cX11_looksBy 32 = .ok (.invokestatic 199, 3) := by decide +kernel
theorem dX11_looksBy_35 : decode cX11_looksBy 35 = .ok (.ifCond .eq 32, 3) := by decide +kernel
theorem dX11_looksBy_38 : decode cX11_looksBy 38 = .ok (.iload_n 3, 1) := by decide +kernel
theorem dX11_looksBy_39 : decode cX11_looksBy 39 = .ok (.aload_n 0, 1) := by decide +kernel
theorem dX11_looksBy_40 : decode cX11_looksBy 40 = .ok (.getfield 62, 3) := by decide +kernel
theorem dX11_looksBy_43 : decode cX11_looksBy 43 = .ok (.iload 5, 2) := by decide +kernel
theorem dX11_looksBy_45 : decode cX11_looksBy 45 = .ok (.iaload, 1) := by decide +kernel
theorem dX11_looksBy_46 : decode cX11_looksBy 46 = .ok (.iconst 3, 1) := by decide +kernel
theorem dX11_looksBy_47 : decode cX11_looksBy 47 = .ok (.isub, 1) := by decide +kernel
theorem dX11_looksBy_48 : decode cX11_looksBy 48 = .ok (.aload_n 0, 1) := by decide +kernel
theorem dX11_looksBy_49 : decode cX11_looksBy 49 = .ok (.getfield 62, 3) := by decide +kernel
theorem dX11_looksBy_52 : decode cX11_looksBy 52 = .ok (.iload 5, 2) := by decide +kernel
theorem dX11_looksBy_54 : decode cX11_looksBy 54 = .ok (.iaload, 1) := by decide +kernel
theorem dX11_looksBy_55 : decode cX11_looksBy 55 = .ok (.iconst 1, 1) := by decide +kernel
theorem dX11_looksBy_56 : decode cX11_looksBy 56 = .ok (.isub, 1) := by decide +kernel
theorem dX11_looksBy_57 : decode cX11_looksBy 57 = .ok (.invokestatic 89, 3) := by decide +kernel
theorem dX11_looksBy_60 : decode cX11_looksBy 60 = .ok (.ifCond .eq 7, 3) := by decide +kernel
theorem dX11_looksBy_63 : decode cX11_looksBy 63 = .ok (.iconst 1, 1) := by decide +kernel
theorem dX11_looksBy_64 : decode cX11_looksBy 64 = .ok (.goto 4, 3) := by decide +kernel
theorem dX11_looksBy_67 : decode cX11_looksBy 67 = .ok (.iconst 0, 1) := by decide +kernel
theorem dX11_looksBy_68 : decode cX11_looksBy 68 = .ok (.istore 6, 2) := by decide +kernel
theorem dX11_looksBy_70 : decode cX11_looksBy 70 = .ok (.iload 6, 2) := by decide +kernel
theorem dX11_looksBy_72 : decode cX11_looksBy 72 = .ok (.ifCond .eq 31, 3) := by decide +kernel
theorem dX11_looksBy_75 : decode cX11_looksBy 75 = .ok (.iload 4, 2) := by decide +kernel
theorem dX11_looksBy_77 : decode cX11_looksBy 77 = .ok (.iconst (-1), 1) := by decide +kernel
theorem dX11_looksBy_78 : decode cX11_looksBy 78 = .ok (.if_icmp .eq 20, 3) := by decide +kernel
theorem dX11_looksBy_81 : decode cX11_looksBy 81 = .ok (.aload_n 0, 1) := by decide +kernel
theorem dX11_looksBy_82 : decode cX11_looksBy 82 = .ok (.getfield 62, 3) := by decide +kernel
theorem dX11_looksBy_85 : decode cX11_looksBy 85 = .ok (.iload 5, 2) := by decide +kernel
theorem dX11_looksBy_87 : decode cX11_looksBy 87 = .ok (.iaload, 1) := by decide +kernel
theorem dX11_looksBy_88 : decode cX11_looksBy 88 = .ok (.aload_n 0, 1) := by decide +kernel
theorem dX11_looksBy_89 : decode cX11_looksBy 89 = .ok (.getfield 62, 3) := by decide +kernel
theorem dX11_looksBy_92 : decode cX11_looksBy 92 = .ok (.iload 4, 2) := by decide +kernel
theorem dX11_looksBy_94 : decode cX11_looksBy 94 = .ok (.iaload, 1) := by decide +kernel
theorem dX11_looksBy_95 : decode cX11_looksBy 95 = .ok (.if_icmp .ge 8, 3) := by decide +kernel
theorem dX11_looksBy_98 : decode cX11_looksBy 98 = .ok (.iload 5, 2) := by decide +kernel
theorem dX11_looksBy_100 : decode cX11_looksBy 100 = .ok (.goto 5, 3) := by decide +kernel
theorem dX11_looksBy_103 : decode cX11_looksBy 103 = .ok (.iload 4, 2) := by decide +kernel
theorem dX11_looksBy_105 : decode cX11_looksBy 105 = .ok (.istore 4, 2) := by decide +kernel
theorem dX11_looksBy_107 : decode cX11_looksBy 107 = .ok (.iinc 5 1, 3) := by decide +kernel
theorem dX11_looksBy_110 : decode cX11_looksBy 110 = .ok (.goto (-94), 3) := by decide +kernel
theorem dX11_looksBy_113 : decode cX11_looksBy 113 = .ok (.aload_n 0, 1) := by decide +kernel
theorem dX11_looksBy_114 : decode cX11_looksBy 114 = .ok (.getfield 68, 3) := by decide +kernel
theorem dX11_looksBy_117 : decode cX11_looksBy 117 = .ok (.iload_n 3, 1) := by decide +kernel
theorem dX11_looksBy_118 : decode cX11_looksBy 118 = .ok (.iload 4, 2) := by decide +kernel
theorem dX11_looksBy_120 : decode cX11_looksBy 120 = .ok (.iastore, 1) := by decide +kernel
theorem dX11_looksBy_121 : decode cX11_looksBy 121 = .ok (.iload_n 2, 1) := by decide +kernel
theorem dX11_looksBy_122 : decode cX11_looksBy 122 = .ok (.iload 4, 2) := by decide +kernel
theorem dX11_looksBy_124 : decode cX11_looksBy 124 = .ok (.iconst (-1), 1) := by decide +kernel
theorem dX11_looksBy_125 : decode cX11_looksBy 125 = .ok (.if_icmp .ne 7, 3) := by decide +kernel
theorem dX11_looksBy_128 : decode cX11_looksBy 128 = .ok (.iconst 0, 1) := by decide +kernel
theorem dX11_looksBy_129 : decode cX11_looksBy 129 = .ok (.goto 7, 3) := by decide +kernel
theorem dX11_looksBy_132 : decode cX11_looksBy 132 = .ok (.iconst 1, 1) := by decide +kernel
theorem dX11_looksBy_133 : decode cX11_looksBy 133 = .ok (.iload 4, 2) := by decide +kernel
theorem dX11_looksBy_135 : decode cX11_looksBy 135 = .ok (.ishl, 1) := by decide +kernel
theorem dX11_looksBy_136 : decode cX11_looksBy 136 = .ok (.ior, 1) := by decide +kernel
theorem dX11_looksBy_137 : decode cX11_looksBy 137 = .ok (.istore_n 2, 1) := by decide +kernel
theorem dX11_looksBy_138 : decode cX11_looksBy 138 = .ok (.iinc 3 1, 3) := by decide +kernel
theorem dX11_looksBy_141 : decode cX11_looksBy 141 = .ok (.goto (-137), 3) := by decide +kernel
theorem dX11_looksBy_144 : decode cX11_looksBy 144 = .ok (.iload_n 2, 1) := by decide +kernel
theorem dX11_looksBy_145 : decode cX11_looksBy 145 = .ok (.ireturn, 1) := by decide +kernel
theorem dX11_worthOf_0 : decode cX11_worthOf 0 = .ok (.iconst 0, 1) := by decide +kernel
theorem dX11_worthOf_1 : decode cX11_worthOf 1 = .ok (.istore_n 2, 1) := by decide +kernel
theorem dX11_worthOf_2 : decode cX11_worthOf 2 = .ok (.iconst 0, 1) := by decide +kernel
theorem dX11_worthOf_3 : decode cX11_worthOf 3 = .ok (.istore_n 3, 1) := by decide +kernel
theorem dX11_worthOf_4 : decode cX11_worthOf 4 = .ok (.iconst 1, 1) := by decide +kernel
theorem dX11_worthOf_5 : decode cX11_worthOf 5 = .ok (.istore 4, 2) := by decide +kernel
theorem dX11_worthOf_7 : decode cX11_worthOf 7 = .ok (.iload 4, 2) := by decide +kernel
theorem dX11_worthOf_9 : decode cX11_worthOf 9 = .ok (.iconst 1, 1) := by decide +kernel
theorem dX11_worthOf_10 : decode cX11_worthOf 10 = .ok (.aload_n 0, 1) := by decide +kernel
theorem dX11_worthOf_11 : decode cX11_worthOf 11 = .ok (.getfield 248, 3) := by decide +kernel
theorem dX11_worthOf_14 : decode cX11_worthOf 14 = .ok (.ishl, 1) := by decide +kernel
theorem dX11_worthOf_15 : decode cX11_worthOf 15 = .ok (.if_icmp .ge 79, 3) := by decide +kernel
theorem dX11_worthOf_18 : decode cX11_worthOf 18 = .ok (.iconst 0, 1) := by decide +kernel
theorem dX11_worthOf_19 : decode cX11_worthOf 19 = .ok (.istore 5, 2) := by decide +kernel
theorem dX11_worthOf_21 : decode cX11_worthOf 21 = .ok (.iconst 0, 1) := by decide +kernel
theorem dX11_worthOf_22 : decode cX11_worthOf 22 = .ok (.istore 6, 2) := by decide +kernel
theorem dX11_worthOf_24 : decode cX11_worthOf 24 = .ok (.iload 6, 2) := by decide +kernel
theorem dX11_worthOf_26 : decode cX11_worthOf 26 = .ok (.aload_n 0, 1) := by decide +kernel
theorem dX11_worthOf_27 : decode cX11_worthOf 27 = .ok (.getfield 248, 3) := by decide +kernel
theorem dX11_worthOf_30 : decode cX11_worthOf 30 = .ok (.if_icmp .ge 35, 3) := by decide +kernel
theorem dX11_worthOf_33 : decode cX11_worthOf 33 = .ok (.iload 5, 2) := by decide +kernel
theorem dX11_worthOf_35 : decode cX11_worthOf 35 = .ok (.iload 4, 2) := by decide +kernel
theorem dX11_worthOf_37 : decode cX11_worthOf 37 = .ok (.iload 6, 2) := by decide +kernel
theorem dX11_worthOf_39 : decode cX11_worthOf 39 = .ok (.invokestatic 199, 3) := by decide +kernel
theorem dX11_worthOf_42 : decode cX11_worthOf 42 = .ok (.ifCond .eq 13, 3) := by decide +kernel
theorem dX11_worthOf_45 : decode cX11_worthOf 45 = .ok (.aload_n 0, 1) := by decide +kernel
theorem dX11_worthOf_46 : decode cX11_worthOf 46 = .ok (.getfield 65, 3) := by decide +kernel
theorem dX11_worthOf_49 : decode cX11_worthOf 49 = .ok (.iload 6, 2) := by decide +kernel
theorem dX11_worthOf_51 : decode cX11_worthOf 51 = .ok (.iaload, 1) := by decide +kernel
theorem dX11_worthOf_52 : decode cX11_worthOf 52 = .ok (.goto 4, 3) := by decide +kernel
theorem dX11_worthOf_55 : decode cX11_worthOf 55 = .ok (.iconst 0, 1) := by decide +kernel
theorem dX11_worthOf_56 : decode cX11_worthOf 56 = .ok (.iadd, 1) := by decide +kernel
theorem dX11_worthOf_57 : decode cX11_worthOf 57 = .ok (.istore 5, 2) := by decide +kernel
theorem dX11_worthOf_59 : decode cX11_worthOf 59 = .ok (.iinc 6 1, 3) := by decide +kernel
theorem dX11_worthOf_62 : decode cX11_worthOf 62 = .ok (.goto (-38), 3) := by decide +kernel
theorem dX11_worthOf_65 : decode cX11_worthOf 65 = .ok (.iload 5, 2) := by decide +kernel
theorem dX11_worthOf_67 : decode cX11_worthOf 67 = .ok (.iload_n 3, 1) := by decide +kernel
theorem dX11_worthOf_68 : decode cX11_worthOf 68 = .ok (.if_icmp .le 20, 3) := by decide +kernel
theorem dX11_worthOf_71 : decode cX11_worthOf 71 = .ok (.aload_n 0, 1) := by decide +kernel
theorem dX11_worthOf_72 : decode cX11_worthOf 72 = .ok (.iload 4, 2) := by decide +kernel
theorem dX11_worthOf_74 : decode cX11_worthOf 74 = .ok (.invokevirtual 251, 3) := by decide +kernel
theorem dX11_worthOf_77 : decode cX11_worthOf 77 = .ok (.iload 4, 2) := by decide +kernel
theorem dX11_worthOf_79 : decode cX11_worthOf 79 = .ok (.if_icmp .ne 9, 3) := by decide +kernel
theorem dX11_worthOf_82 : decode cX11_worthOf 82 = .ok (.iload 4, 2) := by decide +kernel
theorem dX11_worthOf_84 : decode cX11_worthOf 84 = .ok (.istore_n 2, 1) := by decide +kernel
theorem dX11_worthOf_85 : decode cX11_worthOf 85 = .ok (.iload 5, 2) := by decide +kernel
theorem dX11_worthOf_87 : decode cX11_worthOf 87 = .ok (.istore_n 3, 1) := by decide +kernel
theorem dX11_worthOf_88 : decode cX11_worthOf 88 = .ok (.iinc 4 1, 3) := by decide +kernel
theorem dX11_worthOf_91 : decode cX11_worthOf 91 = .ok (.goto (-84), 3) := by decide +kernel
theorem dX11_worthOf_94 : decode cX11_worthOf 94 = .ok (.iload_n 1, 1) := by decide +kernel
theorem dX11_worthOf_95 : decode cX11_worthOf 95 = .ok (.ifCond .ne 7, 3) := by decide +kernel
theorem dX11_worthOf_98 : decode cX11_worthOf 98 = .ok (.iload_n 3, 1) := by decide +kernel
theorem dX11_worthOf_99 : decode cX11_worthOf 99 = .ok (.goto 4, 3) := by decide +kernel
theorem dX11_worthOf_102 : decode cX11_worthOf 102 = .ok (.iload_n 2, 1) := by decide +kernel
theorem dX11_worthOf_103 : decode cX11_worthOf 103 = .ok (.ireturn, 1) := by decide +kernel
theorem dX11_worth_0 : decode cX11_worth 0 = .ok (.iload_n 1, 1) := by decide +kernel
theorem dX11_worth_1 : decode cX11_worth 1 = .ok (.iconst 0, 1) := by decide +kernel
theorem dX11_worth_2 : decode cX11_worth 2 = .ok (.iconst 1, 1) := by decide +kernel
theorem dX11_worth_3 : decode cX11_worth 3 = .ok (.invokestatic 89, 3) := by decide +kernel
theorem dX11_worth_6 : decode cX11_worth 6 = .ok (.ifCond .eq 11, 3) := by decide +kernel
theorem dX11_worth_9 : decode cX11_worth 9 = .ok (.aload_n 0, 1) := by decide +kernel
theorem dX11_worth_10 : decode cX11_worth 10 = .ok (.iload_n 1, 1) := by decide +kernel
theorem dX11_worth_11 : decode cX11_worth 11 = .ok (.invokevirtual 254, 3) := by decide +kernel
theorem dX11_worth_14 : decode cX11_worth 14 = .ok (.goto 5, 3) := by decide +kernel
theorem dX11_worth_17 : decode cX11_worth 17 = .ok (.bipush (-2), 2) := by decide +kernel
theorem dX11_worth_19 : decode cX11_worth 19 = .ok (.ireturn, 1) := by decide +kernel
theorem dX11_lookOf_0 : decode cX11_lookOf 0 = .ok (.aload_n 0, 1) := by decide +kernel
theorem dX11_lookOf_1 : decode cX11_lookOf 1 = .ok (.aload_n 0, 1) := by decide +kernel
theorem dX11_lookOf_2 : decode cX11_lookOf 2 = .ok (.iconst 1, 1) := by decide +kernel
theorem dX11_lookOf_3 : decode cX11_lookOf 3 = .ok (.invokevirtual 254, 3) := by decide +kernel
theorem dX11_lookOf_6 : decode cX11_lookOf 6 = .ok (.invokevirtual 251, 3) := by decide +kernel
theorem dX11_lookOf_9 : decode cX11_lookOf 9 = .ok (.istore_n 2, 1) := by decide +kernel
theorem dX11_lookOf_10 : decode cX11_lookOf 10 = .ok (.aload_n 0, 1) := by decide +kernel
theorem dX11_lookOf_11 : decode cX11_lookOf 11 = .ok (.getfield 68, 3) := by decide +kernel
theorem dX11_lookOf_14 : decode cX11_lookOf 14 = .ok (.iload_n 1, 1) := by decide +kernel
theorem dX11_lookOf_15 : decode cX11_lookOf 15 = .ok (.iaload, 1) := by decide +kernel
theorem dX11_lookOf_16 : decode cX11_lookOf 16 = .ok (.ireturn, 1) := by decide +kernel
theorem dX11_look_0 : decode cX11_look 0 = .ok (.iload_n 1, 1) := by decide +kernel
theorem dX11_look_1 : decode cX11_look 1 = .ok (.iconst 0, 1) := by decide +kernel
theorem dX11_look_2 : decode cX11_look 2 = .ok (.bipush 98, 2) := by decide +kernel
theorem dX11_look_4 : decode cX11_look 4 = .ok (.invokestatic 89, 3) := by decide +kernel
theorem dX11_look_7 : decode cX11_look 7 = .ok (.ifCond .eq 11, 3) := by decide +kernel
theorem dX11_look_10 : decode cX11_look 10 = .ok (.aload_n 0, 1) := by decide +kernel
theorem dX11_look_11 : decode cX11_look 11 = .ok (.iload_n 1, 1) := by decide +kernel
theorem dX11_look_12 : decode cX11_look 12 = .ok (.invokevirtual 257, 3) := by decide +kernel
theorem dX11_look_15 : decode cX11_look 15 = .ok (.goto 5, 3) := by decide +kernel
theorem dX11_look_18 : decode cX11_look 18 = .ok (.bipush (-2), 2) := by decide +kernel
theorem dX11_look_20 : decode cX11_look 20 = .ok (.ireturn, 1) := by decide +kernel
theorem dX11_from_0 : decode cX11_from 0 = .ok (.iload_n 1, 1) := by decide +kernel
theorem dX11_from_1 : decode cX11_from 1 = .ok (.iconst 0, 1) := by decide +kernel
theorem dX11_from_2 : decode cX11_from 2 = .ok (.bipush 98, 2) := by decide +kernel
theorem dX11_from_4 : decode cX11_from 4 = .ok (.invokestatic 89, 3) := by decide +kernel
theorem dX11_from_7 : decode cX11_from 7 = .ok (.ifCond .ne 6, 3) := by decide +kernel
theorem dX11_from_10 : decode cX11_from 10 = .ok (.bipush (-2), 2) := by decide +kernel
theorem dX11_from_12 : decode cX11_from 12 = .ok (.ireturn, 1) := by decide +kernel
theorem dX11_from_13 : decode cX11_from 13 = .ok (.aload_n 0, 1) := by decide +kernel
theorem dX11_from_14 : decode cX11_from 14 = .ok (.getfield 260, 3) := by decide +kernel
theorem dX11_from_17 : decode cX11_from 17 = .ok (.istore_n 2, 1) := by decide +kernel
theorem dX11_from_18 : decode cX11_from 18 = .ok (.aload_n 0, 1) := by decide +kernel
theorem dX11_from_19 : decode cX11_from 19 = .ok (.iload_n 1, 1) := by decide +kernel
theorem dX11_from_20 : decode cX11_from 20 = .ok (.putfield 260, 3) := by decide +kernel
theorem dX11_from_23 : decode cX11_from 23 = .ok (.iload_n 2, 1) := by decide +kernel
theorem dX11_from_24 : decode cX11_from 24 = .ok (.ireturn, 1) := by decide +kernel
theorem dX11_said_0 : decode cX11_said 0 = .ok (.iload_n 1, 1) := by decide +kernel
theorem dX11_said_1 : decode cX11_said 1 = .ok (.invokestatic 138, 3) := by decide +kernel
theorem dX11_said_4 : decode cX11_said 4 = .ok (.ifCond .ne 6, 3) := by decide +kernel
theorem dX11_said_7 : decode cX11_said 7 = .ok (.bipush (-2), 2) := by decide +kernel
theorem dX11_said_9 : decode cX11_said 9 = .ok (.ireturn, 1) := by decide +kernel
theorem dX11_said_10 : decode cX11_said 10 = .ok (.aload_n 0, 1) := by decide +kernel
theorem dX11_said_11 : decode cX11_said 11 = .ok (.getfield 141, 3) := by decide +kernel
theorem dX11_said_14 : decode cX11_said 14 = .ok (.bipush 20, 2) := by decide +kernel
theorem dX11_said_16 : decode cX11_said 16 = .ok (.if_icmp .ne 6, 3) := by decide +kernel
theorem dX11_said_19 : decode cX11_said 19 = .ok (.bipush (-4), 2) := by decide +kernel
theorem dX11_said_21 : decode cX11_said 21 = .ok (.ireturn, 1) := by decide +kernel
theorem dX11_said_22 : decode cX11_said 22 = .ok (.aload_n 0, 1) := by decide +kernel
theorem dX11_said_23 : decode cX11_said 23 = .ok (.getfield 34, 3) := by decide +kernel
theorem dX11_said_26 : decode cX11_said 26 = .ok (.aload_n 0, 1) := by decide +kernel
theorem dX11_said_27 : decode cX11_said 27 = .ok (.getfield 141, 3) := by decide +kernel
theorem dX11_said_30 : decode cX11_said 30 = .ok (.iload_n 1, 1) := by decide +kernel
theorem dX11_said_31 : decode cX11_said 31 = .ok (.iastore, 1) := by decide +kernel
theorem dX11_said_32 : decode cX11_said 32 = .ok (.aload_n 0, 1) := by decide +kernel
theorem dX11_said_33 : decode cX11_said 33 = .ok (.dup, 1) := by decide +kernel
theorem dX11_said_34 : decode cX11_said 34 = .ok (.getfield 141, 3) := by decide +kernel
theorem dX11_said_37 : decode cX11_said 37 = .ok (.iconst 1, 1) := by decide +kernel
theorem dX11_said_38 : decode cX11_said 38 = .ok (.iadd, 1) := by decide +kernel
theorem dX11_said_39 : decode cX11_said 39 = .ok (.putfield 141, 3) := by decide +kernel
theorem dX11_said_42 : decode cX11_said 42 = .ok (.aload_n 0, 1) := by decide +kernel
theorem dX11_said_43 : decode cX11_said 43 = .ok (.getfield 141, 3) := by decide +kernel
theorem dX11_said_46 : decode cX11_said 46 = .ok (.ireturn, 1) := by decide +kernel
theorem dX11_wrongOf_0 : decode cX11_wrongOf 0 = .ok (.iconst (-1), 1) := by decide +kernel
theorem dX11_wrongOf_1 : decode cX11_wrongOf 1 = .ok (.istore_n 2, 1) := by decide +kernel
theorem dX11_wrongOf_2 : decode cX11_wrongOf 2 = .ok (.iconst 0, 1) := by decide +kernel
theorem dX11_wrongOf_3 : decode cX11_wrongOf 3 = .ok (.istore_n 3, 1) := by decide +kernel
theorem dX11_wrongOf_4 : decode cX11_wrongOf 4 = .ok (.iconst 0, 1) := by decide +kernel
theorem dX11_wrongOf_5 : decode cX11_wrongOf 5 = .ok (.istore 4, 2) := by decide +kernel
theorem dX11_wrongOf_7 : decode cX11_wrongOf 7 = .ok (.iload 4, 2) := by decide +kernel
theorem dX11_wrongOf_9 : decode cX11_wrongOf 9 = .ok (.aload_n 0, 1) := by decide +kernel
theorem dX11_wrongOf_10 : decode cX11_wrongOf 10 = .ok (.getfield 141, 3) := by decide +kernel
theorem dX11_wrongOf_13 : decode cX11_wrongOf 13 = .ok (.if_icmp .ge 79, 3) := by decide +kernel
theorem dX11_wrongOf_16 : decode cX11_wrongOf 16 = .ok (.aload_n 0, 1) := by decide +kernel
theorem dX11_wrongOf_17 : decode cX11_wrongOf 17 = .ok (.getfield 34, 3) := by decide +kernel
theorem dX11_wrongOf_20 : decode cX11_wrongOf 20 = .ok (.iload 4, 2) := by decide +kernel
theorem dX11_wrongOf_22 : decode cX11_wrongOf 22 = .ok (.iaload, 1) := by decide +kernel
theorem dX11_wrongOf_23 : decode cX11_wrongOf 23 = .ok (.iload 4, 2) := by decide +kernel
theorem dX11_wrongOf_25 : decode cX11_wrongOf 25 = .ok (.ifCond .ne 10, 3) := by decide +kernel
theorem dX11_wrongOf_28 : decode cX11_wrongOf 28 = .ok (.aload_n 0, 1) := by decide +kernel
theorem dX11_wrongOf_29 : decode cX11_wrongOf 29 = .ok (.getfield 260, 3) := by decide +kernel
theorem dX11_wrongOf_32 : decode cX11_wrongOf 32 = .ok (.goto 12, 3) := by decide +kernel
theorem dX11_wrongOf_35 : decode cX11_wrongOf 35 = .ok (.aload_n 0, 1) := by decide +kernel
theorem dX11_wrongOf_36 : decode cX11_wrongOf 36 = .ok (.getfield 34, 3) := by decide +kernel
theorem dX11_wrongOf_39 : decode cX11_wrongOf 39 = .ok (.iload 4, 2) := by decide +kernel
theorem dX11_wrongOf_41 : decode cX11_wrongOf 41 = .ok (.iconst 1, 1) := by decide +kernel
theorem dX11_wrongOf_42 : decode cX11_wrongOf 42 = .ok (.isub, 1) := by decide +kernel
theorem dX11_wrongOf_43 : decode cX11_wrongOf 43 = .ok (.iaload, 1) := by decide +kernel
theorem dX11_wrongOf_44 : decode cX11_wrongOf 44 = .ok (.iconst 1, 1) := by decide +kernel
theorem dX11_wrongOf_45 : decode cX11_wrongOf 45 = .ok (.iadd, 1) := by decide +kernel
theorem dX11_wrongOf_46 : decode cX11_wrongOf 46 = .ok (.if_icmp .eq 7, 3) := by decide +kernel
theorem dX11_wrongOf_49 : decode cX11_wrongOf 49 = .ok (.iconst 1, 1) := by decide +kernel
theorem dX11_wrongOf_50 : decode cX11_wrongOf 50 = .ok (.goto 4, 3) := by decide +kernel
theorem dX11_wrongOf_53 : decode cX11_wrongOf 53 = .ok (.iconst 0, 1) := by decide +kernel
theorem dX11_wrongOf_54 : decode cX11_wrongOf 54 = .ok (.istore 5, 2) := by decide +kernel
theorem dX11_wrongOf_56 : decode cX11_wrongOf 56 = .ok (.iload 5, 2) := by decide +kernel
theorem dX11_wrongOf_58 : decode cX11_wrongOf 58 = .ok (.ifCond .eq 13, 3) := by decide +kernel
theorem dX11_wrongOf_61 : decode cX11_wrongOf 61 = .ok (.iload_n 2, 1) := by decide +kernel
theorem dX11_wrongOf_62 : decode cX11_wrongOf 62 = .ok (.iconst (-1), 1) := by decide +kernel
theorem dX11_wrongOf_63 : decode cX11_wrongOf 63 = .ok (.if_icmp .ne 8, 3) := by decide +kernel
theorem dX11_wrongOf_66 : decode cX11_wrongOf 66 = .ok (.iload 4, 2) := by decide +kernel
theorem dX11_wrongOf_68 : decode cX11_wrongOf 68 = .ok (.goto 4, 3) := by decide +kernel
theorem dX11_wrongOf_71 : decode cX11_wrongOf 71 = .ok (.iload_n 2, 1) := by decide +kernel
theorem dX11_wrongOf_72 : decode cX11_wrongOf 72 = .ok (.istore_n 2, 1) := by decide +kernel
theorem dX11_wrongOf_73 : decode cX11_wrongOf 73 = .ok (.iload_n 3, 1) := by decide +kernel
theorem dX11_wrongOf_74 : decode cX11_wrongOf 74 = .ok (.iload 5, 2) := by decide +kernel
theorem dX11_wrongOf_76 : decode cX11_wrongOf 76 = .ok (.ifCond .eq 7, 3) := by decide +kernel
theorem dX11_wrongOf_79 : decode cX11_wrongOf 79 = .ok (.iconst 1, 1) := by decide +kernel
theorem dX11_wrongOf_80 : decode cX11_wrongOf 80 = .ok (.goto 4, 3) := by decide +kernel
theorem dX11_wrongOf_83 : decode cX11_wrongOf 83 = .ok (.iconst 0, 1) := by decide +kernel
theorem dX11_wrongOf_84 : decode cX11_wrongOf 84 = .ok (.iadd, 1) := by decide +kernel
theorem dX11_wrongOf_85 : decode cX11_wrongOf 85 = .ok (.istore_n 3, 1) := by decide +kernel
theorem dX11_wrongOf_86 : decode cX11_wrongOf 86 = .ok (.iinc 4 1, 3) := by decide +kernel
theorem dX11_wrongOf_89 : decode cX11_wrongOf 89 = .ok (.goto (-82), 3) := by decide +kernel
theorem dX11_wrongOf_92 : decode cX11_wrongOf 92 = .ok (.iload_n 1, 1) := by decide +kernel
theorem dX11_wrongOf_93 : decode cX11_wrongOf 93 = .ok (.ifCond .ne 7, 3) := by decide +kernel
theorem dX11_wrongOf_96 : decode cX11_wrongOf 96 = .ok (.iload_n 2, 1) := by decide +kernel
theorem dX11_wrongOf_97 : decode cX11_wrongOf 97 = .ok (.goto 4, 3) := by decide +kernel
theorem dX11_wrongOf_100 : decode cX11_wrongOf 100 = .ok (.iload_n 3, 1) := by decide +kernel
theorem dX11_wrongOf_101 : decode cX11_wrongOf 101 = .ok (.ireturn, 1) := by decide +kernel
theorem dX11_wrong_0 : decode cX11_wrong 0 = .ok (.iload_n 1, 1) := by decide +kernel
theorem dX11_wrong_1 : decode cX11_wrong 1 = .ok (.iconst 0, 1) := by decide +kernel
theorem dX11_wrong_2 : decode cX11_wrong 2 = .ok (.iconst 1, 1) := by decide +kernel
theorem dX11_wrong_3 : decode cX11_wrong 3 = .ok (.invokestatic 89, 3) := by decide +kernel
theorem dX11_wrong_6 : decode cX11_wrong 6 = .ok (.ifCond .eq 11, 3) := by decide +kernel
theorem dX11_wrong_9 : decode cX11_wrong 9 = .ok (.aload_n 0, 1) := by decide +kernel
theorem dX11_wrong_10 : decode cX11_wrong 10 = .ok (.iload_n 1, 1) := by decide +kernel
theorem dX11_wrong_11 : decode cX11_wrong 11 = .ok (.invokevirtual 263, 3) := by decide +kernel
theorem dX11_wrong_14 : decode cX11_wrong 14 = .ok (.goto 5, 3) := by decide +kernel
theorem dX11_wrong_17 : decode cX11_wrong 17 = .ok (.bipush (-2), 2) := by decide +kernel
theorem dX11_wrong_19 : decode cX11_wrong 19 = .ok (.ireturn, 1) := by decide +kernel
theorem dX11_blameNow_0 : decode cX11_blameNow 0 = .ok (.aload_n 0, 1) := by decide +kernel
theorem dX11_blameNow_1 : decode cX11_blameNow 1 = .ok (.iconst 0, 1) := by decide +kernel
theorem dX11_blameNow_2 : decode cX11_blameNow 2 = .ok (.invokevirtual 263, 3) := by decide +kernel
theorem dX11_blameNow_5 : decode cX11_blameNow 5 = .ok (.istore_n 1, 1) := by decide +kernel
theorem dX11_blameNow_6 : decode cX11_blameNow 6 = .ok (.aload_n 0, 1) := by decide +kernel
theorem dX11_blameNow_7 : decode cX11_blameNow 7 = .ok (.getfield 260, 3) := by decide +kernel
theorem dX11_blameNow_10 : decode cX11_blameNow 10 = .ok (.iload_n 1, 1) := by decide +kernel
theorem dX11_blameNow_11 : decode cX11_blameNow 11 = .ok (.iadd, 1) := by decide +kernel
theorem dX11_blameNow_12 : decode cX11_blameNow 12 = .ok (.iconst 1, 1) := by decide +kernel
theorem dX11_blameNow_13 : decode cX11_blameNow 13 = .ok (.isub, 1) := by decide +kernel
theorem dX11_blameNow_14 : decode cX11_blameNow 14 = .ok (.istore_n 2, 1) := by decide +kernel
theorem dX11_blameNow_15 : decode cX11_blameNow 15 = .ok (.iload_n 1, 1) := by decide +kernel
theorem dX11_blameNow_16 : decode cX11_blameNow 16 = .ok (.iconst (-1), 1) := by decide +kernel
theorem dX11_blameNow_17 : decode cX11_blameNow 17 = .ok (.if_icmp .eq 30, 3) := by decide +kernel
theorem dX11_blameNow_20 : decode cX11_blameNow 20 = .ok (.aload_n 0, 1) := by decide +kernel
theorem dX11_blameNow_21 : decode cX11_blameNow 21 = .ok (.iload_n 2, 1) := by decide +kernel
theorem dX11_blameNow_22 : decode cX11_blameNow 22 = .ok (.invokevirtual 124, 3) := by decide +kernel
theorem dX11_blameNow_25 : decode cX11_blameNow 25 = .ok (.ifCond .eq 22, 3) := by decide +kernel
theorem dX11_blameNow_28 : decode cX11_blameNow 28 = .ok (.aload_n 0, 1) := by decide +kernel
theorem dX11_blameNow_29 : decode cX11_blameNow 29 = .ok (.getfield 13, 3) := by decide +kernel
theorem dX11_blameNow_32 : decode cX11_blameNow 32 = .ok (.iload_n 2, 1) := by decide +kernel
theorem dX11_blameNow_33 : decode cX11_blameNow 33 = .ok (.iaload, 1) := by decide +kernel
theorem dX11_blameNow_34 : decode cX11_blameNow 34 = .ok (.iconst 3, 1) := by decide +kernel
theorem dX11_blameNow_35 : decode cX11_blameNow 35 = .ok (.if_icmp .ge 12, 3) := by decide +kernel
theorem dX11_blameNow_38 : decode cX11_blameNow 38 = .ok (.aload_n 0, 1) := by decide +kernel
theorem dX11_blameNow_39 : decode cX11_blameNow 39 = .ok (.getfield 13, 3) := by decide +kernel
theorem dX11_blameNow_42 : decode cX11_blameNow 42 = .ok (.iload_n 2, 1) := by decide +kernel
theorem dX11_blameNow_43 : decode cX11_blameNow 43 = .ok (.iaload, 1) := by decide +kernel
theorem dX11_blameNow_44 : decode cX11_blameNow 44 = .ok (.goto 4, 3) := by decide +kernel
theorem dX11_blameNow_47 : decode cX11_blameNow 47 = .ok (.iconst (-1), 1) := by decide +kernel
theorem dX11_blameNow_48 : decode cX11_blameNow 48 = .ok (.ireturn, 1) := by decide +kernel
theorem dX11_blame_0 : decode cX11_blame 0 = .ok (.aload_n 0, 1) := by decide +kernel
theorem dX11_blame_1 : decode cX11_blame 1 = .ok (.invokevirtual 266, 3) := by decide +kernel
theorem dX11_blame_4 : decode cX11_blame 4 = .ok (.ireturn, 1) := by decide +kernel
theorem dX11_nightOf_0 : decode cX11_nightOf 0 = .ok (.aload_n 0, 1) := by decide +kernel
theorem dX11_nightOf_1 : decode cX11_nightOf 1 = .ok (.invokevirtual 121, 3) := by decide +kernel
theorem dX11_nightOf_4 : decode cX11_nightOf 4 = .ok (.iload_n 1, 1) := by decide +kernel
theorem dX11_nightOf_5 : decode cX11_nightOf 5 = .ok (.istore_n 3, 1) := by decide +kernel
theorem dX11_nightOf_6 : decode cX11_nightOf 6 = .ok (.iconst 0, 1) := by decide +kernel
theorem dX11_nightOf_7 : decode cX11_nightOf 7 = .ok (.istore 4, 2) := by decide +kernel
theorem dX11_nightOf_9 : decode cX11_nightOf 9 = .ok (.iconst 0, 1) := by decide +kernel
theorem dX11_nightOf_10 : decode cX11_nightOf 10 = .ok (.istore 5, 2) := by decide +kernel
theorem dX11_nightOf_12 : decode cX11_nightOf 12 = .ok (.iconst 0, 1) := by decide +kernel
theorem dX11_nightOf_13 : decode cX11_nightOf 13 = .ok (.istore 6, 2) := by decide +kernel
theorem dX11_nightOf_15 : decode cX11_nightOf 15 = .ok (.iload 6, 2) := by decide +kernel
theorem dX11_nightOf_17 : decode cX11_nightOf 17 = .ok (.iload_n 2, 1) := by decide +kernel
theorem dX11_nightOf_18 : decode cX11_nightOf 18 = .ok (.ifCond .ne 7, 3) := by decide +kernel
theorem dX11_nightOf_21 : decode cX11_nightOf 21 = .ok (.iconst 1, 1) := by decide +kernel
theorem dX11_nightOf_22 : decode cX11_nightOf 22 = .ok (.goto 4, 3) := by decide +kernel
theorem dX11_nightOf_25 : decode cX11_nightOf 25 = .ok (.iload_n 2, 1) := by decide +kernel
theorem dX11_nightOf_26 : decode cX11_nightOf 26 = .ok (.if_icmp .ge 130, 3) := by decide +kernel
theorem dX11_nightOf_29 : decode cX11_nightOf 29 = .ok (.iconst 0, 1) := by decide +kernel
theorem dX11_nightOf_30 : decode cX11_nightOf 30 = .ok (.istore 5, 2) := by decide +kernel
theorem dX11_nightOf_32 : decode cX11_nightOf 32 = .ok (.iconst 0, 1) := by decide +kernel
theorem dX11_nightOf_33 : decode cX11_nightOf 33 = .ok (.istore 7, 2) := by decide +kernel
theorem dX11_nightOf_35 : decode cX11_nightOf 35 = .ok (.iload 7, 2) := by decide +kernel
theorem dX11_nightOf_37 : decode cX11_nightOf 37 = .ok (.aload_n 0, 1) := by decide +kernel
theorem dX11_nightOf_38 : decode cX11_nightOf 38 = .ok (.getfield 97, 3) := by decide +kernel
theorem dX11_nightOf_41 : decode cX11_nightOf 41 = .ok (.if_icmp .ge 94, 3) := by decide +kernel
theorem dX11_nightOf_44 : decode cX11_nightOf 44 = .ok (.aload_n 0, 1) := by decide +kernel
theorem dX11_nightOf_45 : decode cX11_nightOf 45 = .ok (.getfield 13, 3) := by decide +kernel
theorem dX11_nightOf_48 : decode cX11_nightOf 48 = .ok (.iload 7, 2) := by decide +kernel
theorem dX11_nightOf_50 : decode cX11_nightOf 50 = .ok (.iaload, 1) := by decide +kernel
theorem dX11_nightOf_51 : decode cX11_nightOf 51 = .ok (.iconst 3, 1) := by decide +kernel
theorem dX11_nightOf_52 : decode cX11_nightOf 52 = .ok (.if_icmp .ge 77, 3) := by decide +kernel
theorem dX11_nightOf_55 : decode cX11_nightOf 55 = .ok (.ldc_w 269, 3) := by decide +kernel
theorem dX11_nightOf_58 : decode cX11_nightOf 58 = .ok (.iload_n 3, 1) := by decide +kernel
theorem dX11_nightOf_59 : decode cX11_nightOf 59 = .ok (.imul, 1) := by decide +kernel
theorem dX11_nightOf_60 : decode cX11_nightOf 60 = .ok (.sipush 12345, 3) := by decide +kernel
theorem dX11_nightOf_63 : decode cX11_nightOf 63 = .ok (.iadd, 1) := by decide +kernel
theorem dX11_nightOf_64 : decode cX11_nightOf 64 = .ok (.istore_n 3, 1) := by decide +kernel
theorem dX11_nightOf_65 : decode cX11_nightOf 65 = .ok (.iload_n 3, 1) := by decide +kernel
theorem dX11_nightOf_66 : decode cX11_nightOf 66 = .ok (.bipush 16, 2) := by decide +kernel
theorem dX11_nightOf_68 : decode cX11_nightOf 68 = .ok (.iushr, 1) := by decide +kernel
theorem dX11_nightOf_69 : decode cX11_nightOf 69 = .ok (.bipush 16, 2) := by decide +kernel
theorem dX11_nightOf_71 : decode cX11_nightOf 71 = .ok (.irem, 1) := by decide +kernel
theorem dX11_nightOf_72 : decode cX11_nightOf 72 = .ok (.istore 8, 2) := by decide +kernel
theorem dX11_nightOf_74 : decode cX11_nightOf 74 = .ok (.aload_n 0, 1) := by decide +kernel
theorem dX11_nightOf_75 : decode cX11_nightOf 75 = .ok (.getfield 13, 3) := by decide +kernel
theorem dX11_nightOf_78 : decode cX11_nightOf 78 = .ok (.iload 7, 2) := by decide +kernel
theorem dX11_nightOf_80 : decode cX11_nightOf 80 = .ok (.iaload, 1) := by decide +kernel
theorem dX11_nightOf_81 : decode cX11_nightOf 81 = .ok (.istore 9, 2) := by decide +kernel
theorem dX11_nightOf_83 : decode cX11_nightOf 83 = .ok (.iload 5, 2) := by decide +kernel
theorem dX11_nightOf_85 : decode cX11_nightOf 85 = .ok (.iload 8, 2) := by decide +kernel
theorem dX11_nightOf_87 : decode cX11_nightOf 87 = .ok (.aload_n 0, 1) := by decide +kernel
theorem dX11_nightOf_88 : decode cX11_nightOf 88 = .ok (.getfield 25, 3) := by decide +kernel
theorem dX11_nightOf_91 : decode cX11_nightOf 91 = .ok (.iload 9, 2) := by decide +kernel
theorem dX11_nightOf_93 : decode cX11_nightOf 93 = .ok (.iaload, 1) := by decide +kernel
theorem dX11_nightOf_94 : decode cX11_nightOf 94 = .ok (.if_icmp .ge 7, 3) := by decide +kernel
theorem dX11_nightOf_97 : decode cX11_nightOf 97 = .ok (.iconst (-1), 1) := by decide +kernel
theorem dX11_nightOf_98 : decode cX11_nightOf 98 = .ok (.goto 28, 3) := by decide +kernel
theorem dX11_nightOf_101 : decode cX11_nightOf 101 = .ok (.iload 8, 2) := by decide +kernel
theorem dX11_nightOf_103 : decode cX11_nightOf 103 = .ok (.aload_n 0, 1) := by decide +kernel
theorem dX11_nightOf_104 : decode cX11_nightOf 104 = .ok (.getfield 25, 3) := by decide +kernel
theorem dX11_nightOf_107 : decode cX11_nightOf 107 = .ok (.iload 9, 2) := by decide +kernel
theorem dX11_nightOf_109 : decode cX11_nightOf 109 = .ok (.iaload, 1) := by decide +kernel
theorem dX11_nightOf_110 : decode cX11_nightOf 110 = .ok (.aload_n 0, 1) := by decide +kernel
theorem dX11_nightOf_111 : decode cX11_nightOf 111 = .ok (.getfield 28, 3) := by decide +kernel
theorem dX11_nightOf_114 : decode cX11_nightOf 114 = .ok (.iload 9, 2) := by decide +kernel
theorem dX11_nightOf_116 : decode cX11_nightOf 116 = .ok (.iaload, 1) := by decide +kernel
theorem dX11_nightOf_117 : decode cX11_nightOf 117 = .ok (.iadd, 1) := by decide +kernel
theorem dX11_nightOf_118 : decode cX11_nightOf 118 = .ok (.if_icmp .ge 7, 3) := by decide +kernel
theorem dX11_nightOf_121 : decode cX11_nightOf 121 = .ok (.iconst 1, 1) := by decide +kernel
theorem dX11_nightOf_122 : decode cX11_nightOf 122 = .ok (.goto 4, 3) := by decide +kernel
theorem dX11_nightOf_125 : decode cX11_nightOf 125 = .ok (.iconst 0, 1) := by decide +kernel
theorem dX11_nightOf_126 : decode cX11_nightOf 126 = .ok (.iadd, 1) := by decide +kernel
theorem dX11_nightOf_127 : decode cX11_nightOf 127 = .ok (.istore 5, 2) := by decide +kernel
theorem dX11_nightOf_129 : decode cX11_nightOf 129 = .ok (.iinc 7 1, 3) := by decide +kernel
theorem dX11_nightOf_132 : decode cX11_nightOf 132 = .ok (.goto (-97), 3) := by decide +kernel
theorem dX11_nightOf_135 : decode cX11_nightOf 135 = .ok (.iload 4, 2) := by decide +kernel
theorem dX11_nightOf_137 : decode cX11_nightOf 137 = .ok (.iload 5, 2) := by decide +kernel
theorem dX11_nightOf_139 : decode cX11_nightOf 139 = .ok (.ifCond .ne 7, 3) := by decide +kernel
theorem dX11_nightOf_142 : decode cX11_nightOf 142 = .ok (.iconst 1, 1) := by decide +kernel
theorem dX11_nightOf_143 : decode cX11_nightOf 143 = .ok (.goto 4, 3) := by decide +kernel
theorem dX11_nightOf_146 : decode cX11_nightOf 146 = .ok (.iconst 0, 1) := by decide +kernel
theorem dX11_nightOf_147 : decode cX11_nightOf 147 = .ok (.iadd, 1) := by decide +kernel
theorem dX11_nightOf_148 : decode cX11_nightOf 148 = .ok (.istore 4, 2) := by decide +kernel
theorem dX11_nightOf_150 : decode cX11_nightOf 150 = .ok (.iinc 6 1, 3) := by decide +kernel
theorem dX11_nightOf_153 : decode cX11_nightOf 153 = .ok (.goto (-138), 3) := by decide +kernel
theorem dX11_nightOf_156 : decode cX11_nightOf 156 = .ok (.iload_n 2, 1) := by decide +kernel
theorem dX11_nightOf_157 : decode cX11_nightOf 157 = .ok (.ifCond .ne 8, 3) := by decide +kernel
theorem dX11_nightOf_160 : decode cX11_nightOf 160 = .ok (.iload 5, 2) := by decide +kernel
theorem dX11_nightOf_162 : decode cX11_nightOf 162 = .ok (.goto 5, 3) := by decide +kernel
theorem dX11_nightOf_165 : decode cX11_nightOf 165 = .ok (.iload 4, 2) := by decide +kernel
theorem dX11_nightOf_167 : decode cX11_nightOf 167 = .ok (.ireturn, 1) := by decide +kernel
theorem dX11_night_0 : decode cX11_night 0 = .ok (.iload_n 2, 1) := by decide +kernel
theorem dX11_night_1 : decode cX11_night 1 = .ok (.iconst 0, 1) := by decide +kernel
theorem dX11_night_2 : decode cX11_night 2 = .ok (.bipush 99, 2) := by decide +kernel
theorem dX11_night_4 : decode cX11_night 4 = .ok (.invokestatic 89, 3) := by decide +kernel
theorem dX11_night_7 : decode cX11_night 7 = .ok (.ifCond .eq 12, 3) := by decide +kernel
theorem dX11_night_10 : decode cX11_night 10 = .ok (.aload_n 0, 1) := by decide +kernel
theorem dX11_night_11 : decode cX11_night 11 = .ok (.iload_n 1, 1) := by decide +kernel
theorem dX11_night_12 : decode cX11_night 12 = .ok (.iload_n 2, 1) := by decide +kernel
theorem dX11_night_13 : decode cX11_night 13 = .ok (.invokevirtual 270, 3) := by decide +kernel
theorem dX11_night_16 : decode cX11_night 16 = .ok (.goto 5, 3) := by decide +kernel
theorem dX11_night_19 : decode cX11_night 19 = .ok (.bipush (-102), 2) := by decide +kernel
theorem dX11_night_21 : decode cX11_night 21 = .ok (.ireturn, 1) := by decide +kernel
theorem dX11_meets_0 : decode cX11_meets 0 = .ok (.aload_n 0, 1) := by decide +kernel
theorem dX11_meets_1 : decode cX11_meets 1 = .ok (.iload_n 1, 1) := by decide +kernel
theorem dX11_meets_2 : decode cX11_meets 2 = .ok (.putfield 273, 3) := by decide +kernel
theorem dX11_meets_5 : decode cX11_meets 5 = .ok (.bipush (-10), 2) := by decide +kernel
theorem dX11_meets_7 : decode cX11_meets 7 = .ok (.iload_n 1, 1) := by decide +kernel
theorem dX11_meets_8 : decode cX11_meets 8 = .ok (.isub, 1) := by decide +kernel
theorem dX11_meets_9 : decode cX11_meets 9 = .ok (.ireturn, 1) := by decide +kernel
theorem dX11_isSheet_0 : decode cX11_isSheet 0 = .ok (.iload_n 0, 1) := by decide +kernel
theorem dX11_isSheet_1 : decode cX11_isSheet 1 = .ok (.iconst 0, 1) := by decide +kernel
theorem dX11_isSheet_2 : decode cX11_isSheet 2 = .ok (.iconst 3, 1) := by decide +kernel
theorem dX11_isSheet_3 : decode cX11_isSheet 3 = .ok (.invokestatic 89, 3) := by decide +kernel
theorem dX11_isSheet_6 : decode cX11_isSheet 6 = .ok (.ireturn, 1) := by decide +kernel
theorem dX11_sheet_0 : decode cX11_sheet 0 = .ok (.iload_n 1, 1) := by decide +kernel
theorem dX11_sheet_1 : decode cX11_sheet 1 = .ok (.invokestatic 132, 3) := by decide +kernel
theorem dX11_sheet_4 : decode cX11_sheet 4 = .ok (.ifCond .eq 18, 3) := by decide +kernel
theorem dX11_sheet_7 : decode cX11_sheet 7 = .ok (.iload_n 2, 1) := by decide +kernel
theorem dX11_sheet_8 : decode cX11_sheet 8 = .ok (.iconst 0, 1) := by decide +kernel
theorem dX11_sheet_9 : decode cX11_sheet 9 = .ok (.iconst 2, 1) := by decide +kernel
theorem dX11_sheet_10 : decode cX11_sheet 10 = .ok (.invokestatic 89, 3) := by decide +kernel
theorem dX11_sheet_13 : decode cX11_sheet 13 = .ok (.ifCond .eq 9, 3) := by decide +kernel
theorem dX11_sheet_16 : decode cX11_sheet 16 = .ok (.iload_n 3, 1) := by decide +kernel
theorem dX11_sheet_17 : decode cX11_sheet 17 = .ok (.bipush 48, 2) := by decide +kernel
theorem dX11_sheet_19 : decode cX11_sheet 19 = .ok (.if_icmp .le 6, 3) := by decide +kernel
theorem dX11_sheet_22 : decode cX11_sheet 22 = .ok (.bipush (-2), 2) := by decide +kernel
theorem dX11_sheet_24 : decode cX11_sheet 24 = .ok (.ireturn, 1) := by decide +kernel
theorem dX11_sheet_25 : decode cX11_sheet 25 = .ok (.iload_n 3, 1) := by decide +kernel
theorem dX11_sheet_26 : decode cX11_sheet 26 = .ok (.ifCond .ge 9, 3) := by decide +kernel
theorem dX11_sheet_29 : decode cX11_sheet 29 = .ok (.aload_n 0, 1) := by decide +kernel
theorem dX11_sheet_30 : decode cX11_sheet 30 = .ok (.iconst 5, 1) := by decide +kernel
theorem dX11_sheet_31 : decode cX11_sheet 31 = .ok (.invokevirtual 135, 3) := by decide +kernel
theorem dX11_sheet_34 : decode cX11_sheet 34 = .ok (.ireturn, 1) := by decide +kernel
theorem dX11_sheet_35 : decode cX11_sheet 35 = .ok (.aload_n 0, 1) := by decide +kernel
theorem dX11_sheet_36 : decode cX11_sheet 36 = .ok (.getfield 71, 3) := by decide +kernel
theorem dX11_sheet_39 : decode cX11_sheet 39 = .ok (.iload_n 1, 1) := by decide +kernel
theorem dX11_sheet_40 : decode cX11_sheet 40 = .ok (.iconst 1, 1) := by decide +kernel
theorem dX11_sheet_41 : decode cX11_sheet 41 = .ok (.bastore, 1) := by decide +kernel
theorem dX11_sheet_42 : decode cX11_sheet 42 = .ok (.aload_n 0, 1) := by decide +kernel
theorem dX11_sheet_43 : decode cX11_sheet 43 = .ok (.getfield 75, 3) := by decide +kernel
theorem dX11_sheet_46 : decode cX11_sheet 46 = .ok (.iload_n 1, 1) := by decide +kernel
theorem dX11_sheet_47 : decode cX11_sheet 47 = .ok (.iload_n 2, 1) := by decide +kernel
theorem dX11_sheet_48 : decode cX11_sheet 48 = .ok (.iastore, 1) := by decide +kernel
theorem dX11_sheet_49 : decode cX11_sheet 49 = .ok (.aload_n 0, 1) := by decide +kernel
theorem dX11_sheet_50 : decode cX11_sheet 50 = .ok (.getfield 78, 3) := by decide +kernel
theorem dX11_sheet_53 : decode cX11_sheet 53 = .ok (.iload_n 1, 1) := by decide +kernel
theorem dX11_sheet_54 : decode cX11_sheet 54 = .ok (.iload_n 3, 1) := by decide +kernel
theorem dX11_sheet_55 : decode cX11_sheet 55 = .ok (.iastore, 1) := by decide +kernel
theorem dX11_sheet_56 : decode cX11_sheet 56 = .ok (.iconst 0, 1) := by decide +kernel
theorem dX11_sheet_57 : decode cX11_sheet 57 = .ok (.istore 4, 2) := by decide +kernel
theorem dX11_sheet_59 : decode cX11_sheet 59 = .ok (.iload 4, 2) := by decide +kernel
theorem dX11_sheet_61 : decode cX11_sheet 61 = .ok (.bipush 48, 2) := by decide +kernel
theorem dX11_sheet_63 : decode cX11_sheet 63 = .ok (.if_icmp .ge 22, 3) := by decide +kernel
theorem dX11_sheet_66 : decode cX11_sheet 66 = .ok (.aload_n 0, 1) := by decide +kernel
theorem dX11_sheet_67 : decode cX11_sheet 67 = .ok (.getfield 81, 3) := by decide +kernel
theorem dX11_sheet_70 : decode cX11_sheet 70 = .ok (.bipush 48, 2) := by decide +kernel
theorem dX11_sheet_72 : decode cX11_sheet 72 = .ok (.iload_n 1, 1) := by decide +kernel
theorem dX11_sheet_73 : decode cX11_sheet 73 = .ok (.imul, 1) := by decide +kernel
theorem dX11_sheet_74 : decode cX11_sheet 74 = .ok (.iload 4, 2) := by decide +kernel
theorem dX11_sheet_76 : decode cX11_sheet 76 = .ok (.iadd, 1) := by decide +kernel
theorem dX11_sheet_77 : decode cX11_sheet 77 = .ok (.iconst 0, 1) := by decide +kernel
theorem dX11_sheet_78 : decode cX11_sheet 78 = .ok (.iastore, 1) := by decide +kernel
theorem dX11_sheet_79 : decode cX11_sheet 79 = .ok (.iinc 4 1, 3) := by decide +kernel
theorem dX11_sheet_82 : decode cX11_sheet 82 = .ok (.goto (-23), 3) := by decide +kernel
theorem dX11_sheet_85 : decode cX11_sheet 85 = .ok (.iload_n 3, 1) := by decide +kernel
theorem dX11_sheet_86 : decode cX11_sheet 86 = .ok (.ireturn, 1) := by decide +kernel
theorem dX11_lose_0 : decode cX11_lose 0 = .ok (.iload_n 1, 1) := by decide +kernel
theorem dX11_lose_1 : decode cX11_lose 1 = .ok (.invokestatic 132, 3) := by decide +kernel
theorem dX11_lose_4 : decode cX11_lose 4 = .ok (.ifCond .ne 6, 3) := by decide +kernel
theorem dX11_lose_7 : decode cX11_lose 7 = .ok (.bipush (-2), 2) := by decide +kernel
theorem dX11_lose_9 : decode cX11_lose 9 = .ok (.ireturn, 1) := by decide +kernel
theorem dX11_lose_10 : decode cX11_lose 10 = .ok (.aload_n 0, 1) := by decide +kernel
theorem dX11_lose_11 : decode cX11_lose 11 = .ok (.getfield 71, 3) := by decide +kernel
theorem dX11_lose_14 : decode cX11_lose 14 = .ok (.iload_n 1, 1) := by decide +kernel
theorem dX11_lose_15 : decode cX11_lose 15 = .ok (.baload, 1) := by decide +kernel
theorem dX11_lose_16 : decode cX11_lose 16 = .ok (.ifCond .ne 9, 3) := by decide +kernel
theorem dX11_lose_19 : decode cX11_lose 19 = .ok (.aload_n 0, 1) := by decide +kernel
theorem dX11_lose_20 : decode cX11_lose 20 = .ok (.iconst 1, 1) := by decide +kernel
theorem dX11_lose_21 : decode cX11_lose 21 = .ok (.invokevirtual 135, 3) := by decide +kernel
theorem dX11_lose_24 : decode cX11_lose 24 = .ok (.ireturn, 1) := by decide +kernel
theorem dX11_lose_25 : decode cX11_lose 25 = .ok (.aload_n 0, 1) := by decide +kernel
theorem dX11_lose_26 : decode cX11_lose 26 = .ok (.getfield 71, 3) := by decide +kernel
theorem dX11_lose_29 : decode cX11_lose 29 = .ok (.iload_n 1, 1) := by decide +kernel
theorem dX11_lose_30 : decode cX11_lose 30 = .ok (.iconst 0, 1) := by decide +kernel
theorem dX11_lose_31 : decode cX11_lose 31 = .ok (.bastore, 1) := by decide +kernel
theorem dX11_lose_32 : decode cX11_lose 32 = .ok (.aload_n 0, 1) := by decide +kernel
theorem dX11_lose_33 : decode cX11_lose 33 = .ok (.getfield 78, 3) := by decide +kernel
theorem dX11_lose_36 : decode cX11_lose 36 = .ok (.iload_n 1, 1) := by decide +kernel
theorem dX11_lose_37 : decode cX11_lose 37 = .ok (.iaload, 1) := by decide +kernel
theorem dX11_lose_38 : decode cX11_lose 38 = .ok (.ireturn, 1) := by decide +kernel
theorem dX11_lacks_0 : decode cX11_lacks 0 = .ok (.aload_n 0, 1) := by decide +kernel
theorem dX11_lacks_1 : decode cX11_lacks 1 = .ok (.getfield 71, 3) := by decide +kernel
theorem dX11_lacks_4 : decode cX11_lacks 4 = .ok (.iload_n 1, 1) := by decide +kernel
theorem dX11_lacks_5 : decode cX11_lacks 5 = .ok (.baload, 1) := by decide +kernel
theorem dX11_lacks_6 : decode cX11_lacks 6 = .ok (.ifCond .ne 7, 3) := by decide +kernel
theorem dX11_lacks_9 : decode cX11_lacks 9 = .ok (.iconst 1, 1) := by decide +kernel
theorem dX11_lacks_10 : decode cX11_lacks 10 = .ok (.goto 38, 3) := by decide +kernel
theorem dX11_lacks_13 : decode cX11_lacks 13 = .ok (.aload_n 0, 1) := by decide +kernel
theorem dX11_lacks_14 : decode cX11_lacks 14 = .ok (.getfield 75, 3) := by decide +kernel
theorem dX11_lacks_17 : decode cX11_lacks 17 = .ok (.iload_n 1, 1) := by decide +kernel
theorem dX11_lacks_18 : decode cX11_lacks 18 = .ok (.iaload, 1) := by decide +kernel
theorem dX11_lacks_19 : decode cX11_lacks 19 = .ok (.iload_n 2, 1) := by decide +kernel
theorem dX11_lacks_20 : decode cX11_lacks 20 = .ok (.if_icmp .eq 7, 3) := by decide +kernel
theorem dX11_lacks_23 : decode cX11_lacks 23 = .ok (.iconst 3, 1) := by decide +kernel
theorem dX11_lacks_24 : decode cX11_lacks 24 = .ok (.goto 24, 3) := by decide +kernel
theorem dX11_lacks_27 : decode cX11_lacks 27 = .ok (.iload_n 3, 1) := by decide +kernel
theorem dX11_lacks_28 : decode cX11_lacks 28 = .ok (.iconst 0, 1) := by decide +kernel
theorem dX11_lacks_29 : decode cX11_lacks 29 = .ok (.aload_n 0, 1) := by decide +kernel
theorem dX11_lacks_30 : decode cX11_lacks 30 = .ok (.getfield 78, 3) := by decide +kernel
theorem dX11_lacks_33 : decode cX11_lacks 33 = .ok (.iload_n 1, 1) := by decide +kernel
theorem dX11_lacks_34 : decode cX11_lacks 34 = .ok (.iaload, 1) := by decide +kernel
theorem dX11_lacks_35 : decode cX11_lacks 35 = .ok (.iconst 1, 1) := by decide +kernel
theorem dX11_lacks_36 : decode cX11_lacks 36 = .ok (.isub, 1) := by decide +kernel
theorem dX11_lacks_37 : decode cX11_lacks 37 = .ok (.invokestatic 89, 3) := by decide +kernel
theorem dX11_lacks_40 : decode cX11_lacks 40 = .ok (.ifCond .eq 7, 3) := by decide +kernel
theorem dX11_lacks_43 : decode cX11_lacks 43 = .ok (.iconst 0, 1) := by decide +kernel
theorem dX11_lacks_44 : decode cX11_lacks 44 = .ok (.goto 4, 3) := by decide +kernel
theorem dX11_lacks_47 : decode cX11_lacks 47 = .ok (.iconst 2, 1) := by decide +kernel
theorem dX11_lacks_48 : decode cX11_lacks 48 = .ok (.ireturn, 1) := by decide +kernel
theorem dX11_keep_0 : decode cX11_keep 0 = .ok (.aload_n 0, 1) := by decide +kernel
theorem dX11_keep_1 : decode cX11_keep 1 = .ok (.getfield 81, 3) := by decide +kernel
theorem dX11_keep_4 : decode cX11_keep 4 = .ok (.bipush 48, 2) := by decide +kernel
theorem dX11_keep_6 : decode cX11_keep 6 = .ok (.iload_n 1, 1) := by decide +kernel
theorem dX11_keep_7 : decode cX11_keep 7 = .ok (.imul, 1) := by decide +kernel
theorem dX11_keep_8 : decode cX11_keep 8 = .ok (.iload_n 2, 1) := by decide +kernel
theorem dX11_keep_9 : decode cX11_keep 9 = .ok (.iadd, 1) := by decide +kernel
theorem dX11_keep_10 : decode cX11_keep 10 = .ok (.aload_n 0, 1) := by decide +kernel
theorem dX11_keep_11 : decode cX11_keep 11 = .ok (.getfield 75, 3) := by decide +kernel
theorem dX11_keep_14 : decode cX11_keep 14 = .ok (.iload_n 1, 1) := by decide +kernel
theorem dX11_keep_15 : decode cX11_keep 15 = .ok (.iaload, 1) := by decide +kernel
theorem dX11_keep_16 : decode cX11_keep 16 = .ok (.ifCond .ne 8, 3) := by decide +kernel
theorem dX11_keep_19 : decode cX11_keep 19 = .ok (.iload_n 3, 1) := by decide +kernel
theorem dX11_keep_20 : decode cX11_keep 20 = .ok (.i2b, 1) := by decide +kernel
theorem dX11_keep_21 : decode cX11_keep 21 = .ok (.goto 19, 3) := by decide +kernel
theorem dX11_keep_24 : decode cX11_keep 24 = .ok (.aload_n 0, 1) := by decide +kernel
theorem dX11_keep_25 : decode cX11_keep 25 = .ok (.getfield 75, 3) := by decide +kernel
theorem dX11_keep_28 : decode cX11_keep 28 = .ok (.iload_n 1, 1) := by decide +kernel
theorem dX11_keep_29 : decode cX11_keep 29 = .ok (.iaload, 1) := by decide +kernel
theorem dX11_keep_30 : decode cX11_keep 30 = .ok (.iconst 1, 1) := by decide +kernel
theorem dX11_keep_31 : decode cX11_keep 31 = .ok (.if_icmp .ne 8, 3) := by decide +kernel
theorem dX11_keep_34 : decode cX11_keep 34 = .ok (.iload_n 3, 1) := by decide +kernel
theorem dX11_keep_35 : decode cX11_keep 35 = .ok (.i2s, 1) := by decide +kernel
theorem dX11_keep_36 : decode cX11_keep 36 = .ok (.goto 4, 3) := by decide +kernel
theorem dX11_keep_39 : decode cX11_keep 39 = .ok (.iload_n 3, 1) := by decide +kernel
theorem dX11_keep_40 : decode cX11_keep 40 = .ok (.iastore, 1) := by decide +kernel
theorem dX11_keep_41 : decode cX11_keep 41 = .ok (.return_, 1) := by decide +kernel
theorem dX11_put_0 : decode cX11_put 0 = .ok (.iload_n 1, 1) := by decide +kernel
theorem dX11_put_1 : decode cX11_put 1 = .ok (.invokestatic 132, 3) := by decide +kernel
theorem dX11_put_4 : decode cX11_put 4 = .ok (.ifCond .eq 12, 3) := by decide +kernel
theorem dX11_put_7 : decode cX11_put 7 = .ok (.iload_n 2, 1) := by decide +kernel
theorem dX11_put_8 : decode cX11_put 8 = .ok (.iconst 0, 1) := by decide +kernel
theorem dX11_put_9 : decode cX11_put 9 = .ok (.iconst 2, 1) := by decide +kernel
theorem dX11_put_10 : decode cX11_put 10 = .ok (.invokestatic 89, 3) := by decide +kernel
theorem dX11_put_13 : decode cX11_put 13 = .ok (.ifCond .ne 6, 3) := by decide +kernel
theorem dX11_put_16 : decode cX11_put 16 = .ok (.bipush (-2), 2) := by decide +kernel
theorem dX11_put_18 : decode cX11_put 18 = .ok (.ireturn, 1) := by decide +kernel
theorem dX11_put_19 : decode cX11_put 19 = .ok (.aload_n 0, 1) := by decide +kernel
theorem dX11_put_20 : decode cX11_put 20 = .ok (.iload_n 1, 1) := by decide +kernel
theorem dX11_put_21 : decode cX11_put 21 = .ok (.iload_n 2, 1) := by decide +kernel
theorem dX11_put_22 : decode cX11_put 22 = .ok (.iload_n 3, 1) := by decide +kernel
theorem dX11_put_23 : decode cX11_put 23 = .ok (.invokevirtual 276, 3) := by decide +kernel
theorem dX11_put_26 : decode cX11_put 26 = .ok (.istore 5, 2) := by decide +kernel
theorem dX11_put_28 : decode cX11_put 28 = .ok (.iload 5, 2) := by decide +kernel
theorem dX11_put_30 : decode cX11_put 30 = .ok (.ifCond .le 10, 3) := by decide +kernel
theorem dX11_put_33 : decode cX11_put 33 = .ok (.aload_n 0, 1) := by decide +kernel
theorem dX11_put_34 : decode cX11_put 34 = .ok (.iload 5, 2) := by decide +kernel
theorem dX11_put_36 : decode cX11_put 36 = .ok (.invokevirtual 135, 3) := by decide +kernel
theorem dX11_put_39 : decode cX11_put 39 = .ok (.ireturn, 1) := by decide +kernel
theorem dX11_put_40 : decode cX11_put 40 = .ok (.aload_n 0, 1) := by decide +kernel
theorem dX11_put_41 : decode cX11_put 41 = .ok (.iload_n 1, 1) := by decide +kernel
theorem dX11_put_42 : decode cX11_put 42 = .ok (.iload_n 3, 1) := by decide +kernel
theorem dX11_put_43 : decode cX11_put 43 = .ok (.iload 4, 2) := by decide +kernel
theorem dX11_put_45 : decode cX11_put 45 = .ok (.invokevirtual 279, 3) := by decide +kernel
theorem dX11_put_48 : decode cX11_put 48 = .ok (.iconst 1, 1) := by decide +kernel
theorem dX11_put_49 : decode cX11_put 49 = .ok (.ireturn, 1) := by decide +kernel
theorem dX11_get_0 : decode cX11_get 0 = .ok (.iload_n 1, 1) := by decide +kernel
theorem dX11_get_1 : decode cX11_get 1 = .ok (.invokestatic 132, 3) := by decide +kernel
theorem dX11_get_4 : decode cX11_get 4 = .ok (.ifCond .eq 12, 3) := by decide +kernel
theorem dX11_get_7 : decode cX11_get 7 = .ok (.iload_n 2, 1) := by decide +kernel
theorem dX11_get_8 : decode cX11_get 8 = .ok (.iconst 0, 1) := by decide +kernel
theorem dX11_get_9 : decode cX11_get 9 = .ok (.iconst 2, 1) := by decide +kernel
theorem dX11_get_10 : decode cX11_get 10 = .ok (.invokestatic 89, 3) := by decide +kernel
theorem dX11_get_13 : decode cX11_get 13 = .ok (.ifCond .ne 7, 3) := by decide +kernel
theorem dX11_get_16 : decode cX11_get 16 = .ok (.ldc_w 282, 3) := by decide +kernel
theorem dX11_get_19 : decode cX11_get 19 = .ok (.ireturn, 1) := by decide +kernel
theorem dX11_get_20 : decode cX11_get 20 = .ok (.aload_n 0, 1) := by decide +kernel
theorem dX11_get_21 : decode cX11_get 21 = .ok (.iload_n 1, 1) := by decide +kernel
theorem dX11_get_22 : decode cX11_get 22 = .ok (.iload_n 2, 1) := by decide +kernel
theorem dX11_get_23 : decode cX11_get 23 = .ok (.iload_n 3, 1) := by decide +kernel
theorem dX11_get_24 : decode cX11_get 24 = .ok (.invokevirtual 276, 3) := by decide +kernel
theorem dX11_get_27 : decode cX11_get 27 = .ok (.istore 4, 2) := by decide +kernel
theorem dX11_get_29 : decode cX11_get 29 = .ok (.iload 4, 2) := by decide +kernel
theorem dX11_get_31 : decode cX11_get 31 = .ok (.ifCond .le 13, 3) := by decide +kernel
theorem dX11_get_34 : decode cX11_get 34 = .ok (.aload_n 0, 1) := by decide +kernel
theorem dX11_get_35 : decode cX11_get 35 = .ok (.iload 4, 2) := by decide +kernel
theorem dX11_get_37 : decode cX11_get 37 = .ok (.putfield 273, 3) := by decide +kernel
theorem dX11_get_40 : decode cX11_get 40 = .ok (.ldc_w 282, 3) := by decide +kernel
theorem dX11_get_43 : decode cX11_get 43 = .ok (.ireturn, 1) := by decide +kernel
theorem dX11_get_44 : decode cX11_get 44 = .ok (.aload_n 0, 1) := by decide +kernel
theorem dX11_get_45 : decode cX11_get 45 = .ok (.getfield 81, 3) := by decide +kernel
theorem dX11_get_48 : decode cX11_get 48 = .ok (.bipush 48, 2) := by decide +kernel
theorem dX11_get_50 : decode cX11_get 50 = .ok (.iload_n 1, 1) := by decide +kernel
theorem dX11_get_51 : decode cX11_get 51 = .ok (.imul, 1) := by decide +kernel
theorem dX11_get_52 : decode cX11_get 52 = .ok (.iload_n 3, 1) := by decide +kernel
theorem dX11_get_53 : decode cX11_get 53 = .ok (.iadd, 1) := by decide +kernel
theorem dX11_get_54 : decode cX11_get 54 = .ok (.iaload, 1) := by decide +kernel
theorem dX11_get_55 : decode cX11_get 55 = .ok (.ireturn, 1) := by decide +kernel
theorem dX11_copy_0 : decode cX11_copy 0 = .ok (.iload_n 1, 1) := by decide +kernel
theorem dX11_copy_1 : decode cX11_copy 1 = .ok (.invokestatic 132, 3) := by decide +kernel
theorem dX11_copy_4 : decode cX11_copy 4 = .ok (.ifCond .eq 10, 3) := by decide +kernel
theorem dX11_copy_7 : decode cX11_copy 7 = .ok (.iload_n 3, 1) := by decide +kernel
theorem dX11_copy_8 : decode cX11_copy 8 = .ok (.invokestatic 132, 3) := by decide +kernel
theorem dX11_copy_11 : decode cX11_copy 11 = .ok (.ifCond .ne 6, 3) := by decide +kernel
theorem dX11_copy_14 : decode cX11_copy 14 = .ok (.bipush (-2), 2) := by decide +kernel
theorem dX11_copy_16 : decode cX11_copy 16 = .ok (.ireturn, 1) := by decide +kernel
theorem dX11_copy_17 : decode cX11_copy 17 = .ok (.aload_n 0, 1) := by decide +kernel
theorem dX11_copy_18 : decode cX11_copy 18 = .ok (.getfield 71, 3) := by decide +kernel
theorem dX11_copy_21 : decode cX11_copy 21 = .ok (.iload_n 1, 1) := by decide +kernel
theorem dX11_copy_22 : decode cX11_copy 22 = .ok (.baload, 1) := by decide +kernel
theorem dX11_copy_23 : decode cX11_copy 23 = .ok (.ifCond .eq 12, 3) := by decide +kernel
theorem dX11_copy_26 : decode cX11_copy 26 = .ok (.aload_n 0, 1) := by decide +kernel
theorem dX11_copy_27 : decode cX11_copy 27 = .ok (.getfield 71, 3) := by decide +kernel
theorem dX11_copy_30 : decode cX11_copy 30 = .ok (.iload_n 3, 1) := by decide +kernel
theorem dX11_copy_31 : decode cX11_copy 31 = .ok (.baload, 1) := by decide +kernel
theorem dX11_copy_32 : decode cX11_copy 32 = .ok (.ifCond .ne 9, 3) := by decide +kernel
theorem dX11_copy_35 : decode cX11_copy 35 = .ok (.aload_n 0, 1) := by decide +kernel
theorem dX11_copy_36 : decode cX11_copy 36 = .ok (.iconst 1, 1) := by decide +kernel
theorem dX11_copy_37 : decode cX11_copy 37 = .ok (.invokevirtual 135, 3) := by decide +kernel
theorem dX11_copy_40 : decode cX11_copy 40 = .ok (.ireturn, 1) := by decide +kernel
theorem dX11_copy_41 : decode cX11_copy 41 = .ok (.aload_n 0, 1) := by decide +kernel
theorem dX11_copy_42 : decode cX11_copy 42 = .ok (.getfield 75, 3) := by decide +kernel
theorem dX11_copy_45 : decode cX11_copy 45 = .ok (.iload_n 1, 1) := by decide +kernel
theorem dX11_copy_46 : decode cX11_copy 46 = .ok (.iaload, 1) := by decide +kernel
theorem dX11_copy_47 : decode cX11_copy 47 = .ok (.aload_n 0, 1) := by decide +kernel
theorem dX11_copy_48 : decode cX11_copy 48 = .ok (.getfield 75, 3) := by decide +kernel
theorem dX11_copy_51 : decode cX11_copy 51 = .ok (.iload_n 3, 1) := by decide +kernel
theorem dX11_copy_52 : decode cX11_copy 52 = .ok (.iaload, 1) := by decide +kernel
theorem dX11_copy_53 : decode cX11_copy 53 = .ok (.if_icmp .eq 9, 3) := by decide +kernel
theorem dX11_copy_56 : decode cX11_copy 56 = .ok (.aload_n 0, 1) := by decide +kernel
theorem dX11_copy_57 : decode cX11_copy 57 = .ok (.iconst 4, 1) := by decide +kernel
theorem dX11_copy_58 : decode cX11_copy 58 = .ok (.invokevirtual 135, 3) := by decide +kernel
theorem dX11_copy_61 : decode cX11_copy 61 = .ok (.ireturn, 1) := by decide +kernel
theorem dX11_copy_62 : decode cX11_copy 62 = .ok (.iload_n 2, 1) := by decide +kernel
theorem dX11_copy_63 : decode cX11_copy 63 = .ok (.ifCond .lt 48, 3) := by decide +kernel
theorem dX11_copy_66 : decode cX11_copy 66 = .ok (.iload 4, 2) := by decide +kernel
theorem dX11_copy_68 : decode cX11_copy 68 = .ok (.ifCond .lt 43, 3) := by decide +kernel
theorem dX11_copy_71 : decode cX11_copy 71 = .ok (.iload 5, 2) := by decide +kernel
theorem dX11_copy_73 : decode cX11_copy 73 = .ok (.ifCond .lt 38, 3) := by decide +kernel
theorem dX11_copy_76 : decode cX11_copy 76 = .ok (.iload_n 2, 1) := by decide +kernel
theorem dX11_copy_77 : decode cX11_copy 77 = .ok (.i2l, 1) := by decide +kernel
theorem dX11_copy_78 : decode cX11_copy 78 = .ok (.iload 5, 2) := by decide +kernel
theorem dX11_copy_80 : decode cX11_copy 80 = .ok (.i2l, 1) := by decide +kernel
theorem dX11_copy_81 : decode cX11_copy 81 = .ok (.ladd, 1) := by decide +kernel
theorem dX11_copy_82 : decode cX11_copy 82 = .ok (.aload_n 0, 1) := by decide +kernel
theorem dX11_copy_83 : decode cX11_copy 83 = .ok (.getfield 78, 3) := by decide +kernel
theorem dX11_copy_86 : decode cX11_copy 86 = .ok (.iload_n 1, 1) := by decide +kernel
theorem dX11_copy_87 : decode cX11_copy 87 = .ok (.iaload, 1) := by decide +kernel
theorem dX11_copy_88 : decode cX11_copy 88 = .ok (.i2l, 1) := by decide +kernel
theorem dX11_copy_89 : decode cX11_copy 89 = .ok (.lcmp, 1) := by decide +kernel
theorem dX11_copy_90 : decode cX11_copy 90 = .ok (.ifCond .gt 21, 3) := by decide +kernel
theorem dX11_copy_93 : decode cX11_copy 93 = .ok (.iload 4, 2) := by decide +kernel
theorem dX11_copy_95 : decode cX11_copy 95 = .ok (.i2l, 1) := by decide +kernel
theorem dX11_copy_96 : decode cX11_copy 96 = .ok (.iload 5, 2) := by decide +kernel
theorem dX11_copy_98 : decode cX11_copy 98 = .ok (.i2l, 1) := by decide +kernel
theorem dX11_copy_99 : decode cX11_copy 99 = .ok (.ladd, 1) := by decide +kernel
theorem dX11_copy_100 : decode cX11_copy 100 = .ok (.aload_n 0, 1) := by decide +kernel
theorem dX11_copy_101 : decode cX11_copy 101 = .ok (.getfield 78, 3) := by decide +kernel
theorem dX11_copy_104 : decode cX11_copy 104 = .ok (.iload_n 3, 1) := by decide +kernel
theorem dX11_copy_105 : decode cX11_copy 105 = .ok (.iaload, 1) := by decide +kernel
theorem dX11_copy_106 : decode cX11_copy 106 = .ok (.i2l, 1) := by decide +kernel
theorem dX11_copy_107 : decode cX11_copy 107 = .ok (.lcmp, 1) := by decide +kernel
theorem dX11_copy_108 : decode cX11_copy 108 = .ok (.ifCond .le 9, 3) := by decide +kernel
theorem dX11_copy_111 : decode cX11_copy 111 = .ok (.aload_n 0, 1) := by decide +kernel
theorem dX11_copy_112 : decode cX11_copy 112 = .ok (.iconst 2, 1) := by decide +kernel
theorem dX11_copy_113 : decode cX11_copy 113 = .ok (.invokevirtual 135, 3) := by decide +kernel
theorem dX11_copy_116 : decode cX11_copy 116 = .ok (.ireturn, 1) := by decide +kernel
theorem dX11_copy_117 : decode cX11_copy 117 = .ok (.iconst 0, 1) := by decide +kernel
theorem dX11_copy_118 : decode cX11_copy 118 = .ok (.istore 6, 2) := by decide +kernel
theorem dX11_copy_120 : decode cX11_copy 120 = .ok (.iload 6, 2) := by decide +kernel
theorem dX11_copy_122 : decode cX11_copy 122 = .ok (.iload 5, 2) := by decide +kernel
theorem dX11_copy_124 : decode cX11_copy 124 = .ok (.if_icmp .ge 30, 3) := by decide +kernel
theorem dX11_copy_127 : decode cX11_copy 127 = .ok (.aload_n 0, 1) := by decide +kernel
theorem dX11_copy_128 : decode cX11_copy 128 = .ok (.getfield 84, 3) := by decide +kernel
theorem dX11_copy_131 : decode cX11_copy 131 = .ok (.iload 6, 2) := by decide +kernel
theorem dX11_copy_133 : decode cX11_copy 133 = .ok (.aload_n 0, 1) := by decide +kernel
theorem dX11_copy_134 : decode cX11_copy 134 = .ok (.getfield 81, 3) := by decide +kernel
theorem dX11_copy_137 : decode cX11_copy 137 = .ok (.bipush 48, 2) := by decide +kernel
theorem dX11_copy_139 : decode cX11_copy 139 = .ok (.iload_n 1, 1) := by decide +kernel
theorem dX11_copy_140 : decode cX11_copy 140 = .ok (.imul, 1) := by decide +kernel
theorem dX11_copy_141 : decode cX11_copy 141 = .ok (.iload_n 2, 1) := by decide +kernel
theorem dX11_copy_142 : decode cX11_copy 142 = .ok (.iadd, 1) := by decide +kernel
theorem dX11_copy_143 : decode cX11_copy 143 = .ok (.iload 6, 2) := by decide +kernel
theorem dX11_copy_145 : decode cX11_copy 145 = .ok (.iadd, 1) := by decide +kernel
theorem dX11_copy_146 : decode cX11_copy 146 = .ok (.iaload, 1) := by decide +kernel
theorem dX11_copy_147 : decode cX11_copy 147 = .ok (.iastore, 1) := by decide +kernel
theorem dX11_copy_148 : decode cX11_copy 148 = .ok (.iinc 6 1, 3) := by decide +kernel
theorem dX11_copy_151 : decode cX11_copy 151 = .ok (.goto (-31), 3) := by decide +kernel
theorem dX11_copy_154 : decode cX11_copy 154 = .ok (.iconst 0, 1) := by decide +kernel
theorem dX11_copy_155 : decode cX11_copy 155 = .ok (.istore 6, 2) := by decide +kernel
theorem dX11_copy_157 : decode cX11_copy 157 = .ok (.iload 6, 2) := by decide +kernel
theorem dX11_copy_159 : decode cX11_copy 159 = .ok (.iload 5, 2) := by decide +kernel
theorem dX11_copy_161 : decode cX11_copy 161 = .ok (.if_icmp .ge 31, 3) := by decide +kernel
theorem dX11_copy_164 : decode cX11_copy 164 = .ok (.aload_n 0, 1) := by decide +kernel
theorem dX11_copy_165 : decode cX11_copy 165 = .ok (.getfield 81, 3) := by decide +kernel
theorem dX11_copy_168 : decode cX11_copy 168 = .ok (.bipush 48, 2) := by decide +kernel
theorem dX11_copy_170 : decode cX11_copy 170 = .ok (.iload_n 3, 1) := by decide +kernel
theorem dX11_copy_171 : decode cX11_copy 171 = .ok (.imul, 1) := by decide +kernel
theorem dX11_copy_172 : decode cX11_copy 172 = .ok (.iload 4, 2) := by decide +kernel
theorem dX11_copy_174 : decode cX11_copy 174 = .ok (.iadd, 1) := by decide +kernel
theorem dX11_copy_175 : decode cX11_copy 175 = .ok (.iload 6, 2) := by decide +kernel
theorem dX11_copy_177 : decode cX11_copy 177 = .ok (.iadd, 1) := by decide +kernel
theorem dX11_copy_178 : decode cX11_copy 178 = .ok (.aload_n 0, 1) := by decide +kernel
theorem dX11_copy_179 : decode cX11_copy 179 = .ok (.getfield 84, 3) := by decide +kernel
theorem dX11_copy_182 : decode cX11_copy 182 = .ok (.iload 6, 2) := by decide +kernel
theorem dX11_copy_184 : decode cX11_copy 184 = .ok (.iaload, 1) := by decide +kernel
theorem dX11_copy_185 : decode cX11_copy 185 = .ok (.iastore, 1) := by decide +kernel
theorem dX11_copy_186 : decode cX11_copy 186 = .ok (.iinc 6 1, 3) := by decide +kernel
theorem dX11_copy_189 : decode cX11_copy 189 = .ok (.goto (-32), 3) := by decide +kernel
theorem dX11_copy_192 : decode cX11_copy 192 = .ok (.iconst 1, 1) := by decide +kernel
theorem dX11_copy_193 : decode cX11_copy 193 = .ok (.ireturn, 1) := by decide +kernel
theorem dX11_tell_0 : decode cX11_tell 0 = .ok (.iload_n 1, 1) := by decide +kernel
theorem dX11_tell_1 : decode cX11_tell 1 = .ok (.invokestatic 132, 3) := by decide +kernel
theorem dX11_tell_4 : decode cX11_tell 4 = .ok (.ifCond .ne 6, 3) := by decide +kernel
theorem dX11_tell_7 : decode cX11_tell 7 = .ok (.bipush (-2), 2) := by decide +kernel
theorem dX11_tell_9 : decode cX11_tell 9 = .ok (.ireturn, 1) := by decide +kernel
theorem dX11_tell_10 : decode cX11_tell 10 = .ok (.aload_n 0, 1) := by decide +kernel
theorem dX11_tell_11 : decode cX11_tell 11 = .ok (.getfield 71, 3) := by decide +kernel
theorem dX11_tell_14 : decode cX11_tell 14 = .ok (.iload_n 1, 1) := by decide +kernel
theorem dX11_tell_15 : decode cX11_tell 15 = .ok (.baload, 1) := by decide +kernel
theorem dX11_tell_16 : decode cX11_tell 16 = .ok (.ifCond .ne 9, 3) := by decide +kernel
theorem dX11_tell_19 : decode cX11_tell 19 = .ok (.aload_n 0, 1) := by decide +kernel
theorem dX11_tell_20 : decode cX11_tell 20 = .ok (.iconst 1, 1) := by decide +kernel
theorem dX11_tell_21 : decode cX11_tell 21 = .ok (.invokevirtual 135, 3) := by decide +kernel
theorem dX11_tell_24 : decode cX11_tell 24 = .ok (.ireturn, 1) := by decide +kernel
theorem dX11_tell_25 : decode cX11_tell 25 = .ok (.aload_n 0, 1) := by decide +kernel
theorem dX11_tell_26 : decode cX11_tell 26 = .ok (.invokevirtual 121, 3) := by decide +kernel
theorem dX11_tell_29 : decode cX11_tell 29 = .ok (.iconst 0, 1) := by decide +kernel
theorem dX11_tell_30 : decode cX11_tell 30 = .ok (.istore_n 2, 1) := by decide +kernel
theorem dX11_tell_31 : decode cX11_tell 31 = .ok (.iload_n 2, 1) := by decide +kernel
theorem dX11_tell_32 : decode cX11_tell 32 = .ok (.aload_n 0, 1) := by decide +kernel
theorem dX11_tell_33 : decode cX11_tell 33 = .ok (.getfield 78, 3) := by decide +kernel
theorem dX11_tell_36 : decode cX11_tell 36 = .ok (.iload_n 1, 1) := by decide +kernel
theorem dX11_tell_37 : decode cX11_tell 37 = .ok (.iaload, 1) := by decide +kernel
theorem dX11_tell_38 : decode cX11_tell 38 = .ok (.if_icmp .ge 29, 3) := by decide +kernel
theorem dX11_tell_41 : decode cX11_tell 41 = .ok (.iload_n 2, 1) := by decide +kernel
theorem dX11_tell_42 : decode cX11_tell 42 = .ok (.aload_n 0, 1) := by decide +kernel
theorem dX11_tell_43 : decode cX11_tell 43 = .ok (.getfield 97, 3) := by decide +kernel
theorem dX11_tell_46 : decode cX11_tell 46 = .ok (.if_icmp .ge 21, 3) := by decide +kernel
theorem dX11_tell_49 : decode cX11_tell 49 = .ok (.aload_n 0, 1) := by decide +kernel
theorem dX11_tell_50 : decode cX11_tell 50 = .ok (.iload_n 1, 1) := by decide +kernel
theorem dX11_tell_51 : decode cX11_tell 51 = .ok (.iload_n 2, 1) := by decide +kernel
theorem dX11_tell_52 : decode cX11_tell 52 = .ok (.aload_n 0, 1) := by decide +kernel
theorem dX11_tell_53 : decode cX11_tell 53 = .ok (.getfield 13, 3) := by decide +kernel
theorem dX11_tell_56 : decode cX11_tell 56 = .ok (.iload_n 2, 1) := by decide +kernel
theorem dX11_tell_57 : decode cX11_tell 57 = .ok (.iaload, 1) := by decide +kernel
theorem dX11_tell_58 : decode cX11_tell 58 = .ok (.invokevirtual 279, 3) := by decide +kernel
theorem dX11_tell_61 : decode cX11_tell 61 = .ok (.iinc 2 1, 3) := by decide +kernel
theorem dX11_tell_64 : decode cX11_tell 64 = .ok (.goto (-33), 3) := by decide +kernel
theorem dX11_tell_67 : decode cX11_tell 67 = .ok (.iload_n 2, 1) := by decide +kernel
theorem dX11_tell_68 : decode cX11_tell 68 = .ok (.ireturn, 1) := by decide +kernel
theorem dX11_readsMany_0 : decode cX11_readsMany 0 = .ok (.aload_n 0, 1) := by decide +kernel
theorem dX11_readsMany_1 : decode cX11_readsMany 1 = .ok (.invokevirtual 121, 3) := by decide +kernel
theorem dX11_readsMany_4 : decode cX11_readsMany 4 = .ok (.iload_n 1, 1) := by decide +kernel
theorem dX11_readsMany_5 : decode cX11_readsMany 5 = .ok (.ifCond .ne 10, 3) := by decide +kernel
theorem dX11_readsMany_8 : decode cX11_readsMany 8 = .ok (.aload_n 0, 1) := by decide +kernel
theorem dX11_readsMany_9 : decode cX11_readsMany 9 = .ok (.getfield 97, 3) := by decide +kernel
theorem dX11_readsMany_12 : decode cX11_readsMany 12 = .ok (.goto 19, 3) := by decide +kernel
theorem dX11_readsMany_15 : decode cX11_readsMany 15 = .ok (.iload_n 1, 1) := by decide +kernel
theorem dX11_readsMany_16 : decode cX11_readsMany 16 = .ok (.iconst 2, 1) := by decide +kernel
theorem dX11_readsMany_17 : decode cX11_readsMany 17 = .ok (.if_icmp .ne 10, 3) := by decide +kernel
theorem dX11_readsMany_20 : decode cX11_readsMany 20 = .ok (.aload_n 0, 1) := by decide +kernel
theorem dX11_readsMany_21 : decode cX11_readsMany 21 = .ok (.getfield 103, 3) := by decide +kernel
theorem dX11_readsMany_24 : decode cX11_readsMany 24 = .ok (.goto 7, 3) := by decide +kernel
theorem dX11_readsMany_27 : decode cX11_readsMany 27 = .ok (.aload_n 0, 1) := by decide +kernel
theorem dX11_readsMany_28 : decode cX11_readsMany 28 = .ok (.getfield 100, 3) := by decide +kernel
theorem dX11_readsMany_31 : decode cX11_readsMany 31 = .ok (.ireturn, 1) := by decide +kernel
theorem dX11_count_0 : decode cX11_count 0 = .ok (.iload_n 1, 1) := by decide +kernel
theorem dX11_count_1 : decode cX11_count 1 = .ok (.tableswitch 89 0 8 #[51, 57, 51, 51, 62, 67, 72, 77, 84], 51) := by decide +kernel
theorem dX11_count_52 : decode cX11_count 52 = .ok (.aload_n 0, 1) := by decide +kernel
theorem dX11_count_53 : decode cX11_count 53 = .ok (.iload_n 1, 1) := by decide +kernel
theorem dX11_count_54 : decode cX11_count 54 = .ok (.invokevirtual 283, 3) := by decide +kernel
theorem dX11_count_57 : decode cX11_count 57 = .ok (.ireturn, 1) := by decide +kernel
theorem dX11_count_58 : decode cX11_count 58 = .ok (.aload_n 0, 1) := by decide +kernel
theorem dX11_count_59 : decode cX11_count 59 = .ok (.getfield 93, 3) := by decide +kernel
theorem dX11_count_62 : decode cX11_count 62 = .ok (.ireturn, 1) := by decide +kernel
theorem dX11_count_63 : decode cX11_count 63 = .ok (.aload_n 0, 1) := by decide +kernel
theorem dX11_count_64 : decode cX11_count 64 = .ok (.getfield 144, 3) := by decide +kernel
theorem dX11_count_67 : decode cX11_count 67 = .ok (.ireturn, 1) := by decide +kernel
theorem dX11_count_68 : decode cX11_count 68 = .ok (.aload_n 0, 1) := by decide +kernel
theorem dX11_count_69 : decode cX11_count 69 = .ok (.getfield 248, 3) := by decide +kernel
theorem dX11_count_72 : decode cX11_count 72 = .ok (.ireturn, 1) := by decide +kernel
theorem dX11_count_73 : decode cX11_count 73 = .ok (.aload_n 0, 1) := by decide +kernel
theorem dX11_count_74 : decode cX11_count 74 = .ok (.getfield 141, 3) := by decide +kernel
theorem dX11_count_77 : decode cX11_count 77 = .ok (.ireturn, 1) := by decide +kernel
theorem dX11_count_78 : decode cX11_count 78 = .ok (.aload_n 0, 1) := by decide +kernel
theorem dX11_count_79 : decode cX11_count 79 = .ok (.getfield 31, 3) := by decide +kernel
theorem dX11_count_82 : decode cX11_count 82 = .ok (.iconst 0, 1) := by decide +kernel
theorem dX11_count_83 : decode cX11_count 83 = .ok (.iaload, 1) := by decide +kernel
theorem dX11_count_84 : decode cX11_count 84 = .ok (.ireturn, 1) := by decide +kernel
theorem dX11_count_85 : decode cX11_count 85 = .ok (.aload_n 0, 1) := by decide +kernel
theorem dX11_count_86 : decode cX11_count 86 = .ok (.getfield 273, 3) := by decide +kernel
theorem dX11_count_89 : decode cX11_count 89 = .ok (.ireturn, 1) := by decide +kernel
theorem dX11_count_90 : decode cX11_count 90 = .ok (.bipush (-2), 2) := by decide +kernel
theorem dX11_count_92 : decode cX11_count 92 = .ok (.ireturn, 1) := by decide +kernel
theorem dX11_numberDigest_0 : decode cX11_numberDigest 0 = .ok (.lload_n 1, 1) := by decide +kernel
theorem dX11_numberDigest_1 : decode cX11_numberDigest 1 = .ok (.lstore 4, 2) := by decide +kernel
theorem dX11_numberDigest_3 : decode cX11_numberDigest 3 = .ok (.ldc2_w 286, 3) := by decide +kernel
theorem dX11_numberDigest_6 : decode cX11_numberDigest 6 = .ok (.lload 4, 2) := by decide +kernel
theorem dX11_numberDigest_8 : decode cX11_numberDigest 8 = .ok (.lmul, 1) := by decide +kernel
theorem dX11_numberDigest_9 : decode cX11_numberDigest 9 = .ok (.aload_n 0, 1) := by decide +kernel
theorem dX11_numberDigest_10 : decode cX11_numberDigest 10 = .ok (.iload_n 3, 1) := by decide +kernel
theorem dX11_numberDigest_11 : decode cX11_numberDigest 11 = .ok (.bipush 9, 2) := by decide +kernel
theorem dX11_numberDigest_13 : decode cX11_numberDigest 13 = .ok (.iconst 0, 1) := by decide +kernel
theorem dX11_numberDigest_14 : decode cX11_numberDigest 14 = .ok (.invokevirtual 288, 3) := by decide +kernel
theorem dX11_numberDigest_17 : decode cX11_numberDigest 17 = .ok (.ladd, 1) := by decide +kernel
theorem dX11_numberDigest_18 : decode cX11_numberDigest 18 = .ok (.lstore 4, 2) := by decide +kernel
theorem dX11_numberDigest_20 : decode cX11_numberDigest 20 = .ok (.ldc2_w 286, 3) := by decide +kernel
theorem dX11_numberDigest_23 : decode cX11_numberDigest 23 = .ok (.lload 4, 2) := by decide +kernel
theorem dX11_numberDigest_25 : decode cX11_numberDigest 25 = .ok (.lmul, 1) := by decide +kernel
theorem dX11_numberDigest_26 : decode cX11_numberDigest 26 = .ok (.aload_n 0, 1) := by decide +kernel
theorem dX11_numberDigest_27 : decode cX11_numberDigest 27 = .ok (.iload_n 3, 1) := by decide +kernel
theorem dX11_numberDigest_28 : decode cX11_numberDigest 28 = .ok (.bipush 9, 2) := by decide +kernel
theorem dX11_numberDigest_30 : decode cX11_numberDigest 30 = .ok (.iconst 1, 1) := by decide +kernel
theorem dX11_numberDigest_31 : decode cX11_numberDigest 31 = .ok (.invokevirtual 288, 3) := by decide +kernel
theorem dX11_numberDigest_34 : decode cX11_numberDigest 34 = .ok (.ladd, 1) := by decide +kernel
theorem dX11_numberDigest_35 : decode cX11_numberDigest 35 = .ok (.lstore 4, 2) := by decide +kernel
theorem dX11_numberDigest_37 : decode cX11_numberDigest 37 = .ok (.ldc2_w 286, 3) := by decide +kernel
theorem dX11_numberDigest_40 : decode cX11_numberDigest 40 = .ok (.lload 4, 2) := by decide +kernel
theorem dX11_numberDigest_42 : decode cX11_numberDigest 42 = .ok (.lmul, 1) := by decide +kernel
theorem dX11_numberDigest_43 : decode cX11_numberDigest 43 = .ok (.aload_n 0, 1) := by decide +kernel
theorem dX11_numberDigest_44 : decode cX11_numberDigest 44 = .ok (.iload_n 3, 1) := by decide +kernel
theorem dX11_numberDigest_45 : decode cX11_numberDigest 45 = .ok (.invokevirtual 180, 3) := by decide +kernel
theorem dX11_numberDigest_48 : decode cX11_numberDigest 48 = .ok (.i2l, 1) := by decide +kernel
theorem dX11_numberDigest_49 : decode cX11_numberDigest 49 = .ok (.ladd, 1) := by decide +kernel
theorem dX11_numberDigest_50 : decode cX11_numberDigest 50 = .ok (.lstore 4, 2) := by decide +kernel
theorem dX11_numberDigest_52 : decode cX11_numberDigest 52 = .ok (.ldc2_w 286, 3) := by decide +kernel
theorem dX11_numberDigest_55 : decode cX11_numberDigest 55 = .ok (.lload 4, 2) := by decide +kernel
theorem dX11_numberDigest_57 : decode cX11_numberDigest 57 = .ok (.lmul, 1) := by decide +kernel
theorem dX11_numberDigest_58 : decode cX11_numberDigest 58 = .ok (.aload_n 0, 1) := by decide +kernel
theorem dX11_numberDigest_59 : decode cX11_numberDigest 59 = .ok (.iload_n 3, 1) := by decide +kernel
theorem dX11_numberDigest_60 : decode cX11_numberDigest 60 = .ok (.iconst 0, 1) := by decide +kernel
theorem dX11_numberDigest_61 : decode cX11_numberDigest 61 = .ok (.invokevirtual 183, 3) := by decide +kernel
theorem dX11_numberDigest_64 : decode cX11_numberDigest 64 = .ok (.ladd, 1) := by decide +kernel
theorem dX11_numberDigest_65 : decode cX11_numberDigest 65 = .ok (.lstore 4, 2) := by decide +kernel
theorem dX11_numberDigest_67 : decode cX11_numberDigest 67 = .ok (.ldc2_w 286, 3) := by decide +kernel
theorem dX11_numberDigest_70 : decode cX11_numberDigest 70 = .ok (.lload 4, 2) := by decide +kernel
theorem dX11_numberDigest_72 : decode cX11_numberDigest 72 = .ok (.lmul, 1) := by decide +kernel
theorem dX11_numberDigest_73 : decode cX11_numberDigest 73 = .ok (.aload_n 0, 1) := by decide +kernel
theorem dX11_numberDigest_74 : decode cX11_numberDigest 74 = .ok (.iload_n 3, 1) := by decide +kernel
theorem dX11_numberDigest_75 : decode cX11_numberDigest 75 = .ok (.iconst 1, 1) := by decide +kernel
theorem dX11_numberDigest_76 : decode cX11_numberDigest 76 = .ok (.invokevirtual 183, 3) := by decide +kernel
theorem dX11_numberDigest_79 : decode cX11_numberDigest 79 = .ok (.ladd, 1) := by decide +kernel
theorem dX11_numberDigest_80 : decode cX11_numberDigest 80 = .ok (.lreturn, 1) := by decide +kernel
theorem dX11_digest_0 : decode cX11_digest 0 = .ok (.ldc2_w 291, 3) := by decide +kernel
theorem dX11_digest_3 : decode cX11_digest 3 = .ok (.lstore_n 1, 1) := by decide +kernel
theorem dX11_digest_4 : decode cX11_digest 4 = .ok (.iconst 0, 1) := by decide +kernel
theorem dX11_digest_5 : decode cX11_digest 5 = .ok (.istore_n 3, 1) := by decide +kernel
theorem dX11_digest_6 : decode cX11_digest 6 = .ok (.iload_n 3, 1) := by decide +kernel
theorem dX11_digest_7 : decode cX11_digest 7 = .ok (.bipush 8, 2) := by decide +kernel
theorem dX11_digest_9 : decode cX11_digest 9 = .ok (.if_icmp .ge 22, 3) := by decide +kernel
theorem dX11_digest_12 : decode cX11_digest 12 = .ok (.ldc2_w 286, 3) := by decide +kernel
theorem dX11_digest_15 : decode cX11_digest 15 = .ok (.lload_n 1, 1) := by decide +kernel
theorem dX11_digest_16 : decode cX11_digest 16 = .ok (.lmul, 1) := by decide +kernel
theorem dX11_digest_17 : decode cX11_digest 17 = .ok (.aload_n 0, 1) := by decide +kernel
theorem dX11_digest_18 : decode cX11_digest 18 = .ok (.iload_n 3, 1) := by decide +kernel
theorem dX11_digest_19 : decode cX11_digest 19 = .ok (.invokevirtual 293, 3) := by decide +kernel
theorem dX11_digest_22 : decode cX11_digest 22 = .ok (.i2l, 1) := by decide +kernel
theorem dX11_digest_23 : decode cX11_digest 23 = .ok (.ladd, 1) := by decide +kernel
theorem dX11_digest_24 : decode cX11_digest 24 = .ok (.lstore_n 1, 1) := by decide +kernel
theorem dX11_digest_25 : decode cX11_digest 25 = .ok (.iinc 3 1, 3) := by decide +kernel
theorem dX11_digest_28 : decode cX11_digest 28 = .ok (.goto (-22), 3) := by decide +kernel
theorem dX11_digest_31 : decode cX11_digest 31 = .ok (.ldc2_w 286, 3) := by decide +kernel
theorem dX11_digest_34 : decode cX11_digest 34 = .ok (.lload_n 1, 1) := by decide +kernel
theorem dX11_digest_35 : decode cX11_digest 35 = .ok (.lmul, 1) := by decide +kernel
theorem dX11_digest_36 : decode cX11_digest 36 = .ok (.aload_n 0, 1) := by decide +kernel
theorem dX11_digest_37 : decode cX11_digest 37 = .ok (.invokevirtual 118, 3) := by decide +kernel
theorem dX11_digest_40 : decode cX11_digest 40 = .ok (.i2l, 1) := by decide +kernel
theorem dX11_digest_41 : decode cX11_digest 41 = .ok (.ladd, 1) := by decide +kernel
theorem dX11_digest_42 : decode cX11_digest 42 = .ok (.lstore_n 1, 1) := by decide +kernel
theorem dX11_digest_43 : decode cX11_digest 43 = .ok (.aload_n 0, 1) := by decide +kernel
theorem dX11_digest_44 : decode cX11_digest 44 = .ok (.lload_n 1, 1) := by decide +kernel
theorem dX11_digest_45 : decode cX11_digest 45 = .ok (.iconst 1, 1) := by decide +kernel
theorem dX11_digest_46 : decode cX11_digest 46 = .ok (.invokevirtual 296, 3) := by decide +kernel
theorem dX11_digest_49 : decode cX11_digest 49 = .ok (.lstore_n 1, 1) := by decide +kernel
theorem dX11_digest_50 : decode cX11_digest 50 = .ok (.aload_n 0, 1) := by decide +kernel
theorem dX11_digest_51 : decode cX11_digest 51 = .ok (.lload_n 1, 1) := by decide +kernel
theorem dX11_digest_52 : decode cX11_digest 52 = .ok (.bipush 10, 2) := by decide +kernel
theorem dX11_digest_54 : decode cX11_digest 54 = .ok (.invokevirtual 296, 3) := by decide +kernel
theorem dX11_digest_57 : decode cX11_digest 57 = .ok (.lstore_n 1, 1) := by decide +kernel
theorem dX11_digest_58 : decode cX11_digest 58 = .ok (.aload_n 0, 1) := by decide +kernel
theorem dX11_digest_59 : decode cX11_digest 59 = .ok (.lload_n 1, 1) := by decide +kernel
theorem dX11_digest_60 : decode cX11_digest 60 = .ok (.bipush 30, 2) := by decide +kernel
theorem dX11_digest_62 : decode cX11_digest 62 = .ok (.invokevirtual 296, 3) := by decide +kernel
theorem dX11_digest_65 : decode cX11_digest 65 = .ok (.lstore_n 1, 1) := by decide +kernel
theorem dX11_digest_66 : decode cX11_digest 66 = .ok (.ldc2_w 286, 3) := by decide +kernel
theorem dX11_digest_69 : decode cX11_digest 69 = .ok (.lload_n 1, 1) := by decide +kernel
theorem dX11_digest_70 : decode cX11_digest 70 = .ok (.lmul, 1) := by decide +kernel
theorem dX11_digest_71 : decode cX11_digest 71 = .ok (.aload_n 0, 1) := by decide +kernel
theorem dX11_digest_72 : decode cX11_digest 72 = .ok (.invokevirtual 190, 3) := by decide +kernel
theorem dX11_digest_75 : decode cX11_digest 75 = .ok (.i2l, 1) := by decide +kernel
theorem dX11_digest_76 : decode cX11_digest 76 = .ok (.ladd, 1) := by decide +kernel
theorem dX11_digest_77 : decode cX11_digest 77 = .ok (.lstore_n 1, 1) := by decide +kernel
theorem dX11_digest_78 : decode cX11_digest 78 = .ok (.bipush (-2), 2) := by decide +kernel
theorem dX11_digest_80 : decode cX11_digest 80 = .ok (.istore_n 3, 1) := by decide +kernel
theorem dX11_digest_81 : decode cX11_digest 81 = .ok (.iload_n 3, 1) := by decide +kernel
theorem dX11_digest_82 : decode cX11_digest 82 = .ok (.iconst 3, 1) := by decide +kernel
theorem dX11_digest_83 : decode cX11_digest 83 = .ok (.if_icmp .ge 39, 3) := by decide +kernel
theorem dX11_digest_86 : decode cX11_digest 86 = .ok (.ldc2_w 286, 3) := by decide +kernel
theorem dX11_digest_89 : decode cX11_digest 89 = .ok (.lload_n 1, 1) := by decide +kernel
theorem dX11_digest_90 : decode cX11_digest 90 = .ok (.lmul, 1) := by decide +kernel
theorem dX11_digest_91 : decode cX11_digest 91 = .ok (.aload_n 0, 1) := by decide +kernel
theorem dX11_digest_92 : decode cX11_digest 92 = .ok (.bipush 20, 2) := by decide +kernel
theorem dX11_digest_94 : decode cX11_digest 94 = .ok (.iload_n 3, 1) := by decide +kernel
theorem dX11_digest_95 : decode cX11_digest 95 = .ok (.iconst 0, 1) := by decide +kernel
theorem dX11_digest_96 : decode cX11_digest 96 = .ok (.invokevirtual 300, 3) := by decide +kernel
theorem dX11_digest_99 : decode cX11_digest 99 = .ok (.ladd, 1) := by decide +kernel
theorem dX11_digest_100 : decode cX11_digest 100 = .ok (.lstore_n 1, 1) := by decide +kernel
theorem dX11_digest_101 : decode cX11_digest 101 = .ok (.ldc2_w 286, 3) := by decide +kernel
theorem dX11_digest_104 : decode cX11_digest 104 = .ok (.lload_n 1, 1) := by decide +kernel
theorem dX11_digest_105 : decode cX11_digest 105 = .ok (.lmul, 1) := by decide +kernel
theorem dX11_digest_106 : decode cX11_digest 106 = .ok (.aload_n 0, 1) := by decide +kernel
theorem dX11_digest_107 : decode cX11_digest 107 = .ok (.bipush 20, 2) := by decide +kernel
theorem dX11_digest_109 : decode cX11_digest 109 = .ok (.iload_n 3, 1) := by decide +kernel
theorem dX11_digest_110 : decode cX11_digest 110 = .ok (.iconst 1, 1) := by decide +kernel
theorem dX11_digest_111 : decode cX11_digest 111 = .ok (.invokevirtual 300, 3) := by decide +kernel
theorem dX11_digest_114 : decode cX11_digest 114 = .ok (.ladd, 1) := by decide +kernel
theorem dX11_digest_115 : decode cX11_digest 115 = .ok (.lstore_n 1, 1) := by decide +kernel
theorem dX11_digest_116 : decode cX11_digest 116 = .ok (.iinc 3 1, 3) := by decide +kernel
theorem dX11_digest_119 : decode cX11_digest 119 = .ok (.goto (-38), 3) := by decide +kernel
theorem dX11_digest_122 : decode cX11_digest 122 = .ok (.iconst 0, 1) := by decide +kernel
theorem dX11_digest_123 : decode cX11_digest 123 = .ok (.istore_n 3, 1) := by decide +kernel
theorem dX11_digest_124 : decode cX11_digest 124 = .ok (.iload_n 3, 1) := by decide +kernel
theorem dX11_digest_125 : decode cX11_digest 125 = .ok (.iconst 2, 1) := by decide +kernel
theorem dX11_digest_126 : decode cX11_digest 126 = .ok (.if_icmp .ge 35, 3) := by decide +kernel
theorem dX11_digest_129 : decode cX11_digest 129 = .ok (.ldc2_w 286, 3) := by decide +kernel
theorem dX11_digest_132 : decode cX11_digest 132 = .ok (.lload_n 1, 1) := by decide +kernel
theorem dX11_digest_133 : decode cX11_digest 133 = .ok (.lmul, 1) := by decide +kernel
theorem dX11_digest_134 : decode cX11_digest 134 = .ok (.aload_n 0, 1) := by decide +kernel
theorem dX11_digest_135 : decode cX11_digest 135 = .ok (.iload_n 3, 1) := by decide +kernel
theorem dX11_digest_136 : decode cX11_digest 136 = .ok (.iconst 0, 1) := by decide +kernel
theorem dX11_digest_137 : decode cX11_digest 137 = .ok (.invokevirtual 303, 3) := by decide +kernel
theorem dX11_digest_140 : decode cX11_digest 140 = .ok (.ladd, 1) := by decide +kernel
theorem dX11_digest_141 : decode cX11_digest 141 = .ok (.lstore_n 1, 1) := by decide +kernel
theorem dX11_digest_142 : decode cX11_digest 142 = .ok (.ldc2_w 286, 3) := by decide +kernel
theorem dX11_digest_145 : decode cX11_digest 145 = .ok (.lload_n 1, 1) := by decide +kernel
theorem dX11_digest_146 : decode cX11_digest 146 = .ok (.lmul, 1) := by decide +kernel
theorem dX11_digest_147 : decode cX11_digest 147 = .ok (.aload_n 0, 1) := by decide +kernel
theorem dX11_digest_148 : decode cX11_digest 148 = .ok (.iload_n 3, 1) := by decide +kernel
theorem dX11_digest_149 : decode cX11_digest 149 = .ok (.iconst 1, 1) := by decide +kernel
theorem dX11_digest_150 : decode cX11_digest 150 = .ok (.invokevirtual 303, 3) := by decide +kernel
theorem dX11_digest_153 : decode cX11_digest 153 = .ok (.ladd, 1) := by decide +kernel
theorem dX11_digest_154 : decode cX11_digest 154 = .ok (.lstore_n 1, 1) := by decide +kernel
theorem dX11_digest_155 : decode cX11_digest 155 = .ok (.iinc 3 1, 3) := by decide +kernel
theorem dX11_digest_158 : decode cX11_digest 158 = .ok (.goto (-34), 3) := by decide +kernel
theorem dX11_digest_161 : decode cX11_digest 161 = .ok (.ldc2_w 286, 3) := by decide +kernel
theorem dX11_digest_164 : decode cX11_digest 164 = .ok (.lload_n 1, 1) := by decide +kernel
theorem dX11_digest_165 : decode cX11_digest 165 = .ok (.lmul, 1) := by decide +kernel
theorem dX11_digest_166 : decode cX11_digest 166 = .ok (.aload_n 0, 1) := by decide +kernel
theorem dX11_digest_167 : decode cX11_digest 167 = .ok (.iconst 1, 1) := by decide +kernel
theorem dX11_digest_168 : decode cX11_digest 168 = .ok (.invokevirtual 306, 3) := by decide +kernel
theorem dX11_digest_171 : decode cX11_digest 171 = .ok (.i2l, 1) := by decide +kernel
theorem dX11_digest_172 : decode cX11_digest 172 = .ok (.ladd, 1) := by decide +kernel
theorem dX11_digest_173 : decode cX11_digest 173 = .ok (.lstore_n 1, 1) := by decide +kernel
theorem dX11_digest_174 : decode cX11_digest 174 = .ok (.ldc2_w 286, 3) := by decide +kernel
theorem dX11_digest_177 : decode cX11_digest 177 = .ok (.lload_n 1, 1) := by decide +kernel
theorem dX11_digest_178 : decode cX11_digest 178 = .ok (.lmul, 1) := by decide +kernel
theorem dX11_digest_179 : decode cX11_digest 179 = .ok (.aload_n 0, 1) := by decide +kernel
theorem dX11_digest_180 : decode cX11_digest 180 = .ok (.iconst 2, 1) := by decide +kernel
theorem dX11_digest_181 : decode cX11_digest 181 = .ok (.invokevirtual 306, 3) := by decide +kernel
theorem dX11_digest_184 : decode cX11_digest 184 = .ok (.i2l, 1) := by decide +kernel
theorem dX11_digest_185 : decode cX11_digest 185 = .ok (.ladd, 1) := by decide +kernel
theorem dX11_digest_186 : decode cX11_digest 186 = .ok (.lstore_n 1, 1) := by decide +kernel
theorem dX11_digest_187 : decode cX11_digest 187 = .ok (.ldc2_w 286, 3) := by decide +kernel
theorem dX11_digest_190 : decode cX11_digest 190 = .ok (.lload_n 1, 1) := by decide +kernel
theorem dX11_digest_191 : decode cX11_digest 191 = .ok (.lmul, 1) := by decide +kernel
theorem dX11_digest_192 : decode cX11_digest 192 = .ok (.aload_n 0, 1) := by decide +kernel
theorem dX11_digest_193 : decode cX11_digest 193 = .ok (.bipush 8, 2) := by decide +kernel
theorem dX11_digest_195 : decode cX11_digest 195 = .ok (.invokevirtual 233, 3) := by decide +kernel
theorem dX11_digest_198 : decode cX11_digest 198 = .ok (.i2l, 1) := by decide +kernel
theorem dX11_digest_199 : decode cX11_digest 199 = .ok (.ladd, 1) := by decide +kernel
theorem dX11_digest_200 : decode cX11_digest 200 = .ok (.lstore_n 1, 1) := by decide +kernel
theorem dX11_digest_201 : decode cX11_digest 201 = .ok (.iconst 0, 1) := by decide +kernel
theorem dX11_digest_202 : decode cX11_digest 202 = .ok (.istore_n 3, 1) := by decide +kernel
theorem dX11_digest_203 : decode cX11_digest 203 = .ok (.iload_n 3, 1) := by decide +kernel
theorem dX11_digest_204 : decode cX11_digest 204 = .ok (.aload_n 0, 1) := by decide +kernel
theorem dX11_digest_205 : decode cX11_digest 205 = .ok (.getfield 100, 3) := by decide +kernel
theorem dX11_digest_208 : decode cX11_digest 208 = .ok (.if_icmp .ge 22, 3) := by decide +kernel
theorem dX11_digest_211 : decode cX11_digest 211 = .ok (.ldc2_w 286, 3) := by decide +kernel
theorem dX11_digest_214 : decode cX11_digest 214 = .ok (.lload_n 1, 1) := by decide +kernel
theorem dX11_digest_215 : decode cX11_digest 215 = .ok (.lmul, 1) := by decide +kernel
theorem dX11_digest_216 : decode cX11_digest 216 = .ok (.aload_n 0, 1) := by decide +kernel
theorem dX11_digest_217 : decode cX11_digest 217 = .ok (.iload_n 3, 1) := by decide +kernel
theorem dX11_digest_218 : decode cX11_digest 218 = .ok (.invokevirtual 236, 3) := by decide +kernel
theorem dX11_digest_221 : decode cX11_digest 221 = .ok (.i2l, 1) := by decide +kernel
theorem dX11_digest_222 : decode cX11_digest 222 = .ok (.ladd, 1) := by decide +kernel
theorem dX11_digest_223 : decode cX11_digest 223 = .ok (.lstore_n 1, 1) := by decide +kernel
theorem dX11_digest_224 : decode cX11_digest 224 = .ok (.iinc 3 1, 3) := by decide +kernel
theorem dX11_digest_227 : decode cX11_digest 227 = .ok (.goto (-24), 3) := by decide +kernel
theorem dX11_digest_230 : decode cX11_digest 230 = .ok (.ldc2_w 286, 3) := by decide +kernel
theorem dX11_digest_233 : decode cX11_digest 233 = .ok (.lload_n 1, 1) := by decide +kernel
theorem dX11_digest_234 : decode cX11_digest 234 = .ok (.lmul, 1) := by decide +kernel
theorem dX11_digest_235 : decode cX11_digest 235 = .ok (.aload_n 0, 1) := by decide +kernel
theorem dX11_digest_236 : decode cX11_digest 236 = .ok (.bipush 9, 2) := by decide +kernel
theorem dX11_digest_238 : decode cX11_digest 238 = .ok (.bipush 12, 2) := by decide +kernel
theorem dX11_digest_240 : decode cX11_digest 240 = .ok (.iconst 0, 1) := by decide +kernel
theorem dX11_digest_241 : decode cX11_digest 241 = .ok (.invokevirtual 309, 3) := by decide +kernel
theorem dX11_digest_244 : decode cX11_digest 244 = .ok (.ladd, 1) := by decide +kernel
theorem dX11_digest_245 : decode cX11_digest 245 = .ok (.lstore_n 1, 1) := by decide +kernel
theorem dX11_digest_246 : decode cX11_digest 246 = .ok (.ldc2_w 286, 3) := by decide +kernel
theorem dX11_digest_249 : decode cX11_digest 249 = .ok (.lload_n 1, 1) := by decide +kernel
theorem dX11_digest_250 : decode cX11_digest 250 = .ok (.lmul, 1) := by decide +kernel
theorem dX11_digest_251 : decode cX11_digest 251 = .ok (.aload_n 0, 1) := by decide +kernel
theorem dX11_digest_252 : decode cX11_digest 252 = .ok (.bipush 9, 2) := by decide +kernel
theorem dX11_digest_254 : decode cX11_digest 254 = .ok (.bipush 12, 2) := by decide +kernel
theorem dX11_digest_256 : decode cX11_digest 256 = .ok (.iconst 1, 1) := by decide +kernel
theorem dX11_digest_257 : decode cX11_digest 257 = .ok (.invokevirtual 309, 3) := by decide +kernel
theorem dX11_digest_260 : decode cX11_digest 260 = .ok (.ladd, 1) := by decide +kernel
theorem dX11_digest_261 : decode cX11_digest 261 = .ok (.lstore_n 1, 1) := by decide +kernel
theorem dX11_digest_262 : decode cX11_digest 262 = .ok (.ldc2_w 286, 3) := by decide +kernel
theorem dX11_digest_265 : decode cX11_digest 265 = .ok (.lload_n 1, 1) := by decide +kernel
theorem dX11_digest_266 : decode cX11_digest 266 = .ok (.lmul, 1) := by decide +kernel
theorem dX11_digest_267 : decode cX11_digest 267 = .ok (.aload_n 0, 1) := by decide +kernel
theorem dX11_digest_268 : decode cX11_digest 268 = .ok (.iconst 0, 1) := by decide +kernel
theorem dX11_digest_269 : decode cX11_digest 269 = .ok (.iconst 0, 1) := by decide +kernel
theorem dX11_digest_270 : decode cX11_digest 270 = .ok (.invokevirtual 242, 3) := by decide +kernel
theorem dX11_digest_273 : decode cX11_digest 273 = .ok (.ladd, 1) := by decide +kernel
theorem dX11_digest_274 : decode cX11_digest 274 = .ok (.lstore_n 1, 1) := by decide +kernel
theorem dX11_digest_275 : decode cX11_digest 275 = .ok (.ldc2_w 286, 3) := by decide +kernel
theorem dX11_digest_278 : decode cX11_digest 278 = .ok (.lload_n 1, 1) := by decide +kernel
theorem dX11_digest_279 : decode cX11_digest 279 = .ok (.lmul, 1) := by decide +kernel
theorem dX11_digest_280 : decode cX11_digest 280 = .ok (.aload_n 0, 1) := by decide +kernel
theorem dX11_digest_281 : decode cX11_digest 281 = .ok (.iconst 0, 1) := by decide +kernel
theorem dX11_digest_282 : decode cX11_digest 282 = .ok (.iconst 1, 1) := by decide +kernel
theorem dX11_digest_283 : decode cX11_digest 283 = .ok (.invokevirtual 242, 3) := by decide +kernel
theorem dX11_digest_286 : decode cX11_digest 286 = .ok (.ladd, 1) := by decide +kernel
theorem dX11_digest_287 : decode cX11_digest 287 = .ok (.lstore_n 1, 1) := by decide +kernel
theorem dX11_digest_288 : decode cX11_digest 288 = .ok (.ldc2_w 286, 3) := by decide +kernel
theorem dX11_digest_291 : decode cX11_digest 291 = .ok (.lload_n 1, 1) := by decide +kernel
theorem dX11_digest_292 : decode cX11_digest 292 = .ok (.lmul, 1) := by decide +kernel
theorem dX11_digest_293 : decode cX11_digest 293 = .ok (.aload_n 0, 1) := by decide +kernel
theorem dX11_digest_294 : decode cX11_digest 294 = .ok (.bipush 9, 2) := by decide +kernel
theorem dX11_digest_296 : decode cX11_digest 296 = .ok (.iconst 0, 1) := by decide +kernel
theorem dX11_digest_297 : decode cX11_digest 297 = .ok (.invokevirtual 242, 3) := by decide +kernel
theorem dX11_digest_300 : decode cX11_digest 300 = .ok (.ladd, 1) := by decide +kernel
theorem dX11_digest_301 : decode cX11_digest 301 = .ok (.lstore_n 1, 1) := by decide +kernel
theorem dX11_digest_302 : decode cX11_digest 302 = .ok (.ldc2_w 286, 3) := by decide +kernel
theorem dX11_digest_305 : decode cX11_digest 305 = .ok (.lload_n 1, 1) := by decide +kernel
theorem dX11_digest_306 : decode cX11_digest 306 = .ok (.lmul, 1) := by decide +kernel
theorem dX11_digest_307 : decode cX11_digest 307 = .ok (.aload_n 0, 1) := by decide +kernel
theorem dX11_digest_308 : decode cX11_digest 308 = .ok (.bipush 9, 2) := by decide +kernel
theorem dX11_digest_310 : decode cX11_digest 310 = .ok (.iconst 1, 1) := by decide +kernel
theorem dX11_digest_311 : decode cX11_digest 311 = .ok (.invokevirtual 242, 3) := by decide +kernel
theorem dX11_digest_314 : decode cX11_digest 314 = .ok (.ladd, 1) := by decide +kernel
theorem dX11_digest_315 : decode cX11_digest 315 = .ok (.lstore_n 1, 1) := by decide +kernel
theorem dX11_digest_316 : decode cX11_digest 316 = .ok (.ldc2_w 286, 3) := by decide +kernel
theorem dX11_digest_319 : decode cX11_digest 319 = .ok (.lload_n 1, 1) := by decide +kernel
theorem dX11_digest_320 : decode cX11_digest 320 = .ok (.lmul, 1) := by decide +kernel
theorem dX11_digest_321 : decode cX11_digest 321 = .ok (.aload_n 0, 1) := by decide +kernel
theorem dX11_digest_322 : decode cX11_digest 322 = .ok (.iconst 0, 1) := by decide +kernel
theorem dX11_digest_323 : decode cX11_digest 323 = .ok (.invokevirtual 245, 3) := by decide +kernel
theorem dX11_digest_326 : decode cX11_digest 326 = .ok (.i2l, 1) := by decide +kernel
theorem dX11_digest_327 : decode cX11_digest 327 = .ok (.ladd, 1) := by decide +kernel
theorem dX11_digest_328 : decode cX11_digest 328 = .ok (.lstore_n 1, 1) := by decide +kernel
theorem dX11_digest_329 : decode cX11_digest 329 = .ok (.ldc2_w 286, 3) := by decide +kernel
theorem dX11_digest_332 : decode cX11_digest 332 = .ok (.lload_n 1, 1) := by decide +kernel
theorem dX11_digest_333 : decode cX11_digest 333 = .ok (.lmul, 1) := by decide +kernel
theorem dX11_digest_334 : decode cX11_digest 334 = .ok (.aload_n 0, 1) := by decide +kernel
theorem dX11_digest_335 : decode cX11_digest 335 = .ok (.iconst 1, 1) := by decide +kernel
theorem dX11_digest_336 : decode cX11_digest 336 = .ok (.invokevirtual 245, 3) := by decide +kernel
theorem dX11_digest_339 : decode cX11_digest 339 = .ok (.i2l, 1) := by decide +kernel
theorem dX11_digest_340 : decode cX11_digest 340 = .ok (.ladd, 1) := by decide +kernel
theorem dX11_digest_341 : decode cX11_digest 341 = .ok (.lstore_n 1, 1) := by decide +kernel
theorem dX11_digest_342 : decode cX11_digest 342 = .ok (.ldc2_w 286, 3) := by decide +kernel
theorem dX11_digest_345 : decode cX11_digest 345 = .ok (.lload_n 1, 1) := by decide +kernel
theorem dX11_digest_346 : decode cX11_digest 346 = .ok (.lmul, 1) := by decide +kernel
theorem dX11_digest_347 : decode cX11_digest 347 = .ok (.aload_n 0, 1) := by decide +kernel
theorem dX11_digest_348 : decode cX11_digest 348 = .ok (.iconst 0, 1) := by decide +kernel
theorem dX11_digest_349 : decode cX11_digest 349 = .ok (.invokevirtual 254, 3) := by decide +kernel
theorem dX11_digest_352 : decode cX11_digest 352 = .ok (.i2l, 1) := by decide +kernel
theorem dX11_digest_353 : decode cX11_digest 353 = .ok (.ladd, 1) := by decide +kernel
theorem dX11_digest_354 : decode cX11_digest 354 = .ok (.lstore_n 1, 1) := by decide +kernel
theorem dX11_digest_355 : decode cX11_digest 355 = .ok (.ldc2_w 286, 3) := by decide +kernel
theorem dX11_digest_358 : decode cX11_digest 358 = .ok (.lload_n 1, 1) := by decide +kernel
theorem dX11_digest_359 : decode cX11_digest 359 = .ok (.lmul, 1) := by decide +kernel
theorem dX11_digest_360 : decode cX11_digest 360 = .ok (.aload_n 0, 1) := by decide +kernel
theorem dX11_digest_361 : decode cX11_digest 361 = .ok (.iconst 1, 1) := by decide +kernel
theorem dX11_digest_362 : decode cX11_digest 362 = .ok (.invokevirtual 254, 3) := by decide +kernel
theorem dX11_digest_365 : decode cX11_digest 365 = .ok (.i2l, 1) := by decide +kernel
theorem dX11_digest_366 : decode cX11_digest 366 = .ok (.ladd, 1) := by decide +kernel
theorem dX11_digest_367 : decode cX11_digest 367 = .ok (.lstore_n 1, 1) := by decide +kernel
theorem dX11_digest_368 : decode cX11_digest 368 = .ok (.ldc2_w 286, 3) := by decide +kernel
theorem dX11_digest_371 : decode cX11_digest 371 = .ok (.lload_n 1, 1) := by decide +kernel
theorem dX11_digest_372 : decode cX11_digest 372 = .ok (.lmul, 1) := by decide +kernel
theorem dX11_digest_373 : decode cX11_digest 373 = .ok (.aload_n 0, 1) := by decide +kernel
theorem dX11_digest_374 : decode cX11_digest 374 = .ok (.bipush 9, 2) := by decide +kernel
theorem dX11_digest_376 : decode cX11_digest 376 = .ok (.invokevirtual 257, 3) := by decide +kernel
theorem dX11_digest_379 : decode cX11_digest 379 = .ok (.i2l, 1) := by decide +kernel
theorem dX11_digest_380 : decode cX11_digest 380 = .ok (.ladd, 1) := by decide +kernel
theorem dX11_digest_381 : decode cX11_digest 381 = .ok (.lstore_n 1, 1) := by decide +kernel
theorem dX11_digest_382 : decode cX11_digest 382 = .ok (.ldc2_w 286, 3) := by decide +kernel
theorem dX11_digest_385 : decode cX11_digest 385 = .ok (.lload_n 1, 1) := by decide +kernel
theorem dX11_digest_386 : decode cX11_digest 386 = .ok (.lmul, 1) := by decide +kernel
theorem dX11_digest_387 : decode cX11_digest 387 = .ok (.aload_n 0, 1) := by decide +kernel
theorem dX11_digest_388 : decode cX11_digest 388 = .ok (.iconst 0, 1) := by decide +kernel
theorem dX11_digest_389 : decode cX11_digest 389 = .ok (.invokevirtual 263, 3) := by decide +kernel
theorem dX11_digest_392 : decode cX11_digest 392 = .ok (.i2l, 1) := by decide +kernel
theorem dX11_digest_393 : decode cX11_digest 393 = .ok (.ladd, 1) := by decide +kernel
theorem dX11_digest_394 : decode cX11_digest 394 = .ok (.lstore_n 1, 1) := by decide +kernel
theorem dX11_digest_395 : decode cX11_digest 395 = .ok (.ldc2_w 286, 3) := by decide +kernel
theorem dX11_digest_398 : decode cX11_digest 398 = .ok (.lload_n 1, 1) := by decide +kernel
theorem dX11_digest_399 : decode cX11_digest 399 = .ok (.lmul, 1) := by decide +kernel
theorem dX11_digest_400 : decode cX11_digest 400 = .ok (.aload_n 0, 1) := by decide +kernel
theorem dX11_digest_401 : decode cX11_digest 401 = .ok (.iconst 1, 1) := by decide +kernel
theorem dX11_digest_402 : decode cX11_digest 402 = .ok (.invokevirtual 263, 3) := by decide +kernel
theorem dX11_digest_405 : decode cX11_digest 405 = .ok (.i2l, 1) := by decide +kernel
theorem dX11_digest_406 : decode cX11_digest 406 = .ok (.ladd, 1) := by decide +kernel
theorem dX11_digest_407 : decode cX11_digest 407 = .ok (.lstore_n 1, 1) := by decide +kernel
theorem dX11_digest_408 : decode cX11_digest 408 = .ok (.ldc2_w 286, 3) := by decide +kernel
theorem dX11_digest_411 : decode cX11_digest 411 = .ok (.lload_n 1, 1) := by decide +kernel
theorem dX11_digest_412 : decode cX11_digest 412 = .ok (.lmul, 1) := by decide +kernel
theorem dX11_digest_413 : decode cX11_digest 413 = .ok (.aload_n 0, 1) := by decide +kernel
theorem dX11_digest_414 : decode cX11_digest 414 = .ok (.invokevirtual 266, 3) := by decide +kernel
theorem dX11_digest_417 : decode cX11_digest 417 = .ok (.i2l, 1) := by decide +kernel
theorem dX11_digest_418 : decode cX11_digest 418 = .ok (.ladd, 1) := by decide +kernel
theorem dX11_digest_419 : decode cX11_digest 419 = .ok (.lstore_n 1, 1) := by decide +kernel
theorem dX11_digest_420 : decode cX11_digest 420 = .ok (.ldc2_w 286, 3) := by decide +kernel
theorem dX11_digest_423 : decode cX11_digest 423 = .ok (.lload_n 1, 1) := by decide +kernel
theorem dX11_digest_424 : decode cX11_digest 424 = .ok (.lmul, 1) := by decide +kernel
theorem dX11_digest_425 : decode cX11_digest 425 = .ok (.aload_n 0, 1) := by decide +kernel
theorem dX11_digest_426 : decode cX11_digest 426 = .ok (.bipush 7, 2) := by decide +kernel
theorem dX11_digest_428 : decode cX11_digest 428 = .ok (.iconst 0, 1) := by decide +kernel
theorem dX11_digest_429 : decode cX11_digest 429 = .ok (.invokevirtual 270, 3) := by decide +kernel
theorem dX11_digest_432 : decode cX11_digest 432 = .ok (.i2l, 1) := by decide +kernel
theorem dX11_digest_433 : decode cX11_digest 433 = .ok (.ladd, 1) := by decide +kernel
theorem dX11_digest_434 : decode cX11_digest 434 = .ok (.lstore_n 1, 1) := by decide +kernel
theorem dX11_digest_435 : decode cX11_digest 435 = .ok (.ldc2_w 286, 3) := by decide +kernel
theorem dX11_digest_438 : decode cX11_digest 438 = .ok (.lload_n 1, 1) := by decide +kernel
theorem dX11_digest_439 : decode cX11_digest 439 = .ok (.lmul, 1) := by decide +kernel
theorem dX11_digest_440 : decode cX11_digest 440 = .ok (.aload_n 0, 1) := by decide +kernel
theorem dX11_digest_441 : decode cX11_digest 441 = .ok (.bipush 7, 2) := by decide +kernel
theorem dX11_digest_443 : decode cX11_digest 443 = .ok (.bipush 20, 2) := by decide +kernel
theorem dX11_digest_445 : decode cX11_digest 445 = .ok (.invokevirtual 270, 3) := by decide +kernel
theorem dX11_digest_448 : decode cX11_digest 448 = .ok (.i2l, 1) := by decide +kernel
theorem dX11_digest_449 : decode cX11_digest 449 = .ok (.ladd, 1) := by decide +kernel
theorem dX11_digest_450 : decode cX11_digest 450 = .ok (.lreturn, 1) := by decide +kernel
end
section
theorem dL_law_0 : decode cL_law 0 = .ok (.new 7, 3) := by decide +kernel
theorem dL_law_3 : decode cL_law 3 = .ok (.dup, 1) := by decide +kernel
theorem dL_law_4 : decode cL_law 4 = .ok (.invokespecial 9, 3) := by decide +kernel
theorem dL_law_7 : decode cL_law 7 = .ok (.astore_n 1, 1) := by decide +kernel
theorem dL_law_8 : decode cL_law 8 = .ok (.new 10, 3) := by decide +kernel
theorem dL_law_11 : decode cL_law 11 = .ok (.dup, 1) := by decide +kernel
theorem dL_law_12 : decode cL_law 12 = .ok (.invokespecial 12, 3) := by decide +kernel
theorem dL_law_15 : decode cL_law 15 = .ok (.astore_n 2, 1) := by decide +kernel
theorem dL_law_16 : decode cL_law 16 = .ok (.iconst 0, 1) := by decide +kernel
theorem dL_law_17 : decode cL_law 17 = .ok (.istore_n 3, 1) := by decide +kernel
theorem dL_law_18 : decode cL_law 18 = .ok (.iload_n 3, 1) := by decide +kernel
theorem dL_law_19 : decode cL_law 19 = .ok (.aload_n 0, 1) := by decide +kernel
theorem dL_law_20 : decode cL_law 20 = .ok (.arraylength, 1) := by decide +kernel
theorem dL_law_21 : decode cL_law 21 = .ok (.bipush 6, 2) := by decide +kernel
theorem dL_law_23 : decode cL_law 23 = .ok (.isub, 1) := by decide +kernel
theorem dL_law_24 : decode cL_law 24 = .ok (.if_icmp .gt 1317, 3) := by decide +kernel
theorem dL_law_27 : decode cL_law 27 = .ok (.aload_n 0, 1) := by decide +kernel
theorem dL_law_28 : decode cL_law 28 = .ok (.iload_n 3, 1) := by decide +kernel
theorem dL_law_29 : decode cL_law 29 = .ok (.iaload, 1) := by decide +kernel
theorem dL_law_30 : decode cL_law 30 = .ok (.bipush 63, 2) := by decide +kernel
theorem dL_law_32 : decode cL_law 32 = .ok (.iand, 1) := by decide +kernel
theorem dL_law_33 : decode cL_law 33 = .ok (.tableswitch 1302 0 39 #[175, 198, 211, 224, 237, 270, 313, 346, 369, 402, 435, 448, 492, 515, 549, 562, 606, 640, 663, 686, 709, 753, 787, 810, 843, 856, 879, 902, 925, 948, 971, 984, 1017, 1060, 1083, 1136, 1179, 1242, 1265, 1288], 175) := by decide +kernel
theorem dL_law_208 : decode cL_law 208 = .ok (.aload_n 1, 1) := by decide +kernel
theorem dL_law_209 : decode cL_law 209 = .ok (.aload_n 0, 1) := by decide +kernel
theorem dL_law_210 : decode cL_law 210 = .ok (.iload_n 3, 1) := by decide +kernel
theorem dL_law_211 : decode cL_law 211 = .ok (.iconst 1, 1) := by decide +kernel
theorem dL_law_212 : decode cL_law 212 = .ok (.iadd, 1) := by decide +kernel
theorem dL_law_213 : decode cL_law 213 = .ok (.iaload, 1) := by decide +kernel
theorem dL_law_214 : decode cL_law 214 = .ok (.invokevirtual 13, 3) := by decide +kernel
theorem dL_law_217 : decode cL_law 217 = .ok (.aload_n 2, 1) := by decide +kernel
theorem dL_law_218 : decode cL_law 218 = .ok (.aload_n 0, 1) := by decide +kernel
theorem dL_law_219 : decode cL_law 219 = .ok (.iload_n 3, 1) := by decide +kernel
theorem dL_law_220 : decode cL_law 220 = .ok (.iconst 1, 1) := by decide +kernel
theorem dL_law_221 : decode cL_law 221 = .ok (.iadd, 1) := by decide +kernel
theorem dL_law_222 : decode cL_law 222 = .ok (.iaload, 1) := by decide +kernel
theorem dL_law_223 : decode cL_law 223 = .ok (.invokevirtual 17, 3) := by decide +kernel
theorem dL_law_226 : decode cL_law 226 = .ok (.if_icmp .eq 1109, 3) := by decide +kernel
theorem dL_law_229 : decode cL_law 229 = .ok (.iconst 0, 1) := by decide +kernel
theorem dL_law_230 : decode cL_law 230 = .ok (.ireturn, 1) := by decide +kernel
theorem dL_law_231 : decode cL_law 231 = .ok (.aload_n 1, 1) := by decide +kernel
theorem dL_law_232 : decode cL_law 232 = .ok (.invokevirtual 18, 3) := by decide +kernel
theorem dL_law_235 : decode cL_law 235 = .ok (.aload_n 2, 1) := by decide +kernel
theorem dL_law_236 : decode cL_law 236 = .ok (.invokevirtual 22, 3) := by decide +kernel
theorem dL_law_239 : decode cL_law 239 = .ok (.if_icmp .eq 1096, 3) := by decide +kernel
theorem dL_law_242 : decode cL_law 242 = .ok (.iconst 0, 1) := by decide +kernel
theorem dL_law_243 : decode cL_law 243 = .ok (.ireturn, 1) := by decide +kernel
theorem dL_law_244 : decode cL_law 244 = .ok (.aload_n 1, 1) := by decide +kernel
theorem dL_law_245 : decode cL_law 245 = .ok (.invokevirtual 23, 3) := by decide +kernel
theorem dL_law_248 : decode cL_law 248 = .ok (.aload_n 2, 1) := by decide +kernel
theorem dL_law_249 : decode cL_law 249 = .ok (.invokevirtual 26, 3) := by decide +kernel
theorem dL_law_252 : decode cL_law 252 = .ok (.if_icmp .eq 1083, 3) := by decide +kernel
theorem dL_law_255 : decode cL_law 255 = .ok (.iconst 0, 1) := by decide +kernel
theorem dL_law_256 : decode cL_law 256 = .ok (.ireturn, 1) := by decide +kernel
theorem dL_law_257 : decode cL_law 257 = .ok (.aload_n 1, 1) := by decide +kernel
theorem dL_law_258 : decode cL_law 258 = .ok (.invokevirtual 27, 3) := by decide +kernel
theorem dL_law_261 : decode cL_law 261 = .ok (.aload_n 2, 1) := by decide +kernel
theorem dL_law_262 : decode cL_law 262 = .ok (.invokevirtual 30, 3) := by decide +kernel
theorem dL_law_265 : decode cL_law 265 = .ok (.if_icmp .eq 1070, 3) := by decide +kernel
theorem dL_law_268 : decode cL_law 268 = .ok (.iconst 0, 1) := by decide +kernel
theorem dL_law_269 : decode cL_law 269 = .ok (.ireturn, 1) := by decide +kernel
theorem dL_law_270 : decode cL_law 270 = .ok (.aload_n 1, 1) := by decide +kernel
theorem dL_law_271 : decode cL_law 271 = .ok (.aload_n 0, 1) := by decide +kernel
theorem dL_law_272 : decode cL_law 272 = .ok (.iload_n 3, 1) := by decide +kernel
theorem dL_law_273 : decode cL_law 273 = .ok (.iconst 1, 1) := by decide +kernel
theorem dL_law_274 : decode cL_law 274 = .ok (.iadd, 1) := by decide +kernel
theorem dL_law_275 : decode cL_law 275 = .ok (.iaload, 1) := by decide +kernel
theorem dL_law_276 : decode cL_law 276 = .ok (.aload_n 0, 1) := by decide +kernel
theorem dL_law_277 : decode cL_law 277 = .ok (.iload_n 3, 1) := by decide +kernel
theorem dL_law_278 : decode cL_law 278 = .ok (.iconst 2, 1) := by decide +kernel
theorem dL_law_279 : decode cL_law 279 = .ok (.iadd, 1) := by decide +kernel
theorem dL_law_280 : decode cL_law 280 = .ok (.iaload, 1) := by decide +kernel
theorem dL_law_281 : decode cL_law 281 = .ok (.invokevirtual 31, 3) := by decide +kernel
theorem dL_law_284 : decode cL_law 284 = .ok (.aload_n 2, 1) := by decide +kernel
theorem dL_law_285 : decode cL_law 285 = .ok (.aload_n 0, 1) := by decide +kernel
theorem dL_law_286 : decode cL_law 286 = .ok (.iload_n 3, 1) := by decide +kernel
theorem dL_law_287 : decode cL_law 287 = .ok (.iconst 1, 1) := by decide +kernel
theorem dL_law_288 : decode cL_law 288 = .ok (.iadd, 1) := by decide +kernel
theorem dL_law_289 : decode cL_law 289 = .ok (.iaload, 1) := by decide +kernel
theorem dL_law_290 : decode cL_law 290 = .ok (.aload_n 0, 1) := by decide +kernel
theorem dL_law_291 : decode cL_law 291 = .ok (.iload_n 3, 1) := by decide +kernel
theorem dL_law_292 : decode cL_law 292 = .ok (.iconst 2, 1) := by decide +kernel
theorem dL_law_293 : decode cL_law 293 = .ok (.iadd, 1) := by decide +kernel
theorem dL_law_294 : decode cL_law 294 = .ok (.iaload, 1) := by decide +kernel
theorem dL_law_295 : decode cL_law 295 = .ok (.invokevirtual 35, 3) := by decide +kernel
theorem dL_law_298 : decode cL_law 298 = .ok (.if_icmp .eq 1037, 3) := by decide +kernel
theorem dL_law_301 : decode cL_law 301 = .ok (.iconst 0, 1) := by decide +kernel
theorem dL_law_302 : decode cL_law 302 = .ok (.ireturn, 1) := by decide +kernel
theorem dL_law_303 : decode cL_law 303 = .ok (.aload_n 1, 1) := by decide +kernel
theorem dL_law_304 : decode cL_law 304 = .ok (.aload_n 0, 1) := by decide +kernel
theorem dL_law_305 : decode cL_law 305 = .ok (.iload_n 3, 1) := by decide +kernel
theorem dL_law_306 : decode cL_law 306 = .ok (.iconst 1, 1) := by decide +kernel
theorem dL_law_307 : decode cL_law 307 = .ok (.iadd, 1) := by decide +kernel
theorem dL_law_308 : decode cL_law 308 = .ok (.iaload, 1) := by decide +kernel
theorem dL_law_309 : decode cL_law 309 = .ok (.aload_n 0, 1) := by decide +kernel
theorem dL_law_310 : decode cL_law 310 = .ok (.iload_n 3, 1) := by decide +kernel
theorem dL_law_311 : decode cL_law 311 = .ok (.iconst 2, 1) := by decide +kernel
theorem dL_law_312 : decode cL_law 312 = .ok (.iadd, 1) := by decide +kernel
theorem dL_law_313 : decode cL_law 313 = .ok (.iaload, 1) := by decide +kernel
theorem dL_law_314 : decode cL_law 314 = .ok (.aload_n 0, 1) := by decide +kernel
theorem dL_law_315 : decode cL_law 315 = .ok (.iload_n 3, 1) := by decide +kernel
theorem dL_law_316 : decode cL_law 316 = .ok (.iconst 3, 1) := by decide +kernel
theorem dL_law_317 : decode cL_law 317 = .ok (.iadd, 1) := by decide +kernel
theorem dL_law_318 : decode cL_law 318 = .ok (.iaload, 1) := by decide +kernel
theorem dL_law_319 : decode cL_law 319 = .ok (.invokevirtual 36, 3) := by decide +kernel
theorem dL_law_322 : decode cL_law 322 = .ok (.aload_n 2, 1) := by decide +kernel
theorem dL_law_323 : decode cL_law 323 = .ok (.aload_n 0, 1) := by decide +kernel
theorem dL_law_324 : decode cL_law 324 = .ok (.iload_n 3, 1) := by decide +kernel
theorem dL_law_325 : decode cL_law 325 = .ok (.iconst 1, 1) := by decide +kernel
theorem dL_law_326 : decode cL_law 326 = .ok (.iadd, 1) := by decide +kernel
theorem dL_law_327 : decode cL_law 327 = .ok (.iaload, 1) := by decide +kernel
theorem dL_law_328 : decode cL_law 328 = .ok (.aload_n 0, 1) := by decide +kernel
theorem dL_law_329 : decode cL_law 329 = .ok (.iload_n 3, 1) := by decide +kernel
theorem dL_law_330 : decode cL_law 330 = .ok (.iconst 2, 1) := by decide +kernel
theorem dL_law_331 : decode cL_law 331 = .ok (.iadd, 1) := by decide +kernel
theorem dL_law_332 : decode cL_law 332 = .ok (.iaload, 1) := by decide +kernel
theorem dL_law_333 : decode cL_law 333 = .ok (.aload_n 0, 1) := by decide +kernel
theorem dL_law_334 : decode cL_law 334 = .ok (.iload_n 3, 1) := by decide +kernel
theorem dL_law_335 : decode cL_law 335 = .ok (.iconst 3, 1) := by decide +kernel
theorem dL_law_336 : decode cL_law 336 = .ok (.iadd, 1) := by decide +kernel
theorem dL_law_337 : decode cL_law 337 = .ok (.iaload, 1) := by decide +kernel
theorem dL_law_338 : decode cL_law 338 = .ok (.invokevirtual 40, 3) := by decide +kernel
theorem dL_law_341 : decode cL_law 341 = .ok (.if_icmp .eq 994, 3) := by decide +kernel
theorem dL_law_344 : decode cL_law 344 = .ok (.iconst 0, 1) := by decide +kernel
theorem dL_law_345 : decode cL_law 345 = .ok (.ireturn, 1) := by decide +kernel
theorem dL_law_346 : decode cL_law 346 = .ok (.aload_n 1, 1) := by decide +kernel
theorem dL_law_347 : decode cL_law 347 = .ok (.aload_n 0, 1) := by decide +kernel
theorem dL_law_348 : decode cL_law 348 = .ok (.iload_n 3, 1) := by decide +kernel
theorem dL_law_349 : decode cL_law 349 = .ok (.iconst 1, 1) := by decide +kernel
theorem dL_law_350 : decode cL_law 350 = .ok (.iadd, 1) := by decide +kernel
theorem dL_law_351 : decode cL_law 351 = .ok (.iaload, 1) := by decide +kernel
theorem dL_law_352 : decode cL_law 352 = .ok (.aload_n 0, 1) := by decide +kernel
theorem dL_law_353 : decode cL_law 353 = .ok (.iload_n 3, 1) := by decide +kernel
theorem dL_law_354 : decode cL_law 354 = .ok (.iconst 2, 1) := by decide +kernel
theorem dL_law_355 : decode cL_law 355 = .ok (.iadd, 1) := by decide +kernel
theorem dL_law_356 : decode cL_law 356 = .ok (.iaload, 1) := by decide +kernel
theorem dL_law_357 : decode cL_law 357 = .ok (.invokevirtual 41, 3) := by decide +kernel
theorem dL_law_360 : decode cL_law 360 = .ok (.aload_n 2, 1) := by decide +kernel
theorem dL_law_361 : decode cL_law 361 = .ok (.aload_n 0, 1) := by decide +kernel
theorem dL_law_362 : decode cL_law 362 = .ok (.iload_n 3, 1) := by decide +kernel
theorem dL_law_363 : decode cL_law 363 = .ok (.iconst 1, 1) := by decide +kernel
theorem dL_law_364 : decode cL_law 364 = .ok (.iadd, 1) := by decide +kernel
theorem dL_law_365 : decode cL_law 365 = .ok (.iaload, 1) := by decide +kernel
theorem dL_law_366 : decode cL_law 366 = .ok (.aload_n 0, 1) := by decide +kernel
theorem dL_law_367 : decode cL_law 367 = .ok (.iload_n 3, 1) := by decide +kernel
theorem dL_law_368 : decode cL_law 368 = .ok (.iconst 2, 1) := by decide +kernel
theorem dL_law_369 : decode cL_law 369 = .ok (.iadd, 1) := by decide +kernel
theorem dL_law_370 : decode cL_law 370 = .ok (.iaload, 1) := by decide +kernel
theorem dL_law_371 : decode cL_law 371 = .ok (.invokevirtual 44, 3) := by decide +kernel
theorem dL_law_374 : decode cL_law 374 = .ok (.if_icmp .eq 961, 3) := by decide +kernel
theorem dL_law_377 : decode cL_law 377 = .ok (.iconst 0, 1) := by decide +kernel
theorem dL_law_378 : decode cL_law 378 = .ok (.ireturn, 1) := by decide +kernel
theorem dL_law_379 : decode cL_law 379 = .ok (.aload_n 1, 1) := by decide +kernel
theorem dL_law_380 : decode cL_law 380 = .ok (.aload_n 0, 1) := by decide +kernel
theorem dL_law_381 : decode cL_law 381 = .ok (.iload_n 3, 1) := by decide +kernel
theorem dL_law_382 : decode cL_law 382 = .ok (.iconst 1, 1) := by decide +kernel
theorem dL_law_383 : decode cL_law 383 = .ok (.iadd, 1) := by decide +kernel
theorem dL_law_384 : decode cL_law 384 = .ok (.iaload, 1) := by decide +kernel
theorem dL_law_385 : decode cL_law 385 = .ok (.invokevirtual 45, 3) := by decide +kernel
theorem dL_law_388 : decode cL_law 388 = .ok (.aload_n 2, 1) := by decide +kernel
theorem dL_law_389 : decode cL_law 389 = .ok (.aload_n 0, 1) := by decide +kernel
theorem dL_law_390 : decode cL_law 390 = .ok (.iload_n 3, 1) := by decide +kernel
theorem dL_law_391 : decode cL_law 391 = .ok (.iconst 1, 1) := by decide +kernel
theorem dL_law_392 : decode cL_law 392 = .ok (.iadd, 1) := by decide +kernel
theorem dL_law_393 : decode cL_law 393 = .ok (.iaload, 1) := by decide +kernel
theorem dL_law_394 : decode cL_law 394 = .ok (.invokevirtual 48, 3) := by decide +kernel
theorem dL_law_397 : decode cL_law 397 = .ok (.if_icmp .eq 938, 3) := by decide +kernel
theorem dL_law_400 : decode cL_law 400 = .ok (.iconst 0, 1) := by decide +kernel
theorem dL_law_401 : decode cL_law 401 = .ok (.ireturn, 1) := by decide +kernel
theorem dL_law_402 : decode cL_law 402 = .ok (.aload_n 1, 1) := by decide +kernel
theorem dL_law_403 : decode cL_law 403 = .ok (.aload_n 0, 1) := by decide +kernel
theorem dL_law_404 : decode cL_law 404 = .ok (.iload_n 3, 1) := by decide +kernel
theorem dL_law_405 : decode cL_law 405 = .ok (.iconst 1, 1) := by decide +kernel
theorem dL_law_406 : decode cL_law 406 = .ok (.iadd, 1) := by decide +kernel
theorem dL_law_407 : decode cL_law 407 = .ok (.iaload, 1) := by decide +kernel
theorem dL_law_408 : decode cL_law 408 = .ok (.aload_n 0, 1) := by decide +kernel
theorem dL_law_409 : decode cL_law 409 = .ok (.iload_n 3, 1) := by decide +kernel
theorem dL_law_410 : decode cL_law 410 = .ok (.iconst 2, 1) := by decide +kernel
theorem dL_law_411 : decode cL_law 411 = .ok (.iadd, 1) := by decide +kernel
theorem dL_law_412 : decode cL_law 412 = .ok (.iaload, 1) := by decide +kernel
theorem dL_law_413 : decode cL_law 413 = .ok (.invokevirtual 49, 3) := by decide +kernel
theorem dL_law_416 : decode cL_law 416 = .ok (.aload_n 2, 1) := by decide +kernel
theorem dL_law_417 : decode cL_law 417 = .ok (.aload_n 0, 1) := by decide +kernel
theorem dL_law_418 : decode cL_law 418 = .ok (.iload_n 3, 1) := by decide +kernel
theorem dL_law_419 : decode cL_law 419 = .ok (.iconst 1, 1) := by decide +kernel
theorem dL_law_420 : decode cL_law 420 = .ok (.iadd, 1) := by decide +kernel
theorem dL_law_421 : decode cL_law 421 = .ok (.iaload, 1) := by decide +kernel
theorem dL_law_422 : decode cL_law 422 = .ok (.aload_n 0, 1) := by decide +kernel
theorem dL_law_423 : decode cL_law 423 = .ok (.iload_n 3, 1) := by decide +kernel
theorem dL_law_424 : decode cL_law 424 = .ok (.iconst 2, 1) := by decide +kernel
theorem dL_law_425 : decode cL_law 425 = .ok (.iadd, 1) := by decide +kernel
theorem dL_law_426 : decode cL_law 426 = .ok (.iaload, 1) := by decide +kernel
theorem dL_law_427 : decode cL_law 427 = .ok (.invokevirtual 52, 3) := by decide +kernel
theorem dL_law_430 : decode cL_law 430 = .ok (.if_icmp .eq 905, 3) := by decide +kernel
theorem dL_law_433 : decode cL_law 433 = .ok (.iconst 0, 1) := by decide +kernel
theorem dL_law_434 : decode cL_law 434 = .ok (.ireturn, 1) := by decide +kernel
theorem dL_law_435 : decode cL_law 435 = .ok (.aload_n 1, 1) := by decide +kernel
theorem dL_law_436 : decode cL_law 436 = .ok (.aload_n 0, 1) := by decide +kernel
theorem dL_law_437 : decode cL_law 437 = .ok (.iload_n 3, 1) := by decide +kernel
theorem dL_law_438 : decode cL_law 438 = .ok (.iconst 1, 1) := by decide +kernel
theorem dL_law_439 : decode cL_law 439 = .ok (.iadd, 1) := by decide +kernel
theorem dL_law_440 : decode cL_law 440 = .ok (.iaload, 1) := by decide +kernel
theorem dL_law_441 : decode cL_law 441 = .ok (.aload_n 0, 1) := by decide +kernel
theorem dL_law_442 : decode cL_law 442 = .ok (.iload_n 3, 1) := by decide +kernel
theorem dL_law_443 : decode cL_law 443 = .ok (.iconst 2, 1) := by decide +kernel
theorem dL_law_444 : decode cL_law 444 = .ok (.iadd, 1) := by decide +kernel
theorem dL_law_445 : decode cL_law 445 = .ok (.iaload, 1) := by decide +kernel
theorem dL_law_446 : decode cL_law 446 = .ok (.invokevirtual 53, 3) := by decide +kernel
theorem dL_law_449 : decode cL_law 449 = .ok (.aload_n 2, 1) := by decide +kernel
theorem dL_law_450 : decode cL_law 450 = .ok (.aload_n 0, 1) := by decide +kernel
theorem dL_law_451 : decode cL_law 451 = .ok (.iload_n 3, 1) := by decide +kernel
theorem dL_law_452 : decode cL_law 452 = .ok (.iconst 1, 1) := by decide +kernel
theorem dL_law_453 : decode cL_law 453 = .ok (.iadd, 1) := by decide +kernel
theorem dL_law_454 : decode cL_law 454 = .ok (.iaload, 1) := by decide +kernel
theorem dL_law_455 : decode cL_law 455 = .ok (.aload_n 0, 1) := by decide +kernel
theorem dL_law_456 : decode cL_law 456 = .ok (.iload_n 3, 1) := by decide +kernel
theorem dL_law_457 : decode cL_law 457 = .ok (.iconst 2, 1) := by decide +kernel
theorem dL_law_458 : decode cL_law 458 = .ok (.iadd, 1) := by decide +kernel
theorem dL_law_459 : decode cL_law 459 = .ok (.iaload, 1) := by decide +kernel
theorem dL_law_460 : decode cL_law 460 = .ok (.invokevirtual 56, 3) := by decide +kernel
theorem dL_law_463 : decode cL_law 463 = .ok (.if_icmp .eq 872, 3) := by decide +kernel
theorem dL_law_466 : decode cL_law 466 = .ok (.iconst 0, 1) := by decide +kernel
theorem dL_law_467 : decode cL_law 467 = .ok (.ireturn, 1) := by decide +kernel
theorem dL_law_468 : decode cL_law 468 = .ok (.aload_n 1, 1) := by decide +kernel
theorem dL_law_469 : decode cL_law 469 = .ok (.invokevirtual 57, 3) := by decide +kernel
theorem dL_law_472 : decode cL_law 472 = .ok (.aload_n 2, 1) := by decide +kernel
theorem dL_law_473 : decode cL_law 473 = .ok (.invokevirtual 60, 3) := by decide +kernel
theorem dL_law_476 : decode cL_law 476 = .ok (.if_icmp .eq 859, 3) := by decide +kernel
theorem dL_law_479 : decode cL_law 479 = .ok (.iconst 0, 1) := by decide +kernel
theorem dL_law_480 : decode cL_law 480 = .ok (.ireturn, 1) := by decide +kernel
theorem dL_law_481 : decode cL_law 481 = .ok (.aload_n 1, 1) := by decide +kernel
theorem dL_law_482 : decode cL_law 482 = .ok (.aload_n 0, 1) := by decide +kernel
theorem dL_law_483 : decode cL_law 483 = .ok (.iload_n 3, 1) := by decide +kernel
theorem dL_law_484 : decode cL_law 484 = .ok (.iconst 1, 1) := by decide +kernel
theorem dL_law_485 : decode cL_law 485 = .ok (.iadd, 1) := by decide +kernel
theorem dL_law_486 : decode cL_law 486 = .ok (.iaload, 1) := by decide +kernel
theorem dL_law_487 : decode cL_law 487 = .ok (.aload_n 0, 1) := by decide +kernel
theorem dL_law_488 : decode cL_law 488 = .ok (.iload_n 3, 1) := by decide +kernel
theorem dL_law_489 : decode cL_law 489 = .ok (.iconst 2, 1) := by decide +kernel
theorem dL_law_490 : decode cL_law 490 = .ok (.iadd, 1) := by decide +kernel
theorem dL_law_491 : decode cL_law 491 = .ok (.iaload, 1) := by decide +kernel
theorem dL_law_492 : decode cL_law 492 = .ok (.aload_n 0, 1) := by decide +kernel
theorem dL_law_493 : decode cL_law 493 = .ok (.iload_n 3, 1) := by decide +kernel
theorem dL_law_494 : decode cL_law 494 = .ok (.iconst 3, 1) := by decide +kernel
theorem dL_law_495 : decode cL_law 495 = .ok (.iadd, 1) := by decide +kernel
theorem dL_law_496 : decode cL_law 496 = .ok (.iaload, 1) := by decide +kernel
theorem dL_law_497 : decode cL_law 497 = .ok (.invokevirtual 61, 3) := by decide +kernel
theorem dL_law_500 : decode cL_law 500 = .ok (.aload_n 2, 1) := by decide +kernel
theorem dL_law_501 : decode cL_law 501 = .ok (.aload_n 0, 1) := by decide +kernel
theorem dL_law_502 : decode cL_law 502 = .ok (.iload_n 3, 1) := by decide +kernel
theorem dL_law_503 : decode cL_law 503 = .ok (.iconst 1, 1) := by decide +kernel
theorem dL_law_504 : decode cL_law 504 = .ok (.iadd, 1) := by decide +kernel
theorem dL_law_505 : decode cL_law 505 = .ok (.iaload, 1) := by decide +kernel
theorem dL_law_506 : decode cL_law 506 = .ok (.aload_n 0, 1) := by decide +kernel
theorem dL_law_507 : decode cL_law 507 = .ok (.iload_n 3, 1) := by decide +kernel
theorem dL_law_508 : decode cL_law 508 = .ok (.iconst 2, 1) := by decide +kernel
theorem dL_law_509 : decode cL_law 509 = .ok (.iadd, 1) := by decide +kernel
theorem dL_law_510 : decode cL_law 510 = .ok (.iaload, 1) := by decide +kernel
theorem dL_law_511 : decode cL_law 511 = .ok (.aload_n 0, 1) := by decide +kernel
theorem dL_law_512 : decode cL_law 512 = .ok (.iload_n 3, 1) := by decide +kernel
theorem dL_law_513 : decode cL_law 513 = .ok (.iconst 3, 1) := by decide +kernel
theorem dL_law_514 : decode cL_law 514 = .ok (.iadd, 1) := by decide +kernel
theorem dL_law_515 : decode cL_law 515 = .ok (.iaload, 1) := by decide +kernel
theorem dL_law_516 : decode cL_law 516 = .ok (.invokevirtual 65, 3) := by decide +kernel
theorem dL_law_519 : decode cL_law 519 = .ok (.lcmp, 1) := by decide +kernel
theorem dL_law_520 : decode cL_law 520 = .ok (.ifCond .eq 815, 3) := by decide +kernel
theorem dL_law_523 : decode cL_law 523 = .ok (.iconst 0, 1) := by decide +kernel
theorem dL_law_524 : decode cL_law 524 = .ok (.ireturn, 1) := by decide +kernel
theorem dL_law_525 : decode cL_law 525 = .ok (.aload_n 1, 1) := by decide +kernel
theorem dL_law_526 : decode cL_law 526 = .ok (.aload_n 0, 1) := by decide +kernel
theorem dL_law_527 : decode cL_law 527 = .ok (.iload_n 3, 1) := by decide +kernel
theorem dL_law_528 : decode cL_law 528 = .ok (.iconst 1, 1) := by decide +kernel
theorem dL_law_529 : decode cL_law 529 = .ok (.iadd, 1) := by decide +kernel
theorem dL_law_530 : decode cL_law 530 = .ok (.iaload, 1) := by decide +kernel
theorem dL_law_531 : decode cL_law 531 = .ok (.invokevirtual 66, 3) := by decide +kernel
theorem dL_law_534 : decode cL_law 534 = .ok (.aload_n 2, 1) := by decide +kernel
theorem dL_law_535 : decode cL_law 535 = .ok (.aload_n 0, 1) := by decide +kernel
theorem dL_law_536 : decode cL_law 536 = .ok (.iload_n 3, 1) := by decide +kernel
theorem dL_law_537 : decode cL_law 537 = .ok (.iconst 1, 1) := by decide +kernel
theorem dL_law_538 : decode cL_law 538 = .ok (.iadd, 1) := by decide +kernel
theorem dL_law_539 : decode cL_law 539 = .ok (.iaload, 1) := by decide +kernel
theorem dL_law_540 : decode cL_law 540 = .ok (.invokevirtual 69, 3) := by decide +kernel
theorem dL_law_543 : decode cL_law 543 = .ok (.if_icmp .eq 792, 3) := by decide +kernel
theorem dL_law_546 : decode cL_law 546 = .ok (.iconst 0, 1) := by decide +kernel
theorem dL_law_547 : decode cL_law 547 = .ok (.ireturn, 1) := by decide +kernel
theorem dL_law_548 : decode cL_law 548 = .ok (.aload_n 1, 1) := by decide +kernel
theorem dL_law_549 : decode cL_law 549 = .ok (.aload_n 0, 1) := by decide +kernel
theorem dL_law_550 : decode cL_law 550 = .ok (.iload_n 3, 1) := by decide +kernel
theorem dL_law_551 : decode cL_law 551 = .ok (.iconst 1, 1) := by decide +kernel
theorem dL_law_552 : decode cL_law 552 = .ok (.iadd, 1) := by decide +kernel
theorem dL_law_553 : decode cL_law 553 = .ok (.iaload, 1) := by decide +kernel
theorem dL_law_554 : decode cL_law 554 = .ok (.aload_n 0, 1) := by decide +kernel
theorem dL_law_555 : decode cL_law 555 = .ok (.iload_n 3, 1) := by decide +kernel
theorem dL_law_556 : decode cL_law 556 = .ok (.iconst 2, 1) := by decide +kernel
theorem dL_law_557 : decode cL_law 557 = .ok (.iadd, 1) := by decide +kernel
theorem dL_law_558 : decode cL_law 558 = .ok (.iaload, 1) := by decide +kernel
theorem dL_law_559 : decode cL_law 559 = .ok (.invokevirtual 70, 3) := by decide +kernel
theorem dL_law_562 : decode cL_law 562 = .ok (.aload_n 2, 1) := by decide +kernel
theorem dL_law_563 : decode cL_law 563 = .ok (.aload_n 0, 1) := by decide +kernel
theorem dL_law_564 : decode cL_law 564 = .ok (.iload_n 3, 1) := by decide +kernel
theorem dL_law_565 : decode cL_law 565 = .ok (.iconst 1, 1) := by decide +kernel
theorem dL_law_566 : decode cL_law 566 = .ok (.iadd, 1) := by decide +kernel
theorem dL_law_567 : decode cL_law 567 = .ok (.iaload, 1) := by decide +kernel
theorem dL_law_568 : decode cL_law 568 = .ok (.aload_n 0, 1) := by decide +kernel
theorem dL_law_569 : decode cL_law 569 = .ok (.iload_n 3, 1) := by decide +kernel
theorem dL_law_570 : decode cL_law 570 = .ok (.iconst 2, 1) := by decide +kernel
theorem dL_law_571 : decode cL_law 571 = .ok (.iadd, 1) := by decide +kernel
theorem dL_law_572 : decode cL_law 572 = .ok (.iaload, 1) := by decide +kernel
theorem dL_law_573 : decode cL_law 573 = .ok (.invokevirtual 74, 3) := by decide +kernel
theorem dL_law_576 : decode cL_law 576 = .ok (.lcmp, 1) := by decide +kernel
theorem dL_law_577 : decode cL_law 577 = .ok (.ifCond .eq 758, 3) := by decide +kernel
theorem dL_law_580 : decode cL_law 580 = .ok (.iconst 0, 1) := by decide +kernel
theorem dL_law_581 : decode cL_law 581 = .ok (.ireturn, 1) := by decide +kernel
theorem dL_law_582 : decode cL_law 582 = .ok (.aload_n 1, 1) := by decide +kernel
theorem dL_law_583 : decode cL_law 583 = .ok (.invokevirtual 75, 3) := by decide +kernel
theorem dL_law_586 : decode cL_law 586 = .ok (.aload_n 2, 1) := by decide +kernel
theorem dL_law_587 : decode cL_law 587 = .ok (.invokevirtual 78, 3) := by decide +kernel
theorem dL_law_590 : decode cL_law 590 = .ok (.if_icmp .eq 745, 3) := by decide +kernel
theorem dL_law_593 : decode cL_law 593 = .ok (.iconst 0, 1) := by decide +kernel
theorem dL_law_594 : decode cL_law 594 = .ok (.ireturn, 1) := by decide +kernel
theorem dL_law_595 : decode cL_law 595 = .ok (.aload_n 1, 1) := by decide +kernel
theorem dL_law_596 : decode cL_law 596 = .ok (.aload_n 0, 1) := by decide +kernel
theorem dL_law_597 : decode cL_law 597 = .ok (.iload_n 3, 1) := by decide +kernel
theorem dL_law_598 : decode cL_law 598 = .ok (.iconst 1, 1) := by decide +kernel
theorem dL_law_599 : decode cL_law 599 = .ok (.iadd, 1) := by decide +kernel
theorem dL_law_600 : decode cL_law 600 = .ok (.iaload, 1) := by decide +kernel
theorem dL_law_601 : decode cL_law 601 = .ok (.aload_n 0, 1) := by decide +kernel
theorem dL_law_602 : decode cL_law 602 = .ok (.iload_n 3, 1) := by decide +kernel
theorem dL_law_603 : decode cL_law 603 = .ok (.iconst 2, 1) := by decide +kernel
theorem dL_law_604 : decode cL_law 604 = .ok (.iadd, 1) := by decide +kernel
theorem dL_law_605 : decode cL_law 605 = .ok (.iaload, 1) := by decide +kernel
theorem dL_law_606 : decode cL_law 606 = .ok (.aload_n 0, 1) := by decide +kernel
theorem dL_law_607 : decode cL_law 607 = .ok (.iload_n 3, 1) := by decide +kernel
theorem dL_law_608 : decode cL_law 608 = .ok (.iconst 3, 1) := by decide +kernel
theorem dL_law_609 : decode cL_law 609 = .ok (.iadd, 1) := by decide +kernel
theorem dL_law_610 : decode cL_law 610 = .ok (.iaload, 1) := by decide +kernel
theorem dL_law_611 : decode cL_law 611 = .ok (.invokevirtual 79, 3) := by decide +kernel
theorem dL_law_614 : decode cL_law 614 = .ok (.aload_n 2, 1) := by decide +kernel
theorem dL_law_615 : decode cL_law 615 = .ok (.aload_n 0, 1) := by decide +kernel
theorem dL_law_616 : decode cL_law 616 = .ok (.iload_n 3, 1) := by decide +kernel
theorem dL_law_617 : decode cL_law 617 = .ok (.iconst 1, 1) := by decide +kernel
theorem dL_law_618 : decode cL_law 618 = .ok (.iadd, 1) := by decide +kernel
theorem dL_law_619 : decode cL_law 619 = .ok (.iaload, 1) := by decide +kernel
theorem dL_law_620 : decode cL_law 620 = .ok (.aload_n 0, 1) := by decide +kernel
theorem dL_law_621 : decode cL_law 621 = .ok (.iload_n 3, 1) := by decide +kernel
theorem dL_law_622 : decode cL_law 622 = .ok (.iconst 2, 1) := by decide +kernel
theorem dL_law_623 : decode cL_law 623 = .ok (.iadd, 1) := by decide +kernel
theorem dL_law_624 : decode cL_law 624 = .ok (.iaload, 1) := by decide +kernel
theorem dL_law_625 : decode cL_law 625 = .ok (.aload_n 0, 1) := by decide +kernel
theorem dL_law_626 : decode cL_law 626 = .ok (.iload_n 3, 1) := by decide +kernel
theorem dL_law_627 : decode cL_law 627 = .ok (.iconst 3, 1) := by decide +kernel
theorem dL_law_628 : decode cL_law 628 = .ok (.iadd, 1) := by decide +kernel
theorem dL_law_629 : decode cL_law 629 = .ok (.iaload, 1) := by decide +kernel
theorem dL_law_630 : decode cL_law 630 = .ok (.invokevirtual 82, 3) := by decide +kernel
theorem dL_law_633 : decode cL_law 633 = .ok (.lcmp, 1) := by decide +kernel
theorem dL_law_634 : decode cL_law 634 = .ok (.ifCond .eq 701, 3) := by decide +kernel
theorem dL_law_637 : decode cL_law 637 = .ok (.iconst 0, 1) := by decide +kernel
theorem dL_law_638 : decode cL_law 638 = .ok (.ireturn, 1) := by decide +kernel
theorem dL_law_639 : decode cL_law 639 = .ok (.aload_n 1, 1) := by decide +kernel
theorem dL_law_640 : decode cL_law 640 = .ok (.aload_n 0, 1) := by decide +kernel
theorem dL_law_641 : decode cL_law 641 = .ok (.iload_n 3, 1) := by decide +kernel
theorem dL_law_642 : decode cL_law 642 = .ok (.iconst 1, 1) := by decide +kernel
theorem dL_law_643 : decode cL_law 643 = .ok (.iadd, 1) := by decide +kernel
theorem dL_law_644 : decode cL_law 644 = .ok (.iaload, 1) := by decide +kernel
theorem dL_law_645 : decode cL_law 645 = .ok (.aload_n 0, 1) := by decide +kernel
theorem dL_law_646 : decode cL_law 646 = .ok (.iload_n 3, 1) := by decide +kernel
theorem dL_law_647 : decode cL_law 647 = .ok (.iconst 2, 1) := by decide +kernel
theorem dL_law_648 : decode cL_law 648 = .ok (.iadd, 1) := by decide +kernel
theorem dL_law_649 : decode cL_law 649 = .ok (.iaload, 1) := by decide +kernel
theorem dL_law_650 : decode cL_law 650 = .ok (.invokevirtual 83, 3) := by decide +kernel
theorem dL_law_653 : decode cL_law 653 = .ok (.aload_n 2, 1) := by decide +kernel
theorem dL_law_654 : decode cL_law 654 = .ok (.aload_n 0, 1) := by decide +kernel
theorem dL_law_655 : decode cL_law 655 = .ok (.iload_n 3, 1) := by decide +kernel
theorem dL_law_656 : decode cL_law 656 = .ok (.iconst 1, 1) := by decide +kernel
theorem dL_law_657 : decode cL_law 657 = .ok (.iadd, 1) := by decide +kernel
theorem dL_law_658 : decode cL_law 658 = .ok (.iaload, 1) := by decide +kernel
theorem dL_law_659 : decode cL_law 659 = .ok (.aload_n 0, 1) := by decide +kernel
theorem dL_law_660 : decode cL_law 660 = .ok (.iload_n 3, 1) := by decide +kernel
theorem dL_law_661 : decode cL_law 661 = .ok (.iconst 2, 1) := by decide +kernel
theorem dL_law_662 : decode cL_law 662 = .ok (.iadd, 1) := by decide +kernel
theorem dL_law_663 : decode cL_law 663 = .ok (.iaload, 1) := by decide +kernel
theorem dL_law_664 : decode cL_law 664 = .ok (.invokevirtual 86, 3) := by decide +kernel
theorem dL_law_667 : decode cL_law 667 = .ok (.lcmp, 1) := by decide +kernel
theorem dL_law_668 : decode cL_law 668 = .ok (.ifCond .eq 667, 3) := by decide +kernel
theorem dL_law_671 : decode cL_law 671 = .ok (.iconst 0, 1) := by decide +kernel
theorem dL_law_672 : decode cL_law 672 = .ok (.ireturn, 1) := by decide +kernel
theorem dL_law_673 : decode cL_law 673 = .ok (.aload_n 1, 1) := by decide +kernel
theorem dL_law_674 : decode cL_law 674 = .ok (.aload_n 0, 1) := by decide +kernel
theorem dL_law_675 : decode cL_law 675 = .ok (.iload_n 3, 1) := by decide +kernel
theorem dL_law_676 : decode cL_law 676 = .ok (.iconst 1, 1) := by decide +kernel
theorem dL_law_677 : decode cL_law 677 = .ok (.iadd, 1) := by decide +kernel
theorem dL_law_678 : decode cL_law 678 = .ok (.iaload, 1) := by decide +kernel
theorem dL_law_679 : decode cL_law 679 = .ok (.invokevirtual 87, 3) := by decide +kernel
theorem dL_law_682 : decode cL_law 682 = .ok (.aload_n 2, 1) := by decide +kernel
theorem dL_law_683 : decode cL_law 683 = .ok (.aload_n 0, 1) := by decide +kernel
theorem dL_law_684 : decode cL_law 684 = .ok (.iload_n 3, 1) := by decide +kernel
theorem dL_law_685 : decode cL_law 685 = .ok (.iconst 1, 1) := by decide +kernel
theorem dL_law_686 : decode cL_law 686 = .ok (.iadd, 1) := by decide +kernel
theorem dL_law_687 : decode cL_law 687 = .ok (.iaload, 1) := by decide +kernel
theorem dL_law_688 : decode cL_law 688 = .ok (.invokevirtual 90, 3) := by decide +kernel
theorem dL_law_691 : decode cL_law 691 = .ok (.if_icmp .eq 644, 3) := by decide +kernel
theorem dL_law_694 : decode cL_law 694 = .ok (.iconst 0, 1) := by decide +kernel
theorem dL_law_695 : decode cL_law 695 = .ok (.ireturn, 1) := by decide +kernel
theorem dL_law_696 : decode cL_law 696 = .ok (.aload_n 1, 1) := by decide +kernel
theorem dL_law_697 : decode cL_law 697 = .ok (.aload_n 0, 1) := by decide +kernel
theorem dL_law_698 : decode cL_law 698 = .ok (.iload_n 3, 1) := by decide +kernel
theorem dL_law_699 : decode cL_law 699 = .ok (.iconst 1, 1) := by decide +kernel
theorem dL_law_700 : decode cL_law 700 = .ok (.iadd, 1) := by decide +kernel
theorem dL_law_701 : decode cL_law 701 = .ok (.iaload, 1) := by decide +kernel
theorem dL_law_702 : decode cL_law 702 = .ok (.invokevirtual 91, 3) := by decide +kernel
theorem dL_law_705 : decode cL_law 705 = .ok (.aload_n 2, 1) := by decide +kernel
theorem dL_law_706 : decode cL_law 706 = .ok (.aload_n 0, 1) := by decide +kernel
theorem dL_law_707 : decode cL_law 707 = .ok (.iload_n 3, 1) := by decide +kernel
theorem dL_law_708 : decode cL_law 708 = .ok (.iconst 1, 1) := by decide +kernel
theorem dL_law_709 : decode cL_law 709 = .ok (.iadd, 1) := by decide +kernel
theorem dL_law_710 : decode cL_law 710 = .ok (.iaload, 1) := by decide +kernel
theorem dL_law_711 : decode cL_law 711 = .ok (.invokevirtual 94, 3) := by decide +kernel
theorem dL_law_714 : decode cL_law 714 = .ok (.if_icmp .eq 621, 3) := by decide +kernel
theorem dL_law_717 : decode cL_law 717 = .ok (.iconst 0, 1) := by decide +kernel
theorem dL_law_718 : decode cL_law 718 = .ok (.ireturn, 1) := by decide +kernel
theorem dL_law_719 : decode cL_law 719 = .ok (.aload_n 1, 1) := by decide +kernel
theorem dL_law_720 : decode cL_law 720 = .ok (.aload_n 0, 1) := by decide +kernel
theorem dL_law_721 : decode cL_law 721 = .ok (.iload_n 3, 1) := by decide +kernel
theorem dL_law_722 : decode cL_law 722 = .ok (.iconst 1, 1) := by decide +kernel
theorem dL_law_723 : decode cL_law 723 = .ok (.iadd, 1) := by decide +kernel
theorem dL_law_724 : decode cL_law 724 = .ok (.iaload, 1) := by decide +kernel
theorem dL_law_725 : decode cL_law 725 = .ok (.invokevirtual 95, 3) := by decide +kernel
theorem dL_law_728 : decode cL_law 728 = .ok (.aload_n 2, 1) := by decide +kernel
theorem dL_law_729 : decode cL_law 729 = .ok (.aload_n 0, 1) := by decide +kernel
theorem dL_law_730 : decode cL_law 730 = .ok (.iload_n 3, 1) := by decide +kernel
theorem dL_law_731 : decode cL_law 731 = .ok (.iconst 1, 1) := by decide +kernel
theorem dL_law_732 : decode cL_law 732 = .ok (.iadd, 1) := by decide +kernel
theorem dL_law_733 : decode cL_law 733 = .ok (.iaload, 1) := by decide +kernel
theorem dL_law_734 : decode cL_law 734 = .ok (.invokevirtual 98, 3) := by decide +kernel
theorem dL_law_737 : decode cL_law 737 = .ok (.if_icmp .eq 598, 3) := by decide +kernel
theorem dL_law_740 : decode cL_law 740 = .ok (.iconst 0, 1) := by decide +kernel
theorem dL_law_741 : decode cL_law 741 = .ok (.ireturn, 1) := by decide +kernel
theorem dL_law_742 : decode cL_law 742 = .ok (.aload_n 1, 1) := by decide +kernel
theorem dL_law_743 : decode cL_law 743 = .ok (.aload_n 0, 1) := by decide +kernel
theorem dL_law_744 : decode cL_law 744 = .ok (.iload_n 3, 1) := by decide +kernel
theorem dL_law_745 : decode cL_law 745 = .ok (.iconst 1, 1) := by decide +kernel
theorem dL_law_746 : decode cL_law 746 = .ok (.iadd, 1) := by decide +kernel
theorem dL_law_747 : decode cL_law 747 = .ok (.iaload, 1) := by decide +kernel
theorem dL_law_748 : decode cL_law 748 = .ok (.aload_n 0, 1) := by decide +kernel
theorem dL_law_749 : decode cL_law 749 = .ok (.iload_n 3, 1) := by decide +kernel
theorem dL_law_750 : decode cL_law 750 = .ok (.iconst 2, 1) := by decide +kernel
theorem dL_law_751 : decode cL_law 751 = .ok (.iadd, 1) := by decide +kernel
theorem dL_law_752 : decode cL_law 752 = .ok (.iaload, 1) := by decide +kernel
theorem dL_law_753 : decode cL_law 753 = .ok (.aload_n 0, 1) := by decide +kernel
theorem dL_law_754 : decode cL_law 754 = .ok (.iload_n 3, 1) := by decide +kernel
theorem dL_law_755 : decode cL_law 755 = .ok (.iconst 3, 1) := by decide +kernel
theorem dL_law_756 : decode cL_law 756 = .ok (.iadd, 1) := by decide +kernel
theorem dL_law_757 : decode cL_law 757 = .ok (.iaload, 1) := by decide +kernel
theorem dL_law_758 : decode cL_law 758 = .ok (.invokevirtual 99, 3) := by decide +kernel
theorem dL_law_761 : decode cL_law 761 = .ok (.aload_n 2, 1) := by decide +kernel
theorem dL_law_762 : decode cL_law 762 = .ok (.aload_n 0, 1) := by decide +kernel
theorem dL_law_763 : decode cL_law 763 = .ok (.iload_n 3, 1) := by decide +kernel
theorem dL_law_764 : decode cL_law 764 = .ok (.iconst 1, 1) := by decide +kernel
theorem dL_law_765 : decode cL_law 765 = .ok (.iadd, 1) := by decide +kernel
theorem dL_law_766 : decode cL_law 766 = .ok (.iaload, 1) := by decide +kernel
theorem dL_law_767 : decode cL_law 767 = .ok (.aload_n 0, 1) := by decide +kernel
theorem dL_law_768 : decode cL_law 768 = .ok (.iload_n 3, 1) := by decide +kernel
theorem dL_law_769 : decode cL_law 769 = .ok (.iconst 2, 1) := by decide +kernel
theorem dL_law_770 : decode cL_law 770 = .ok (.iadd, 1) := by decide +kernel
theorem dL_law_771 : decode cL_law 771 = .ok (.iaload, 1) := by decide +kernel
theorem dL_law_772 : decode cL_law 772 = .ok (.aload_n 0, 1) := by decide +kernel
theorem dL_law_773 : decode cL_law 773 = .ok (.iload_n 3, 1) := by decide +kernel
theorem dL_law_774 : decode cL_law 774 = .ok (.iconst 3, 1) := by decide +kernel
theorem dL_law_775 : decode cL_law 775 = .ok (.iadd, 1) := by decide +kernel
theorem dL_law_776 : decode cL_law 776 = .ok (.iaload, 1) := by decide +kernel
theorem dL_law_777 : decode cL_law 777 = .ok (.invokevirtual 102, 3) := by decide +kernel
theorem dL_law_780 : decode cL_law 780 = .ok (.lcmp, 1) := by decide +kernel
theorem dL_law_781 : decode cL_law 781 = .ok (.ifCond .eq 554, 3) := by decide +kernel
theorem dL_law_784 : decode cL_law 784 = .ok (.iconst 0, 1) := by decide +kernel
theorem dL_law_785 : decode cL_law 785 = .ok (.ireturn, 1) := by decide +kernel
theorem dL_law_786 : decode cL_law 786 = .ok (.aload_n 1, 1) := by decide +kernel
theorem dL_law_787 : decode cL_law 787 = .ok (.aload_n 0, 1) := by decide +kernel
theorem dL_law_788 : decode cL_law 788 = .ok (.iload_n 3, 1) := by decide +kernel
theorem dL_law_789 : decode cL_law 789 = .ok (.iconst 1, 1) := by decide +kernel
theorem dL_law_790 : decode cL_law 790 = .ok (.iadd, 1) := by decide +kernel
theorem dL_law_791 : decode cL_law 791 = .ok (.iaload, 1) := by decide +kernel
theorem dL_law_792 : decode cL_law 792 = .ok (.aload_n 0, 1) := by decide +kernel
theorem dL_law_793 : decode cL_law 793 = .ok (.iload_n 3, 1) := by decide +kernel
theorem dL_law_794 : decode cL_law 794 = .ok (.iconst 2, 1) := by decide +kernel
theorem dL_law_795 : decode cL_law 795 = .ok (.iadd, 1) := by decide +kernel
theorem dL_law_796 : decode cL_law 796 = .ok (.iaload, 1) := by decide +kernel
theorem dL_law_797 : decode cL_law 797 = .ok (.invokevirtual 103, 3) := by decide +kernel
theorem dL_law_800 : decode cL_law 800 = .ok (.aload_n 2, 1) := by decide +kernel
theorem dL_law_801 : decode cL_law 801 = .ok (.aload_n 0, 1) := by decide +kernel
theorem dL_law_802 : decode cL_law 802 = .ok (.iload_n 3, 1) := by decide +kernel
theorem dL_law_803 : decode cL_law 803 = .ok (.iconst 1, 1) := by decide +kernel
theorem dL_law_804 : decode cL_law 804 = .ok (.iadd, 1) := by decide +kernel
theorem dL_law_805 : decode cL_law 805 = .ok (.iaload, 1) := by decide +kernel
theorem dL_law_806 : decode cL_law 806 = .ok (.aload_n 0, 1) := by decide +kernel
theorem dL_law_807 : decode cL_law 807 = .ok (.iload_n 3, 1) := by decide +kernel
theorem dL_law_808 : decode cL_law 808 = .ok (.iconst 2, 1) := by decide +kernel
theorem dL_law_809 : decode cL_law 809 = .ok (.iadd, 1) := by decide +kernel
theorem dL_law_810 : decode cL_law 810 = .ok (.iaload, 1) := by decide +kernel
theorem dL_law_811 : decode cL_law 811 = .ok (.invokevirtual 106, 3) := by decide +kernel
theorem dL_law_814 : decode cL_law 814 = .ok (.lcmp, 1) := by decide +kernel
theorem dL_law_815 : decode cL_law 815 = .ok (.ifCond .eq 520, 3) := by decide +kernel
theorem dL_law_818 : decode cL_law 818 = .ok (.iconst 0, 1) := by decide +kernel
theorem dL_law_819 : decode cL_law 819 = .ok (.ireturn, 1) := by decide +kernel
theorem dL_law_820 : decode cL_law 820 = .ok (.aload_n 1, 1) := by decide +kernel
theorem dL_law_821 : decode cL_law 821 = .ok (.aload_n 0, 1) := by decide +kernel
theorem dL_law_822 : decode cL_law 822 = .ok (.iload_n 3, 1) := by decide +kernel
theorem dL_law_823 : decode cL_law 823 = .ok (.iconst 1, 1) := by decide +kernel
theorem dL_law_824 : decode cL_law 824 = .ok (.iadd, 1) := by decide +kernel
theorem dL_law_825 : decode cL_law 825 = .ok (.iaload, 1) := by decide +kernel
theorem dL_law_826 : decode cL_law 826 = .ok (.invokevirtual 107, 3) := by decide +kernel
theorem dL_law_829 : decode cL_law 829 = .ok (.aload_n 2, 1) := by decide +kernel
theorem dL_law_830 : decode cL_law 830 = .ok (.aload_n 0, 1) := by decide +kernel
theorem dL_law_831 : decode cL_law 831 = .ok (.iload_n 3, 1) := by decide +kernel
theorem dL_law_832 : decode cL_law 832 = .ok (.iconst 1, 1) := by decide +kernel
theorem dL_law_833 : decode cL_law 833 = .ok (.iadd, 1) := by decide +kernel
theorem dL_law_834 : decode cL_law 834 = .ok (.iaload, 1) := by decide +kernel
theorem dL_law_835 : decode cL_law 835 = .ok (.invokevirtual 110, 3) := by decide +kernel
theorem dL_law_838 : decode cL_law 838 = .ok (.if_icmp .eq 497, 3) := by decide +kernel
theorem dL_law_841 : decode cL_law 841 = .ok (.iconst 0, 1) := by decide +kernel
theorem dL_law_842 : decode cL_law 842 = .ok (.ireturn, 1) := by decide +kernel
theorem dL_law_843 : decode cL_law 843 = .ok (.aload_n 1, 1) := by decide +kernel
theorem dL_law_844 : decode cL_law 844 = .ok (.aload_n 0, 1) := by decide +kernel
theorem dL_law_845 : decode cL_law 845 = .ok (.iload_n 3, 1) := by decide +kernel
theorem dL_law_846 : decode cL_law 846 = .ok (.iconst 1, 1) := by decide +kernel
theorem dL_law_847 : decode cL_law 847 = .ok (.iadd, 1) := by decide +kernel
theorem dL_law_848 : decode cL_law 848 = .ok (.iaload, 1) := by decide +kernel
theorem dL_law_849 : decode cL_law 849 = .ok (.aload_n 0, 1) := by decide +kernel
theorem dL_law_850 : decode cL_law 850 = .ok (.iload_n 3, 1) := by decide +kernel
theorem dL_law_851 : decode cL_law 851 = .ok (.iconst 2, 1) := by decide +kernel
theorem dL_law_852 : decode cL_law 852 = .ok (.iadd, 1) := by decide +kernel
theorem dL_law_853 : decode cL_law 853 = .ok (.iaload, 1) := by decide +kernel
theorem dL_law_854 : decode cL_law 854 = .ok (.invokevirtual 111, 3) := by decide +kernel
theorem dL_law_857 : decode cL_law 857 = .ok (.aload_n 2, 1) := by decide +kernel
theorem dL_law_858 : decode cL_law 858 = .ok (.aload_n 0, 1) := by decide +kernel
theorem dL_law_859 : decode cL_law 859 = .ok (.iload_n 3, 1) := by decide +kernel
theorem dL_law_860 : decode cL_law 860 = .ok (.iconst 1, 1) := by decide +kernel
theorem dL_law_861 : decode cL_law 861 = .ok (.iadd, 1) := by decide +kernel
theorem dL_law_862 : decode cL_law 862 = .ok (.iaload, 1) := by decide +kernel
theorem dL_law_863 : decode cL_law 863 = .ok (.aload_n 0, 1) := by decide +kernel
theorem dL_law_864 : decode cL_law 864 = .ok (.iload_n 3, 1) := by decide +kernel
theorem dL_law_865 : decode cL_law 865 = .ok (.iconst 2, 1) := by decide +kernel
theorem dL_law_866 : decode cL_law 866 = .ok (.iadd, 1) := by decide +kernel
theorem dL_law_867 : decode cL_law 867 = .ok (.iaload, 1) := by decide +kernel
theorem dL_law_868 : decode cL_law 868 = .ok (.invokevirtual 114, 3) := by decide +kernel
theorem dL_law_871 : decode cL_law 871 = .ok (.if_icmp .eq 464, 3) := by decide +kernel
theorem dL_law_874 : decode cL_law 874 = .ok (.iconst 0, 1) := by decide +kernel
theorem dL_law_875 : decode cL_law 875 = .ok (.ireturn, 1) := by decide +kernel
theorem dL_law_876 : decode cL_law 876 = .ok (.aload_n 1, 1) := by decide +kernel
theorem dL_law_877 : decode cL_law 877 = .ok (.invokevirtual 115, 3) := by decide +kernel
theorem dL_law_880 : decode cL_law 880 = .ok (.aload_n 2, 1) := by decide +kernel
theorem dL_law_881 : decode cL_law 881 = .ok (.invokevirtual 118, 3) := by decide +kernel
theorem dL_law_884 : decode cL_law 884 = .ok (.if_icmp .eq 451, 3) := by decide +kernel
theorem dL_law_887 : decode cL_law 887 = .ok (.iconst 0, 1) := by decide +kernel
theorem dL_law_888 : decode cL_law 888 = .ok (.ireturn, 1) := by decide +kernel
theorem dL_law_889 : decode cL_law 889 = .ok (.aload_n 1, 1) := by decide +kernel
theorem dL_law_890 : decode cL_law 890 = .ok (.aload_n 0, 1) := by decide +kernel
theorem dL_law_891 : decode cL_law 891 = .ok (.iload_n 3, 1) := by decide +kernel
theorem dL_law_892 : decode cL_law 892 = .ok (.iconst 1, 1) := by decide +kernel
theorem dL_law_893 : decode cL_law 893 = .ok (.iadd, 1) := by decide +kernel
theorem dL_law_894 : decode cL_law 894 = .ok (.iaload, 1) := by decide +kernel
theorem dL_law_895 : decode cL_law 895 = .ok (.invokevirtual 119, 3) := by decide +kernel
theorem dL_law_898 : decode cL_law 898 = .ok (.aload_n 2, 1) := by decide +kernel
theorem dL_law_899 : decode cL_law 899 = .ok (.aload_n 0, 1) := by decide +kernel
theorem dL_law_900 : decode cL_law 900 = .ok (.iload_n 3, 1) := by decide +kernel
theorem dL_law_901 : decode cL_law 901 = .ok (.iconst 1, 1) := by decide +kernel
theorem dL_law_902 : decode cL_law 902 = .ok (.iadd, 1) := by decide +kernel
theorem dL_law_903 : decode cL_law 903 = .ok (.iaload, 1) := by decide +kernel
theorem dL_law_904 : decode cL_law 904 = .ok (.invokevirtual 122, 3) := by decide +kernel
theorem dL_law_907 : decode cL_law 907 = .ok (.if_icmp .eq 428, 3) := by decide +kernel
theorem dL_law_910 : decode cL_law 910 = .ok (.iconst 0, 1) := by decide +kernel
theorem dL_law_911 : decode cL_law 911 = .ok (.ireturn, 1) := by decide +kernel
theorem dL_law_912 : decode cL_law 912 = .ok (.aload_n 1, 1) := by decide +kernel
theorem dL_law_913 : decode cL_law 913 = .ok (.aload_n 0, 1) := by decide +kernel
theorem dL_law_914 : decode cL_law 914 = .ok (.iload_n 3, 1) := by decide +kernel
theorem dL_law_915 : decode cL_law 915 = .ok (.iconst 1, 1) := by decide +kernel
theorem dL_law_916 : decode cL_law 916 = .ok (.iadd, 1) := by decide +kernel
theorem dL_law_917 : decode cL_law 917 = .ok (.iaload, 1) := by decide +kernel
theorem dL_law_918 : decode cL_law 918 = .ok (.invokevirtual 123, 3) := by decide +kernel
theorem dL_law_921 : decode cL_law 921 = .ok (.aload_n 2, 1) := by decide +kernel
theorem dL_law_922 : decode cL_law 922 = .ok (.aload_n 0, 1) := by decide +kernel
theorem dL_law_923 : decode cL_law 923 = .ok (.iload_n 3, 1) := by decide +kernel
theorem dL_law_924 : decode cL_law 924 = .ok (.iconst 1, 1) := by decide +kernel
theorem dL_law_925 : decode cL_law 925 = .ok (.iadd, 1) := by decide +kernel
theorem dL_law_926 : decode cL_law 926 = .ok (.iaload, 1) := by decide +kernel
theorem dL_law_927 : decode cL_law 927 = .ok (.invokevirtual 126, 3) := by decide +kernel
theorem dL_law_930 : decode cL_law 930 = .ok (.if_icmp .eq 405, 3) := by decide +kernel
theorem dL_law_933 : decode cL_law 933 = .ok (.iconst 0, 1) := by decide +kernel
theorem dL_law_934 : decode cL_law 934 = .ok (.ireturn, 1) := by decide +kernel
theorem dL_law_935 : decode cL_law 935 = .ok (.aload_n 1, 1) := by decide +kernel
theorem dL_law_936 : decode cL_law 936 = .ok (.aload_n 0, 1) := by decide +kernel
theorem dL_law_937 : decode cL_law 937 = .ok (.iload_n 3, 1) := by decide +kernel
theorem dL_law_938 : decode cL_law 938 = .ok (.iconst 1, 1) := by decide +kernel
theorem dL_law_939 : decode cL_law 939 = .ok (.iadd, 1) := by decide +kernel
theorem dL_law_940 : decode cL_law 940 = .ok (.iaload, 1) := by decide +kernel
theorem dL_law_941 : decode cL_law 941 = .ok (.invokevirtual 127, 3) := by decide +kernel
theorem dL_law_944 : decode cL_law 944 = .ok (.aload_n 2, 1) := by decide +kernel
theorem dL_law_945 : decode cL_law 945 = .ok (.aload_n 0, 1) := by decide +kernel
theorem dL_law_946 : decode cL_law 946 = .ok (.iload_n 3, 1) := by decide +kernel
theorem dL_law_947 : decode cL_law 947 = .ok (.iconst 1, 1) := by decide +kernel
theorem dL_law_948 : decode cL_law 948 = .ok (.iadd, 1) := by decide +kernel
theorem dL_law_949 : decode cL_law 949 = .ok (.iaload, 1) := by decide +kernel
theorem dL_law_950 : decode cL_law 950 = .ok (.invokevirtual 130, 3) := by decide +kernel
theorem dL_law_953 : decode cL_law 953 = .ok (.if_icmp .eq 382, 3) := by decide +kernel
theorem dL_law_956 : decode cL_law 956 = .ok (.iconst 0, 1) := by decide +kernel
theorem dL_law_957 : decode cL_law 957 = .ok (.ireturn, 1) := by decide +kernel
theorem dL_law_958 : decode cL_law 958 = .ok (.aload_n 1, 1) := by decide +kernel
theorem dL_law_959 : decode cL_law 959 = .ok (.aload_n 0, 1) := by decide +kernel
theorem dL_law_960 : decode cL_law 960 = .ok (.iload_n 3, 1) := by decide +kernel
theorem dL_law_961 : decode cL_law 961 = .ok (.iconst 1, 1) := by decide +kernel
theorem dL_law_962 : decode cL_law 962 = .ok (.iadd, 1) := by decide +kernel
theorem dL_law_963 : decode cL_law 963 = .ok (.iaload, 1) := by decide +kernel
theorem dL_law_964 : decode cL_law 964 = .ok (.invokevirtual 131, 3) := by decide +kernel
theorem dL_law_967 : decode cL_law 967 = .ok (.aload_n 2, 1) := by decide +kernel
theorem dL_law_968 : decode cL_law 968 = .ok (.aload_n 0, 1) := by decide +kernel
theorem dL_law_969 : decode cL_law 969 = .ok (.iload_n 3, 1) := by decide +kernel
theorem dL_law_970 : decode cL_law 970 = .ok (.iconst 1, 1) := by decide +kernel
theorem dL_law_971 : decode cL_law 971 = .ok (.iadd, 1) := by decide +kernel
theorem dL_law_972 : decode cL_law 972 = .ok (.iaload, 1) := by decide +kernel
theorem dL_law_973 : decode cL_law 973 = .ok (.invokevirtual 134, 3) := by decide +kernel
theorem dL_law_976 : decode cL_law 976 = .ok (.if_icmp .eq 359, 3) := by decide +kernel
theorem dL_law_979 : decode cL_law 979 = .ok (.iconst 0, 1) := by decide +kernel
theorem dL_law_980 : decode cL_law 980 = .ok (.ireturn, 1) := by decide +kernel
theorem dL_law_981 : decode cL_law 981 = .ok (.aload_n 1, 1) := by decide +kernel
theorem dL_law_982 : decode cL_law 982 = .ok (.aload_n 0, 1) := by decide +kernel
theorem dL_law_983 : decode cL_law 983 = .ok (.iload_n 3, 1) := by decide +kernel
theorem dL_law_984 : decode cL_law 984 = .ok (.iconst 1, 1) := by decide +kernel
theorem dL_law_985 : decode cL_law 985 = .ok (.iadd, 1) := by decide +kernel
theorem dL_law_986 : decode cL_law 986 = .ok (.iaload, 1) := by decide +kernel
theorem dL_law_987 : decode cL_law 987 = .ok (.invokevirtual 135, 3) := by decide +kernel
theorem dL_law_990 : decode cL_law 990 = .ok (.aload_n 2, 1) := by decide +kernel
theorem dL_law_991 : decode cL_law 991 = .ok (.aload_n 0, 1) := by decide +kernel
theorem dL_law_992 : decode cL_law 992 = .ok (.iload_n 3, 1) := by decide +kernel
theorem dL_law_993 : decode cL_law 993 = .ok (.iconst 1, 1) := by decide +kernel
theorem dL_law_994 : decode cL_law 994 = .ok (.iadd, 1) := by decide +kernel
theorem dL_law_995 : decode cL_law 995 = .ok (.iaload, 1) := by decide +kernel
theorem dL_law_996 : decode cL_law 996 = .ok (.invokevirtual 138, 3) := by decide +kernel
theorem dL_law_999 : decode cL_law 999 = .ok (.if_icmp .eq 336, 3) := by decide +kernel
theorem dL_law_1002 : decode cL_law 1002 = .ok (.iconst 0, 1) := by decide +kernel
theorem dL_law_1003 : decode cL_law 1003 = .ok (.ireturn, 1) := by decide +kernel
theorem dL_law_1004 : decode cL_law 1004 = .ok (.aload_n 1, 1) := by decide +kernel
theorem dL_law_1005 : decode cL_law 1005 = .ok (.invokevirtual 139, 3) := by decide +kernel
theorem dL_law_1008 : decode cL_law 1008 = .ok (.aload_n 2, 1) := by decide +kernel
theorem dL_law_1009 : decode cL_law 1009 = .ok (.invokevirtual 142, 3) := by decide +kernel
theorem dL_law_1012 : decode cL_law 1012 = .ok (.if_icmp .eq 323, 3) := by decide +kernel
theorem dL_law_1015 : decode cL_law 1015 = .ok (.iconst 0, 1) := by decide +kernel
theorem dL_law_1016 : decode cL_law 1016 = .ok (.ireturn, 1) := by decide +kernel
theorem dL_law_1017 : decode cL_law 1017 = .ok (.aload_n 1, 1) := by decide +kernel
theorem dL_law_1018 : decode cL_law 1018 = .ok (.aload_n 0, 1) := by decide +kernel
theorem dL_law_1019 : decode cL_law 1019 = .ok (.iload_n 3, 1) := by decide +kernel
theorem dL_law_1020 : decode cL_law 1020 = .ok (.iconst 1, 1) := by decide +kernel
theorem dL_law_1021 : decode cL_law 1021 = .ok (.iadd, 1) := by decide +kernel
theorem dL_law_1022 : decode cL_law 1022 = .ok (.iaload, 1) := by decide +kernel
theorem dL_law_1023 : decode cL_law 1023 = .ok (.aload_n 0, 1) := by decide +kernel
theorem dL_law_1024 : decode cL_law 1024 = .ok (.iload_n 3, 1) := by decide +kernel
theorem dL_law_1025 : decode cL_law 1025 = .ok (.iconst 2, 1) := by decide +kernel
theorem dL_law_1026 : decode cL_law 1026 = .ok (.iadd, 1) := by decide +kernel
theorem dL_law_1027 : decode cL_law 1027 = .ok (.iaload, 1) := by decide +kernel
theorem dL_law_1028 : decode cL_law 1028 = .ok (.invokevirtual 143, 3) := by decide +kernel
theorem dL_law_1031 : decode cL_law 1031 = .ok (.aload_n 2, 1) := by decide +kernel
theorem dL_law_1032 : decode cL_law 1032 = .ok (.aload_n 0, 1) := by decide +kernel
theorem dL_law_1033 : decode cL_law 1033 = .ok (.iload_n 3, 1) := by decide +kernel
theorem dL_law_1034 : decode cL_law 1034 = .ok (.iconst 1, 1) := by decide +kernel
theorem dL_law_1035 : decode cL_law 1035 = .ok (.iadd, 1) := by decide +kernel
theorem dL_law_1036 : decode cL_law 1036 = .ok (.iaload, 1) := by decide +kernel
theorem dL_law_1037 : decode cL_law 1037 = .ok (.aload_n 0, 1) := by decide +kernel
theorem dL_law_1038 : decode cL_law 1038 = .ok (.iload_n 3, 1) := by decide +kernel
theorem dL_law_1039 : decode cL_law 1039 = .ok (.iconst 2, 1) := by decide +kernel
theorem dL_law_1040 : decode cL_law 1040 = .ok (.iadd, 1) := by decide +kernel
theorem dL_law_1041 : decode cL_law 1041 = .ok (.iaload, 1) := by decide +kernel
theorem dL_law_1042 : decode cL_law 1042 = .ok (.invokevirtual 146, 3) := by decide +kernel
theorem dL_law_1045 : decode cL_law 1045 = .ok (.if_icmp .eq 290, 3) := by decide +kernel
theorem dL_law_1048 : decode cL_law 1048 = .ok (.iconst 0, 1) := by decide +kernel
theorem dL_law_1049 : decode cL_law 1049 = .ok (.ireturn, 1) := by decide +kernel
theorem dL_law_1050 : decode cL_law 1050 = .ok (.aload_n 1, 1) := by decide +kernel
theorem dL_law_1051 : decode cL_law 1051 = .ok (.aload_n 0, 1) := by decide +kernel
theorem dL_law_1052 : decode cL_law 1052 = .ok (.iload_n 3, 1) := by decide +kernel
theorem dL_law_1053 : decode cL_law 1053 = .ok (.iconst 1, 1) := by decide +kernel
theorem dL_law_1054 : decode cL_law 1054 = .ok (.iadd, 1) := by decide +kernel
theorem dL_law_1055 : decode cL_law 1055 = .ok (.iaload, 1) := by decide +kernel
theorem dL_law_1056 : decode cL_law 1056 = .ok (.aload_n 0, 1) := by decide +kernel
theorem dL_law_1057 : decode cL_law 1057 = .ok (.iload_n 3, 1) := by decide +kernel
theorem dL_law_1058 : decode cL_law 1058 = .ok (.iconst 2, 1) := by decide +kernel
theorem dL_law_1059 : decode cL_law 1059 = .ok (.iadd, 1) := by decide +kernel
theorem dL_law_1060 : decode cL_law 1060 = .ok (.iaload, 1) := by decide +kernel
theorem dL_law_1061 : decode cL_law 1061 = .ok (.aload_n 0, 1) := by decide +kernel
theorem dL_law_1062 : decode cL_law 1062 = .ok (.iload_n 3, 1) := by decide +kernel
theorem dL_law_1063 : decode cL_law 1063 = .ok (.iconst 3, 1) := by decide +kernel
theorem dL_law_1064 : decode cL_law 1064 = .ok (.iadd, 1) := by decide +kernel
theorem dL_law_1065 : decode cL_law 1065 = .ok (.iaload, 1) := by decide +kernel
theorem dL_law_1066 : decode cL_law 1066 = .ok (.invokevirtual 147, 3) := by decide +kernel
theorem dL_law_1069 : decode cL_law 1069 = .ok (.aload_n 2, 1) := by decide +kernel
theorem dL_law_1070 : decode cL_law 1070 = .ok (.aload_n 0, 1) := by decide +kernel
theorem dL_law_1071 : decode cL_law 1071 = .ok (.iload_n 3, 1) := by decide +kernel
theorem dL_law_1072 : decode cL_law 1072 = .ok (.iconst 1, 1) := by decide +kernel
theorem dL_law_1073 : decode cL_law 1073 = .ok (.iadd, 1) := by decide +kernel
theorem dL_law_1074 : decode cL_law 1074 = .ok (.iaload, 1) := by decide +kernel
theorem dL_law_1075 : decode cL_law 1075 = .ok (.aload_n 0, 1) := by decide +kernel
theorem dL_law_1076 : decode cL_law 1076 = .ok (.iload_n 3, 1) := by decide +kernel
theorem dL_law_1077 : decode cL_law 1077 = .ok (.iconst 2, 1) := by decide +kernel
theorem dL_law_1078 : decode cL_law 1078 = .ok (.iadd, 1) := by decide +kernel
theorem dL_law_1079 : decode cL_law 1079 = .ok (.iaload, 1) := by decide +kernel
theorem dL_law_1080 : decode cL_law 1080 = .ok (.aload_n 0, 1) := by decide +kernel
theorem dL_law_1081 : decode cL_law 1081 = .ok (.iload_n 3, 1) := by decide +kernel
theorem dL_law_1082 : decode cL_law 1082 = .ok (.iconst 3, 1) := by decide +kernel
theorem dL_law_1083 : decode cL_law 1083 = .ok (.iadd, 1) := by decide +kernel
theorem dL_law_1084 : decode cL_law 1084 = .ok (.iaload, 1) := by decide +kernel
theorem dL_law_1085 : decode cL_law 1085 = .ok (.invokevirtual 150, 3) := by decide +kernel
theorem dL_law_1088 : decode cL_law 1088 = .ok (.if_icmp .eq 247, 3) := by decide +kernel
theorem dL_law_1091 : decode cL_law 1091 = .ok (.iconst 0, 1) := by decide +kernel
theorem dL_law_1092 : decode cL_law 1092 = .ok (.ireturn, 1) := by decide +kernel
theorem dL_law_1093 : decode cL_law 1093 = .ok (.aload_n 1, 1) := by decide +kernel
theorem dL_law_1094 : decode cL_law 1094 = .ok (.aload_n 0, 1) := by decide +kernel
theorem dL_law_1095 : decode cL_law 1095 = .ok (.iload_n 3, 1) := by decide +kernel
theorem dL_law_1096 : decode cL_law 1096 = .ok (.iconst 1, 1) := by decide +kernel
theorem dL_law_1097 : decode cL_law 1097 = .ok (.iadd, 1) := by decide +kernel
theorem dL_law_1098 : decode cL_law 1098 = .ok (.iaload, 1) := by decide +kernel
theorem dL_law_1099 : decode cL_law 1099 = .ok (.invokevirtual 151, 3) := by decide +kernel
theorem dL_law_1102 : decode cL_law 1102 = .ok (.aload_n 2, 1) := by decide +kernel
theorem dL_law_1103 : decode cL_law 1103 = .ok (.aload_n 0, 1) := by decide +kernel
theorem dL_law_1104 : decode cL_law 1104 = .ok (.iload_n 3, 1) := by decide +kernel
theorem dL_law_1105 : decode cL_law 1105 = .ok (.iconst 1, 1) := by decide +kernel
theorem dL_law_1106 : decode cL_law 1106 = .ok (.iadd, 1) := by decide +kernel
theorem dL_law_1107 : decode cL_law 1107 = .ok (.iaload, 1) := by decide +kernel
theorem dL_law_1108 : decode cL_law 1108 = .ok (.invokevirtual 154, 3) := by decide +kernel
theorem dL_law_1111 : decode cL_law 1111 = .ok (.if_icmp .eq 224, 3) := by decide +kernel
theorem dL_law_1114 : decode cL_law 1114 = .ok (.iconst 0, 1) := by decide +kernel
theorem dL_law_1115 : decode cL_law 1115 = .ok (.ireturn, 1) := by decide +kernel
theorem dL_law_1116 : decode cL_law 1116 = .ok (.aload_n 1, 1) := by decide +kernel
theorem dL_law_1117 : decode cL_law 1117 = .ok (.aload_n 0, 1) := by decide +kernel
theorem dL_law_1118 : decode cL_law 1118 = .ok (.iload_n 3, 1) := by decide +kernel
theorem dL_law_1119 : decode cL_law 1119 = .ok (.iconst 1, 1) := by decide +kernel
theorem dL_law_1120 : decode cL_law 1120 = .ok (.iadd, 1) := by decide +kernel
theorem dL_law_1121 : decode cL_law 1121 = .ok (.iaload, 1) := by decide +kernel
theorem dL_law_1122 : decode cL_law 1122 = .ok (.aload_n 0, 1) := by decide +kernel
theorem dL_law_1123 : decode cL_law 1123 = .ok (.iload_n 3, 1) := by decide +kernel
theorem dL_law_1124 : decode cL_law 1124 = .ok (.iconst 2, 1) := by decide +kernel
theorem dL_law_1125 : decode cL_law 1125 = .ok (.iadd, 1) := by decide +kernel
theorem dL_law_1126 : decode cL_law 1126 = .ok (.iaload, 1) := by decide +kernel
theorem dL_law_1127 : decode cL_law 1127 = .ok (.aload_n 0, 1) := by decide +kernel
theorem dL_law_1128 : decode cL_law 1128 = .ok (.iload_n 3, 1) := by decide +kernel
theorem dL_law_1129 : decode cL_law 1129 = .ok (.iconst 3, 1) := by decide +kernel
theorem dL_law_1130 : decode cL_law 1130 = .ok (.iadd, 1) := by decide +kernel
theorem dL_law_1131 : decode cL_law 1131 = .ok (.iaload, 1) := by decide +kernel
theorem dL_law_1132 : decode cL_law 1132 = .ok (.aload_n 0, 1) := by decide +kernel
theorem dL_law_1133 : decode cL_law 1133 = .ok (.iload_n 3, 1) := by decide +kernel
theorem dL_law_1134 : decode cL_law 1134 = .ok (.iconst 4, 1) := by decide +kernel
theorem dL_law_1135 : decode cL_law 1135 = .ok (.iadd, 1) := by decide +kernel
theorem dL_law_1136 : decode cL_law 1136 = .ok (.iaload, 1) := by decide +kernel
theorem dL_law_1137 : decode cL_law 1137 = .ok (.invokevirtual 155, 3) := by decide +kernel
theorem dL_law_1140 : decode cL_law 1140 = .ok (.aload_n 2, 1) := by decide +kernel
theorem dL_law_1141 : decode cL_law 1141 = .ok (.aload_n 0, 1) := by decide +kernel
theorem dL_law_1142 : decode cL_law 1142 = .ok (.iload_n 3, 1) := by decide +kernel
theorem dL_law_1143 : decode cL_law 1143 = .ok (.iconst 1, 1) := by decide +kernel
theorem dL_law_1144 : decode cL_law 1144 = .ok (.iadd, 1) := by decide +kernel
theorem dL_law_1145 : decode cL_law 1145 = .ok (.iaload, 1) := by decide +kernel
theorem dL_law_1146 : decode cL_law 1146 = .ok (.aload_n 0, 1) := by decide +kernel
theorem dL_law_1147 : decode cL_law 1147 = .ok (.iload_n 3, 1) := by decide +kernel
theorem dL_law_1148 : decode cL_law 1148 = .ok (.iconst 2, 1) := by decide +kernel
theorem dL_law_1149 : decode cL_law 1149 = .ok (.iadd, 1) := by decide +kernel
theorem dL_law_1150 : decode cL_law 1150 = .ok (.iaload, 1) := by decide +kernel
theorem dL_law_1151 : decode cL_law 1151 = .ok (.aload_n 0, 1) := by decide +kernel
theorem dL_law_1152 : decode cL_law 1152 = .ok (.iload_n 3, 1) := by decide +kernel
theorem dL_law_1153 : decode cL_law 1153 = .ok (.iconst 3, 1) := by decide +kernel
theorem dL_law_1154 : decode cL_law 1154 = .ok (.iadd, 1) := by decide +kernel
theorem dL_law_1155 : decode cL_law 1155 = .ok (.iaload, 1) := by decide +kernel
theorem dL_law_1156 : decode cL_law 1156 = .ok (.aload_n 0, 1) := by decide +kernel
theorem dL_law_1157 : decode cL_law 1157 = .ok (.iload_n 3, 1) := by decide +kernel
theorem dL_law_1158 : decode cL_law 1158 = .ok (.iconst 4, 1) := by decide +kernel
theorem dL_law_1159 : decode cL_law 1159 = .ok (.iadd, 1) := by decide +kernel
theorem dL_law_1160 : decode cL_law 1160 = .ok (.iaload, 1) := by decide +kernel
theorem dL_law_1161 : decode cL_law 1161 = .ok (.invokevirtual 159, 3) := by decide +kernel
theorem dL_law_1164 : decode cL_law 1164 = .ok (.if_icmp .eq 171, 3) := by decide +kernel
theorem dL_law_1167 : decode cL_law 1167 = .ok (.iconst 0, 1) := by decide +kernel
theorem dL_law_1168 : decode cL_law 1168 = .ok (.ireturn, 1) := by decide +kernel
theorem dL_law_1169 : decode cL_law 1169 = .ok (.aload_n 1, 1) := by decide +kernel
theorem dL_law_1170 : decode cL_law 1170 = .ok (.aload_n 0, 1) := by decide +kernel
theorem dL_law_1171 : decode cL_law 1171 = .ok (.iload_n 3, 1) := by decide +kernel
theorem dL_law_1172 : decode cL_law 1172 = .ok (.iconst 1, 1) := by decide +kernel
theorem dL_law_1173 : decode cL_law 1173 = .ok (.iadd, 1) := by decide +kernel
theorem dL_law_1174 : decode cL_law 1174 = .ok (.iaload, 1) := by decide +kernel
theorem dL_law_1175 : decode cL_law 1175 = .ok (.aload_n 0, 1) := by decide +kernel
theorem dL_law_1176 : decode cL_law 1176 = .ok (.iload_n 3, 1) := by decide +kernel
theorem dL_law_1177 : decode cL_law 1177 = .ok (.iconst 2, 1) := by decide +kernel
theorem dL_law_1178 : decode cL_law 1178 = .ok (.iadd, 1) := by decide +kernel
theorem dL_law_1179 : decode cL_law 1179 = .ok (.iaload, 1) := by decide +kernel
theorem dL_law_1180 : decode cL_law 1180 = .ok (.aload_n 0, 1) := by decide +kernel
theorem dL_law_1181 : decode cL_law 1181 = .ok (.iload_n 3, 1) := by decide +kernel
theorem dL_law_1182 : decode cL_law 1182 = .ok (.iconst 3, 1) := by decide +kernel
theorem dL_law_1183 : decode cL_law 1183 = .ok (.iadd, 1) := by decide +kernel
theorem dL_law_1184 : decode cL_law 1184 = .ok (.iaload, 1) := by decide +kernel
theorem dL_law_1185 : decode cL_law 1185 = .ok (.invokevirtual 160, 3) := by decide +kernel
theorem dL_law_1188 : decode cL_law 1188 = .ok (.aload_n 2, 1) := by decide +kernel
theorem dL_law_1189 : decode cL_law 1189 = .ok (.aload_n 0, 1) := by decide +kernel
theorem dL_law_1190 : decode cL_law 1190 = .ok (.iload_n 3, 1) := by decide +kernel
theorem dL_law_1191 : decode cL_law 1191 = .ok (.iconst 1, 1) := by decide +kernel
theorem dL_law_1192 : decode cL_law 1192 = .ok (.iadd, 1) := by decide +kernel
theorem dL_law_1193 : decode cL_law 1193 = .ok (.iaload, 1) := by decide +kernel
theorem dL_law_1194 : decode cL_law 1194 = .ok (.aload_n 0, 1) := by decide +kernel
theorem dL_law_1195 : decode cL_law 1195 = .ok (.iload_n 3, 1) := by decide +kernel
theorem dL_law_1196 : decode cL_law 1196 = .ok (.iconst 2, 1) := by decide +kernel
theorem dL_law_1197 : decode cL_law 1197 = .ok (.iadd, 1) := by decide +kernel
theorem dL_law_1198 : decode cL_law 1198 = .ok (.iaload, 1) := by decide +kernel
theorem dL_law_1199 : decode cL_law 1199 = .ok (.aload_n 0, 1) := by decide +kernel
theorem dL_law_1200 : decode cL_law 1200 = .ok (.iload_n 3, 1) := by decide +kernel
theorem dL_law_1201 : decode cL_law 1201 = .ok (.iconst 3, 1) := by decide +kernel
theorem dL_law_1202 : decode cL_law 1202 = .ok (.iadd, 1) := by decide +kernel
theorem dL_law_1203 : decode cL_law 1203 = .ok (.iaload, 1) := by decide +kernel
theorem dL_law_1204 : decode cL_law 1204 = .ok (.invokevirtual 163, 3) := by decide +kernel
theorem dL_law_1207 : decode cL_law 1207 = .ok (.if_icmp .eq 128, 3) := by decide +kernel
theorem dL_law_1210 : decode cL_law 1210 = .ok (.iconst 0, 1) := by decide +kernel
theorem dL_law_1211 : decode cL_law 1211 = .ok (.ireturn, 1) := by decide +kernel
theorem dL_law_1212 : decode cL_law 1212 = .ok (.aload_n 1, 1) := by decide +kernel
theorem dL_law_1213 : decode cL_law 1213 = .ok (.aload_n 0, 1) := by decide +kernel
theorem dL_law_1214 : decode cL_law 1214 = .ok (.iload_n 3, 1) := by decide +kernel
theorem dL_law_1215 : decode cL_law 1215 = .ok (.iconst 1, 1) := by decide +kernel
theorem dL_law_1216 : decode cL_law 1216 = .ok (.iadd, 1) := by decide +kernel
theorem dL_law_1217 : decode cL_law 1217 = .ok (.iaload, 1) := by decide +kernel
theorem dL_law_1218 : decode cL_law 1218 = .ok (.aload_n 0, 1) := by decide +kernel
theorem dL_law_1219 : decode cL_law 1219 = .ok (.iload_n 3, 1) := by decide +kernel
theorem dL_law_1220 : decode cL_law 1220 = .ok (.iconst 2, 1) := by decide +kernel
theorem dL_law_1221 : decode cL_law 1221 = .ok (.iadd, 1) := by decide +kernel
theorem dL_law_1222 : decode cL_law 1222 = .ok (.iaload, 1) := by decide +kernel
theorem dL_law_1223 : decode cL_law 1223 = .ok (.aload_n 0, 1) := by decide +kernel
theorem dL_law_1224 : decode cL_law 1224 = .ok (.iload_n 3, 1) := by decide +kernel
theorem dL_law_1225 : decode cL_law 1225 = .ok (.iconst 3, 1) := by decide +kernel
theorem dL_law_1226 : decode cL_law 1226 = .ok (.iadd, 1) := by decide +kernel
theorem dL_law_1227 : decode cL_law 1227 = .ok (.iaload, 1) := by decide +kernel
theorem dL_law_1228 : decode cL_law 1228 = .ok (.aload_n 0, 1) := by decide +kernel
theorem dL_law_1229 : decode cL_law 1229 = .ok (.iload_n 3, 1) := by decide +kernel
theorem dL_law_1230 : decode cL_law 1230 = .ok (.iconst 4, 1) := by decide +kernel
theorem dL_law_1231 : decode cL_law 1231 = .ok (.iadd, 1) := by decide +kernel
theorem dL_law_1232 : decode cL_law 1232 = .ok (.iaload, 1) := by decide +kernel
theorem dL_law_1233 : decode cL_law 1233 = .ok (.aload_n 0, 1) := by decide +kernel
theorem dL_law_1234 : decode cL_law 1234 = .ok (.iload_n 3, 1) := by decide +kernel
theorem dL_law_1235 : decode cL_law 1235 = .ok (.iconst 5, 1) := by decide +kernel
theorem dL_law_1236 : decode cL_law 1236 = .ok (.iadd, 1) := by decide +kernel
theorem dL_law_1237 : decode cL_law 1237 = .ok (.iaload, 1) := by decide +kernel
theorem dL_law_1238 : decode cL_law 1238 = .ok (.invokevirtual 164, 3) := by decide +kernel
theorem dL_law_1241 : decode cL_law 1241 = .ok (.aload_n 2, 1) := by decide +kernel
theorem dL_law_1242 : decode cL_law 1242 = .ok (.aload_n 0, 1) := by decide +kernel
theorem dL_law_1243 : decode cL_law 1243 = .ok (.iload_n 3, 1) := by decide +kernel
theorem dL_law_1244 : decode cL_law 1244 = .ok (.iconst 1, 1) := by decide +kernel
theorem dL_law_1245 : decode cL_law 1245 = .ok (.iadd, 1) := by decide +kernel
theorem dL_law_1246 : decode cL_law 1246 = .ok (.iaload, 1) := by decide +kernel
theorem dL_law_1247 : decode cL_law 1247 = .ok (.aload_n 0, 1) := by decide +kernel
theorem dL_law_1248 : decode cL_law 1248 = .ok (.iload_n 3, 1) := by decide +kernel
theorem dL_law_1249 : decode cL_law 1249 = .ok (.iconst 2, 1) := by decide +kernel
theorem dL_law_1250 : decode cL_law 1250 = .ok (.iadd, 1) := by decide +kernel
theorem dL_law_1251 : decode cL_law 1251 = .ok (.iaload, 1) := by decide +kernel
theorem dL_law_1252 : decode cL_law 1252 = .ok (.aload_n 0, 1) := by decide +kernel
theorem dL_law_1253 : decode cL_law 1253 = .ok (.iload_n 3, 1) := by decide +kernel
theorem dL_law_1254 : decode cL_law 1254 = .ok (.iconst 3, 1) := by decide +kernel
theorem dL_law_1255 : decode cL_law 1255 = .ok (.iadd, 1) := by decide +kernel
theorem dL_law_1256 : decode cL_law 1256 = .ok (.iaload, 1) := by decide +kernel
theorem dL_law_1257 : decode cL_law 1257 = .ok (.aload_n 0, 1) := by decide +kernel
theorem dL_law_1258 : decode cL_law 1258 = .ok (.iload_n 3, 1) := by decide +kernel
theorem dL_law_1259 : decode cL_law 1259 = .ok (.iconst 4, 1) := by decide +kernel
theorem dL_law_1260 : decode cL_law 1260 = .ok (.iadd, 1) := by decide +kernel
theorem dL_law_1261 : decode cL_law 1261 = .ok (.iaload, 1) := by decide +kernel
theorem dL_law_1262 : decode cL_law 1262 = .ok (.aload_n 0, 1) := by decide +kernel
theorem dL_law_1263 : decode cL_law 1263 = .ok (.iload_n 3, 1) := by decide +kernel
theorem dL_law_1264 : decode cL_law 1264 = .ok (.iconst 5, 1) := by decide +kernel
theorem dL_law_1265 : decode cL_law 1265 = .ok (.iadd, 1) := by decide +kernel
theorem dL_law_1266 : decode cL_law 1266 = .ok (.iaload, 1) := by decide +kernel
theorem dL_law_1267 : decode cL_law 1267 = .ok (.invokevirtual 168, 3) := by decide +kernel
theorem dL_law_1270 : decode cL_law 1270 = .ok (.if_icmp .eq 65, 3) := by decide +kernel
theorem dL_law_1273 : decode cL_law 1273 = .ok (.iconst 0, 1) := by decide +kernel
theorem dL_law_1274 : decode cL_law 1274 = .ok (.ireturn, 1) := by decide +kernel
theorem dL_law_1275 : decode cL_law 1275 = .ok (.aload_n 1, 1) := by decide +kernel
theorem dL_law_1276 : decode cL_law 1276 = .ok (.aload_n 0, 1) := by decide +kernel
theorem dL_law_1277 : decode cL_law 1277 = .ok (.iload_n 3, 1) := by decide +kernel
theorem dL_law_1278 : decode cL_law 1278 = .ok (.iconst 1, 1) := by decide +kernel
theorem dL_law_1279 : decode cL_law 1279 = .ok (.iadd, 1) := by decide +kernel
theorem dL_law_1280 : decode cL_law 1280 = .ok (.iaload, 1) := by decide +kernel
theorem dL_law_1281 : decode cL_law 1281 = .ok (.invokevirtual 169, 3) := by decide +kernel
theorem dL_law_1284 : decode cL_law 1284 = .ok (.aload_n 2, 1) := by decide +kernel
theorem dL_law_1285 : decode cL_law 1285 = .ok (.aload_n 0, 1) := by decide +kernel
theorem dL_law_1286 : decode cL_law 1286 = .ok (.iload_n 3, 1) := by decide +kernel
theorem dL_law_1287 : decode cL_law 1287 = .ok (.iconst 1, 1) := by decide +kernel
theorem dL_law_1288 : decode cL_law 1288 = .ok (.iadd, 1) := by decide +kernel
theorem dL_law_1289 : decode cL_law 1289 = .ok (.iaload, 1) := by decide +kernel
theorem dL_law_1290 : decode cL_law 1290 = .ok (.invokevirtual 172, 3) := by decide +kernel
theorem dL_law_1293 : decode cL_law 1293 = .ok (.if_icmp .eq 42, 3) := by decide +kernel
theorem dL_law_1296 : decode cL_law 1296 = .ok (.iconst 0, 1) := by decide +kernel
theorem dL_law_1297 : decode cL_law 1297 = .ok (.ireturn, 1) := by decide +kernel
theorem dL_law_1298 : decode cL_law 1298 = .ok (.aload_n 1, 1) := by decide +kernel
theorem dL_law_1299 : decode cL_law 1299 = .ok (.aload_n 0, 1) := by decide +kernel
theorem dL_law_1300 : decode cL_law 1300 = .ok (.iload_n 3, 1) := by decide +kernel
theorem dL_law_1301 : decode cL_law 1301 = .ok (.iconst 1, 1) := by decide +kernel
theorem dL_law_1302 : decode cL_law 1302 = .ok (.iadd, 1) := by decide +kernel
theorem dL_law_1303 : decode cL_law 1303 = .ok (.iaload, 1) := by decide +kernel
theorem dL_law_1304 : decode cL_law 1304 = .ok (.invokevirtual 173, 3) := by decide +kernel
theorem dL_law_1307 : decode cL_law 1307 = .ok (.aload_n 2, 1) := by decide +kernel
theorem dL_law_1308 : decode cL_law 1308 = .ok (.aload_n 0, 1) := by decide +kernel
theorem dL_law_1309 : decode cL_law 1309 = .ok (.iload_n 3, 1) := by decide +kernel
theorem dL_law_1310 : decode cL_law 1310 = .ok (.iconst 1, 1) := by decide +kernel
theorem dL_law_1311 : decode cL_law 1311 = .ok (.iadd, 1) := by decide +kernel
theorem dL_law_1312 : decode cL_law 1312 = .ok (.iaload, 1) := by decide +kernel
theorem dL_law_1313 : decode cL_law 1313 = .ok (.invokevirtual 176, 3) := by decide +kernel
theorem dL_law_1316 : decode cL_law 1316 = .ok (.if_icmp .eq 19, 3) := by decide +kernel
theorem dL_law_1319 : decode cL_law 1319 = .ok (.iconst 0, 1) := by decide +kernel
theorem dL_law_1320 : decode cL_law 1320 = .ok (.ireturn, 1) := by decide +kernel
theorem dL_law_1321 : decode cL_law 1321 = .ok (.aload_n 1, 1) := by decide +kernel
theorem dL_law_1322 : decode cL_law 1322 = .ok (.invokevirtual 177, 3) := by decide +kernel
theorem dL_law_1325 : decode cL_law 1325 = .ok (.aload_n 2, 1) := by decide +kernel
theorem dL_law_1326 : decode cL_law 1326 = .ok (.invokevirtual 181, 3) := by decide +kernel
theorem dL_law_1329 : decode cL_law 1329 = .ok (.lcmp, 1) := by decide +kernel
theorem dL_law_1330 : decode cL_law 1330 = .ok (.ifCond .eq 5, 3) := by decide +kernel
theorem dL_law_1333 : decode cL_law 1333 = .ok (.iconst 0, 1) := by decide +kernel
theorem dL_law_1334 : decode cL_law 1334 = .ok (.ireturn, 1) := by decide +kernel
theorem dL_law_1335 : decode cL_law 1335 = .ok (.iinc 3 6, 3) := by decide +kernel
theorem dL_law_1338 : decode cL_law 1338 = .ok (.goto (-1320), 3) := by decide +kernel
theorem dL_law_1341 : decode cL_law 1341 = .ok (.iconst 1, 1) := by decide +kernel
theorem dL_law_1342 : decode cL_law 1342 = .ok (.ireturn, 1) := by decide +kernel
end
