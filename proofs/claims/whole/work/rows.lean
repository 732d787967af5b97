section
-- ===== PART A: goes FIRST, ahead of the names: the tables' words, and 'selects' of the private methods out of them =====
/-- a private method of a class that the tables say can be made, by its rows of tables_1 -/
def lw_okq (q : MethodName × Nat) : Prop := (q.1.cls ≠ "java/lang/invoke/MethodHandle" ∧ q.1.cls ≠ "java/lang/invoke/VarHandle") ∧ Cond.instantiable q.1.cls q.2 ∈ tables_1 ∧ Cond.privateMethod q.1 ∈ tables_1 ∧ Cond.instanceMethod q.1 ∈ tables_1
theorem lw_p0 : lw_okq (⟨"OneTriangle$Piece", "understand", "()V"⟩, 10) := ⟨⟨by decide +kernel, by decide +kernel⟩, List.mem_of_getElem? (i := 26) (by decide +kernel), List.mem_of_getElem? (i := 288) (by decide +kernel), List.mem_of_getElem? (i := 289) (by decide +kernel)⟩
theorem lw_p1 : lw_okq (⟨"OneTriangle$Piece", "byteAt", "(I)I"⟩, 10) := ⟨⟨by decide +kernel, by decide +kernel⟩, List.mem_of_getElem? (i := 26) (by decide +kernel), List.mem_of_getElem? (i := 292) (by decide +kernel), List.mem_of_getElem? (i := 293) (by decide +kernel)⟩
theorem lw_p2 : lw_okq (⟨"OneTriangle$Piece", "passed", "(I)I"⟩, 10) := ⟨⟨by decide +kernel, by decide +kernel⟩, List.mem_of_getElem? (i := 26) (by decide +kernel), List.mem_of_getElem? (i := 299) (by decide +kernel), List.mem_of_getElem? (i := 300) (by decide +kernel)⟩
theorem lw_p3 : lw_okq (⟨"OneTriangle$Piece", "passedPlain", "(I)I"⟩, 10) := ⟨⟨by decide +kernel, by decide +kernel⟩, List.mem_of_getElem? (i := 26) (by decide +kernel), List.mem_of_getElem? (i := 303) (by decide +kernel), List.mem_of_getElem? (i := 304) (by decide +kernel)⟩
theorem lw_p4 : lw_okq (⟨"OneTriangle$Piece", "faultAt", "(I)I"⟩, 10) := ⟨⟨by decide +kernel, by decide +kernel⟩, List.mem_of_getElem? (i := 26) (by decide +kernel), List.mem_of_getElem? (i := 308) (by decide +kernel), List.mem_of_getElem? (i := 309) (by decide +kernel)⟩
theorem lw_p5 : lw_okq (⟨"OneTriangle$Piece", "addBars", "(II)Z"⟩, 10) := ⟨⟨by decide +kernel, by decide +kernel⟩, List.mem_of_getElem? (i := 26) (by decide +kernel), List.mem_of_getElem? (i := 312) (by decide +kernel), List.mem_of_getElem? (i := 313) (by decide +kernel)⟩
theorem lw_p6 : lw_okq (⟨"OneTriangle$Piece", "passedLoose", "(II)I"⟩, 10) := ⟨⟨by decide +kernel, by decide +kernel⟩, List.mem_of_getElem? (i := 26) (by decide +kernel), List.mem_of_getElem? (i := 319) (by decide +kernel), List.mem_of_getElem? (i := 320) (by decide +kernel)⟩
theorem lw_p7 : lw_okq (⟨"OneTriangle$Piece", "passedCue", "(I)I"⟩, 10) := ⟨⟨by decide +kernel, by decide +kernel⟩, List.mem_of_getElem? (i := 26) (by decide +kernel), List.mem_of_getElem? (i := 323) (by decide +kernel), List.mem_of_getElem? (i := 324) (by decide +kernel)⟩
theorem lw_p8 : lw_okq (⟨"OneTriangle", "sheetAt", "(I)LOneTriangle$Sheet;"⟩, 13) := ⟨⟨by decide +kernel, by decide +kernel⟩, List.mem_of_getElem? (i := 18) (by decide +kernel), List.mem_of_getElem? (i := 403) (by decide +kernel), List.mem_of_getElem? (i := 404) (by decide +kernel)⟩
theorem lw_p9 : lw_okq (⟨"OneTriangle", "found", "(I)I"⟩, 13) := ⟨⟨by decide +kernel, by decide +kernel⟩, List.mem_of_getElem? (i := 18) (by decide +kernel), List.mem_of_getElem? (i := 407) (by decide +kernel), List.mem_of_getElem? (i := 408) (by decide +kernel)⟩
theorem lw_p10 : lw_okq (⟨"OneTriangle", "addNote", "(III)I"⟩, 13) := ⟨⟨by decide +kernel, by decide +kernel⟩, List.mem_of_getElem? (i := 18) (by decide +kernel), List.mem_of_getElem? (i := 431) (by decide +kernel), List.mem_of_getElem? (i := 432) (by decide +kernel)⟩
theorem lw_p11 : lw_okq (⟨"OneTriangle", "refreshWays", "()V"⟩, 13) := ⟨⟨by decide +kernel, by decide +kernel⟩, List.mem_of_getElem? (i := 18) (by decide +kernel), List.mem_of_getElem? (i := 458) (by decide +kernel), List.mem_of_getElem? (i := 459) (by decide +kernel)⟩
theorem lw_p12 : lw_okq (⟨"OneTriangle$Ways", "pass", "(II)V"⟩, 8) := ⟨⟨by decide +kernel, by decide +kernel⟩, List.mem_of_getElem? (i := 113) (by decide +kernel), List.mem_of_getElem? (i := 476) (by decide +kernel), List.mem_of_getElem? (i := 477) (by decide +kernel)⟩
theorem lw_p13 : lw_okq (⟨"OneTriangle$Ways", "addSaid", "(IIJ)V"⟩, 8) := ⟨⟨by decide +kernel, by decide +kernel⟩, List.mem_of_getElem? (i := 113) (by decide +kernel), List.mem_of_getElem? (i := 490) (by decide +kernel), List.mem_of_getElem? (i := 491) (by decide +kernel)⟩
theorem lw_p14 : lw_okq (⟨"OneTriangle", "costAbove", "(I)J"⟩, 13) := ⟨⟨by decide +kernel, by decide +kernel⟩, List.mem_of_getElem? (i := 18) (by decide +kernel), List.mem_of_getElem? (i := 528) (by decide +kernel), List.mem_of_getElem? (i := 529) (by decide +kernel)⟩
theorem lw_p15 : lw_okq (⟨"OneTriangle$Spread", "drift", "(III)V"⟩, 3) := ⟨⟨by decide +kernel, by decide +kernel⟩, List.mem_of_getElem? (i := 145) (by decide +kernel), List.mem_of_getElem? (i := 555) (by decide +kernel), List.mem_of_getElem? (i := 556) (by decide +kernel)⟩
def lw_privs_1 : List (MethodName × Nat) := [(⟨"OneTriangle$Piece", "understand", "()V"⟩, 10), (⟨"OneTriangle$Piece", "byteAt", "(I)I"⟩, 10), (⟨"OneTriangle$Piece", "passed", "(I)I"⟩, 10), (⟨"OneTriangle$Piece", "passedPlain", "(I)I"⟩, 10), (⟨"OneTriangle$Piece", "faultAt", "(I)I"⟩, 10), (⟨"OneTriangle$Piece", "addBars", "(II)Z"⟩, 10), (⟨"OneTriangle$Piece", "passedLoose", "(II)I"⟩, 10), (⟨"OneTriangle$Piece", "passedCue", "(I)I"⟩, 10), (⟨"OneTriangle", "sheetAt", "(I)LOneTriangle$Sheet;"⟩, 13), (⟨"OneTriangle", "found", "(I)I"⟩, 13), (⟨"OneTriangle", "addNote", "(III)I"⟩, 13), (⟨"OneTriangle", "refreshWays", "()V"⟩, 13), (⟨"OneTriangle$Ways", "pass", "(II)V"⟩, 8), (⟨"OneTriangle$Ways", "addSaid", "(IIJ)V"⟩, 8), (⟨"OneTriangle", "costAbove", "(I)J"⟩, 13), (⟨"OneTriangle$Spread", "drift", "(III)V"⟩, 3)]
theorem lw_r1 : ∀ q ∈ lw_privs_1, lw_okq q := List.forall_mem_cons.mpr ⟨lw_p0, List.forall_mem_cons.mpr ⟨lw_p1, List.forall_mem_cons.mpr ⟨lw_p2, List.forall_mem_cons.mpr ⟨lw_p3, List.forall_mem_cons.mpr ⟨lw_p4, List.forall_mem_cons.mpr ⟨lw_p5, List.forall_mem_cons.mpr ⟨lw_p6, List.forall_mem_cons.mpr ⟨lw_p7, List.forall_mem_cons.mpr ⟨lw_p8, List.forall_mem_cons.mpr ⟨lw_p9, List.forall_mem_cons.mpr ⟨lw_p10, List.forall_mem_cons.mpr ⟨lw_p11, List.forall_mem_cons.mpr ⟨lw_p12, List.forall_mem_cons.mpr ⟨lw_p13, List.forall_mem_cons.mpr ⟨lw_p14, List.forall_mem_cons.mpr ⟨lw_p15, fun _ h => absurd h List.not_mem_nil⟩⟩⟩⟩⟩⟩⟩⟩⟩⟩⟩⟩⟩⟩⟩⟩
theorem lw_p16 : lw_okq (⟨"OneTriangle$Spread", "gather", "(I)V"⟩, 3) := ⟨⟨by decide +kernel, by decide +kernel⟩, List.mem_of_getElem? (i := 145) (by decide +kernel), List.mem_of_getElem? (i := 564) (by decide +kernel), List.mem_of_getElem? (i := 565) (by decide +kernel)⟩
theorem lw_p17 : lw_okq (⟨"OneTriangle", "safety", "(I)J"⟩, 13) := ⟨⟨by decide +kernel, by decide +kernel⟩, List.mem_of_getElem? (i := 18) (by decide +kernel), List.mem_of_getElem? (i := 584) (by decide +kernel), List.mem_of_getElem? (i := 585) (by decide +kernel)⟩
theorem lw_p18 : lw_okq (⟨"OneTriangle", "comeTo", "(I)Z"⟩, 13) := ⟨⟨by decide +kernel, by decide +kernel⟩, List.mem_of_getElem? (i := 18) (by decide +kernel), List.mem_of_getElem? (i := 615) (by decide +kernel), List.mem_of_getElem? (i := 616) (by decide +kernel)⟩
theorem lw_p19 : lw_okq (⟨"OneTriangle", "trueLater", "()J"⟩, 13) := ⟨⟨by decide +kernel, by decide +kernel⟩, List.mem_of_getElem? (i := 18) (by decide +kernel), List.mem_of_getElem? (i := 620) (by decide +kernel), List.mem_of_getElem? (i := 621) (by decide +kernel)⟩
theorem lw_p20 : lw_okq (⟨"OneTriangle$Diary", "isWrong", "(I)Z"⟩, 3) := ⟨⟨by decide +kernel, by decide +kernel⟩, List.mem_of_getElem? (i := 184) (by decide +kernel), List.mem_of_getElem? (i := 683) (by decide +kernel), List.mem_of_getElem? (i := 684) (by decide +kernel)⟩
theorem lw_p21 : lw_okq (⟨"OneTriangle", "slipOfNight", "()I"⟩, 13) := ⟨⟨by decide +kernel, by decide +kernel⟩, List.mem_of_getElem? (i := 18) (by decide +kernel), List.mem_of_getElem? (i := 701) (by decide +kernel), List.mem_of_getElem? (i := 702) (by decide +kernel)⟩
theorem lw_p22 : lw_okq (⟨"OneTriangleModel", "faultNow", "()I"⟩, 36) := ⟨⟨by decide +kernel, by decide +kernel⟩, List.mem_of_getElem? (i := 788) (by decide +kernel), List.mem_of_getElem? (i := 923) (by decide +kernel), List.mem_of_getElem? (i := 924) (by decide +kernel)⟩
theorem lw_p23 : lw_okq (⟨"OneTriangleModel", "readsPiece", "()I"⟩, 36) := ⟨⟨by decide +kernel, by decide +kernel⟩, List.mem_of_getElem? (i := 788) (by decide +kernel), List.mem_of_getElem? (i := 927) (by decide +kernel), List.mem_of_getElem? (i := 928) (by decide +kernel)⟩
theorem lw_p24 : lw_okq (⟨"OneTriangleModel", "figureAt", "(I)I"⟩, 36) := ⟨⟨by decide +kernel, by decide +kernel⟩, List.mem_of_getElem? (i := 788) (by decide +kernel), List.mem_of_getElem? (i := 931) (by decide +kernel), List.mem_of_getElem? (i := 932) (by decide +kernel)⟩
theorem lw_p25 : lw_okq (⟨"OneTriangleModel", "adds", "(II)V"⟩, 36) := ⟨⟨by decide +kernel, by decide +kernel⟩, List.mem_of_getElem? (i := 788) (by decide +kernel), List.mem_of_getElem? (i := 935) (by decide +kernel), List.mem_of_getElem? (i := 936) (by decide +kernel)⟩
theorem lw_p26 : lw_okq (⟨"OneTriangleModel", "isBar", "(I)Z"⟩, 36) := ⟨⟨by decide +kernel, by decide +kernel⟩, List.mem_of_getElem? (i := 788) (by decide +kernel), List.mem_of_getElem? (i := 943) (by decide +kernel), List.mem_of_getElem? (i := 944) (by decide +kernel)⟩
theorem lw_p27 : lw_okq (⟨"OneTriangleModel", "reads", "()V"⟩, 36) := ⟨⟨by decide +kernel, by decide +kernel⟩, List.mem_of_getElem? (i := 788) (by decide +kernel), List.mem_of_getElem? (i := 947) (by decide +kernel), List.mem_of_getElem? (i := 948) (by decide +kernel)⟩
theorem lw_p28 : lw_okq (⟨"OneTriangleModel", "barOf", "(II)I"⟩, 36) := ⟨⟨by decide +kernel, by decide +kernel⟩, List.mem_of_getElem? (i := 788) (by decide +kernel), List.mem_of_getElem? (i := 951) (by decide +kernel), List.mem_of_getElem? (i := 952) (by decide +kernel)⟩
theorem lw_p29 : lw_okq (⟨"OneTriangleModel", "meets", "(I)I"⟩, 36) := ⟨⟨by decide +kernel, by decide +kernel⟩, List.mem_of_getElem? (i := 788) (by decide +kernel), List.mem_of_getElem? (i := 970) (by decide +kernel), List.mem_of_getElem? (i := 971) (by decide +kernel)⟩
theorem lw_p30 : lw_okq (⟨"OneTriangleModel", "notesMore", "(III)I"⟩, 36) := ⟨⟨by decide +kernel, by decide +kernel⟩, List.mem_of_getElem? (i := 788) (by decide +kernel), List.mem_of_getElem? (i := 981) (by decide +kernel), List.mem_of_getElem? (i := 982) (by decide +kernel)⟩
theorem lw_p31 : lw_okq (⟨"OneTriangleModel", "whereOf", "(III)J"⟩, 36) := ⟨⟨by decide +kernel, by decide +kernel⟩, List.mem_of_getElem? (i := 788) (by decide +kernel), List.mem_of_getElem? (i := 997) (by decide +kernel), List.mem_of_getElem? (i := 998) (by decide +kernel)⟩
def lw_privs_2 : List (MethodName × Nat) := [(⟨"OneTriangle$Spread", "gather", "(I)V"⟩, 3), (⟨"OneTriangle", "safety", "(I)J"⟩, 13), (⟨"OneTriangle", "comeTo", "(I)Z"⟩, 13), (⟨"OneTriangle", "trueLater", "()J"⟩, 13), (⟨"OneTriangle$Diary", "isWrong", "(I)Z"⟩, 3), (⟨"OneTriangle", "slipOfNight", "()I"⟩, 13), (⟨"OneTriangleModel", "faultNow", "()I"⟩, 36), (⟨"OneTriangleModel", "readsPiece", "()I"⟩, 36), (⟨"OneTriangleModel", "figureAt", "(I)I"⟩, 36), (⟨"OneTriangleModel", "adds", "(II)V"⟩, 36), (⟨"OneTriangleModel", "isBar", "(I)Z"⟩, 36), (⟨"OneTriangleModel", "reads", "()V"⟩, 36), (⟨"OneTriangleModel", "barOf", "(II)I"⟩, 36), (⟨"OneTriangleModel", "meets", "(I)I"⟩, 36), (⟨"OneTriangleModel", "notesMore", "(III)I"⟩, 36), (⟨"OneTriangleModel", "whereOf", "(III)J"⟩, 36)]
theorem lw_r2 : ∀ q ∈ lw_privs_2, lw_okq q := List.forall_mem_cons.mpr ⟨lw_p16, List.forall_mem_cons.mpr ⟨lw_p17, List.forall_mem_cons.mpr ⟨lw_p18, List.forall_mem_cons.mpr ⟨lw_p19, List.forall_mem_cons.mpr ⟨lw_p20, List.forall_mem_cons.mpr ⟨lw_p21, List.forall_mem_cons.mpr ⟨lw_p22, List.forall_mem_cons.mpr ⟨lw_p23, List.forall_mem_cons.mpr ⟨lw_p24, List.forall_mem_cons.mpr ⟨lw_p25, List.forall_mem_cons.mpr ⟨lw_p26, List.forall_mem_cons.mpr ⟨lw_p27, List.forall_mem_cons.mpr ⟨lw_p28, List.forall_mem_cons.mpr ⟨lw_p29, List.forall_mem_cons.mpr ⟨lw_p30, List.forall_mem_cons.mpr ⟨lw_p31, fun _ h => absurd h List.not_mem_nil⟩⟩⟩⟩⟩⟩⟩⟩⟩⟩⟩⟩⟩⟩⟩⟩
theorem lw_p32 : lw_okq (⟨"OneTriangleModel", "findsWhere", "(I)V"⟩, 36) := ⟨⟨by decide +kernel, by decide +kernel⟩, List.mem_of_getElem? (i := 788) (by decide +kernel), List.mem_of_getElem? (i := 1001) (by decide +kernel), List.mem_of_getElem? (i := 1002) (by decide +kernel)⟩
theorem lw_p33 : lw_okq (⟨"OneTriangleModel", "saysOdds", "(II)I"⟩, 36) := ⟨⟨by decide +kernel, by decide +kernel⟩, List.mem_of_getElem? (i := 788) (by decide +kernel), List.mem_of_getElem? (i := 1006) (by decide +kernel), List.mem_of_getElem? (i := 1007) (by decide +kernel)⟩
theorem lw_p34 : lw_okq (⟨"OneTriangleModel", "notesWeigh", "(II)J"⟩, 36) := ⟨⟨by decide +kernel, by decide +kernel⟩, List.mem_of_getElem? (i := 788) (by decide +kernel), List.mem_of_getElem? (i := 1010) (by decide +kernel), List.mem_of_getElem? (i := 1011) (by decide +kernel)⟩
theorem lw_p35 : lw_okq (⟨"OneTriangleModel", "likeliestOf", "(I)I"⟩, 36) := ⟨⟨by decide +kernel, by decide +kernel⟩, List.mem_of_getElem? (i := 788) (by decide +kernel), List.mem_of_getElem? (i := 1025) (by decide +kernel), List.mem_of_getElem? (i := 1026) (by decide +kernel)⟩
theorem lw_p36 : lw_okq (⟨"OneTriangleModel", "strikeOf", "(II)J"⟩, 36) := ⟨⟨by decide +kernel, by decide +kernel⟩, List.mem_of_getElem? (i := 788) (by decide +kernel), List.mem_of_getElem? (i := 1033) (by decide +kernel), List.mem_of_getElem? (i := 1034) (by decide +kernel)⟩
theorem lw_p37 : lw_okq (⟨"OneTriangleModel", "lineNow", "()I"⟩, 36) := ⟨⟨by decide +kernel, by decide +kernel⟩, List.mem_of_getElem? (i := 788) (by decide +kernel), List.mem_of_getElem? (i := 1041) (by decide +kernel), List.mem_of_getElem? (i := 1042) (by decide +kernel)⟩
theorem lw_p38 : lw_okq (⟨"OneTriangleModel", "slipsOf", "(III)J"⟩, 36) := ⟨⟨by decide +kernel, by decide +kernel⟩, List.mem_of_getElem? (i := 788) (by decide +kernel), List.mem_of_getElem? (i := 1052) (by decide +kernel), List.mem_of_getElem? (i := 1053) (by decide +kernel)⟩
theorem lw_p39 : lw_okq (⟨"OneTriangleModel", "findsSlips", "(III)V"⟩, 36) := ⟨⟨by decide +kernel, by decide +kernel⟩, List.mem_of_getElem? (i := 788) (by decide +kernel), List.mem_of_getElem? (i := 1056) (by decide +kernel), List.mem_of_getElem? (i := 1057) (by decide +kernel)⟩
theorem lw_p40 : lw_okq (⟨"OneTriangleModel", "slipLoose", "(II)V"⟩, 36) := ⟨⟨by decide +kernel, by decide +kernel⟩, List.mem_of_getElem? (i := 788) (by decide +kernel), List.mem_of_getElem? (i := 1060) (by decide +kernel), List.mem_of_getElem? (i := 1061) (by decide +kernel)⟩
theorem lw_p41 : lw_okq (⟨"OneTriangleModel", "missedIn", "(II)I"⟩, 36) := ⟨⟨by decide +kernel, by decide +kernel⟩, List.mem_of_getElem? (i := 788) (by decide +kernel), List.mem_of_getElem? (i := 1064) (by decide +kernel), List.mem_of_getElem? (i := 1065) (by decide +kernel)⟩
theorem lw_p42 : lw_okq (⟨"OneTriangleModel", "isSome", "(I)Z"⟩, 36) := ⟨⟨by decide +kernel, by decide +kernel⟩, List.mem_of_getElem? (i := 788) (by decide +kernel), List.mem_of_getElem? (i := 1075) (by decide +kernel), List.mem_of_getElem? (i := 1076) (by decide +kernel)⟩
theorem lw_p43 : lw_okq (⟨"OneTriangleModel", "safeOf", "(II)J"⟩, 36) := ⟨⟨by decide +kernel, by decide +kernel⟩, List.mem_of_getElem? (i := 788) (by decide +kernel), List.mem_of_getElem? (i := 1082) (by decide +kernel), List.mem_of_getElem? (i := 1083) (by decide +kernel)⟩
theorem lw_p44 : lw_okq (⟨"OneTriangleModel", "safeBy", "(I)J"⟩, 36) := ⟨⟨by decide +kernel, by decide +kernel⟩, List.mem_of_getElem? (i := 788) (by decide +kernel), List.mem_of_getElem? (i := 1086) (by decide +kernel), List.mem_of_getElem? (i := 1087) (by decide +kernel)⟩
theorem lw_p45 : lw_okq (⟨"OneTriangleModel", "cuesNow", "()I"⟩, 36) := ⟨⟨by decide +kernel, by decide +kernel⟩, List.mem_of_getElem? (i := 788) (by decide +kernel), List.mem_of_getElem? (i := 1094) (by decide +kernel), List.mem_of_getElem? (i := 1095) (by decide +kernel)⟩
theorem lw_p46 : lw_okq (⟨"OneTriangleModel", "writeOf", "(I)I"⟩, 36) := ⟨⟨by decide +kernel, by decide +kernel⟩, List.mem_of_getElem? (i := 788) (by decide +kernel), List.mem_of_getElem? (i := 1098) (by decide +kernel), List.mem_of_getElem? (i := 1099) (by decide +kernel)⟩
theorem lw_p47 : lw_okq (⟨"OneTriangleModel", "fewOf", "(I)I"⟩, 36) := ⟨⟨by decide +kernel, by decide +kernel⟩, List.mem_of_getElem? (i := 788) (by decide +kernel), List.mem_of_getElem? (i := 1107) (by decide +kernel), List.mem_of_getElem? (i := 1108) (by decide +kernel)⟩
def lw_privs_3 : List (MethodName × Nat) := [(⟨"OneTriangleModel", "findsWhere", "(I)V"⟩, 36), (⟨"OneTriangleModel", "saysOdds", "(II)I"⟩, 36), (⟨"OneTriangleModel", "notesWeigh", "(II)J"⟩, 36), (⟨"OneTriangleModel", "likeliestOf", "(I)I"⟩, 36), (⟨"OneTriangleModel", "strikeOf", "(II)J"⟩, 36), (⟨"OneTriangleModel", "lineNow", "()I"⟩, 36), (⟨"OneTriangleModel", "slipsOf", "(III)J"⟩, 36), (⟨"OneTriangleModel", "findsSlips", "(III)V"⟩, 36), (⟨"OneTriangleModel", "slipLoose", "(II)V"⟩, 36), (⟨"OneTriangleModel", "missedIn", "(II)I"⟩, 36), (⟨"OneTriangleModel", "isSome", "(I)Z"⟩, 36), (⟨"OneTriangleModel", "safeOf", "(II)J"⟩, 36), (⟨"OneTriangleModel", "safeBy", "(I)J"⟩, 36), (⟨"OneTriangleModel", "cuesNow", "()I"⟩, 36), (⟨"OneTriangleModel", "writeOf", "(I)I"⟩, 36), (⟨"OneTriangleModel", "fewOf", "(I)I"⟩, 36)]
theorem lw_r3 : ∀ q ∈ lw_privs_3, lw_okq q := List.forall_mem_cons.mpr ⟨lw_p32, List.forall_mem_cons.mpr ⟨lw_p33, List.forall_mem_cons.mpr ⟨lw_p34, List.forall_mem_cons.mpr ⟨lw_p35, List.forall_mem_cons.mpr ⟨lw_p36, List.forall_mem_cons.mpr ⟨lw_p37, List.forall_mem_cons.mpr ⟨lw_p38, List.forall_mem_cons.mpr ⟨lw_p39, List.forall_mem_cons.mpr ⟨lw_p40, List.forall_mem_cons.mpr ⟨lw_p41, List.forall_mem_cons.mpr ⟨lw_p42, List.forall_mem_cons.mpr ⟨lw_p43, List.forall_mem_cons.mpr ⟨lw_p44, List.forall_mem_cons.mpr ⟨lw_p45, List.forall_mem_cons.mpr ⟨lw_p46, List.forall_mem_cons.mpr ⟨lw_p47, fun _ h => absurd h List.not_mem_nil⟩⟩⟩⟩⟩⟩⟩⟩⟩⟩⟩⟩⟩⟩⟩⟩
theorem lw_p48 : lw_okq (⟨"OneTriangleModel", "anewOf", "(I)I"⟩, 36) := ⟨⟨by decide +kernel, by decide +kernel⟩, List.mem_of_getElem? (i := 788) (by decide +kernel), List.mem_of_getElem? (i := 1115) (by decide +kernel), List.mem_of_getElem? (i := 1116) (by decide +kernel)⟩
theorem lw_p49 : lw_okq (⟨"OneTriangleModel", "eveningOf", "(II)J"⟩, 36) := ⟨⟨by decide +kernel, by decide +kernel⟩, List.mem_of_getElem? (i := 788) (by decide +kernel), List.mem_of_getElem? (i := 1127) (by decide +kernel), List.mem_of_getElem? (i := 1128) (by decide +kernel)⟩
theorem lw_p50 : lw_okq (⟨"OneTriangleModel", "eveningBy", "(I)J"⟩, 36) := ⟨⟨by decide +kernel, by decide +kernel⟩, List.mem_of_getElem? (i := 788) (by decide +kernel), List.mem_of_getElem? (i := 1131) (by decide +kernel), List.mem_of_getElem? (i := 1132) (by decide +kernel)⟩
theorem lw_p51 : lw_okq (⟨"OneTriangleModel", "primeOf", "(I)I"⟩, 36) := ⟨⟨by decide +kernel, by decide +kernel⟩, List.mem_of_getElem? (i := 788) (by decide +kernel), List.mem_of_getElem? (i := 1139) (by decide +kernel), List.mem_of_getElem? (i := 1140) (by decide +kernel)⟩
theorem lw_p52 : lw_okq (⟨"OneTriangleModel", "worthOf", "(I)I"⟩, 36) := ⟨⟨by decide +kernel, by decide +kernel⟩, List.mem_of_getElem? (i := 788) (by decide +kernel), List.mem_of_getElem? (i := 1155) (by decide +kernel), List.mem_of_getElem? (i := 1156) (by decide +kernel)⟩
theorem lw_p53 : lw_okq (⟨"OneTriangleModel", "looksBy", "(I)I"⟩, 36) := ⟨⟨by decide +kernel, by decide +kernel⟩, List.mem_of_getElem? (i := 788) (by decide +kernel), List.mem_of_getElem? (i := 1159) (by decide +kernel), List.mem_of_getElem? (i := 1160) (by decide +kernel)⟩
theorem lw_p54 : lw_okq (⟨"OneTriangleModel", "lookOf", "(I)I"⟩, 36) := ⟨⟨by decide +kernel, by decide +kernel⟩, List.mem_of_getElem? (i := 788) (by decide +kernel), List.mem_of_getElem? (i := 1167) (by decide +kernel), List.mem_of_getElem? (i := 1168) (by decide +kernel)⟩
theorem lw_p55 : lw_okq (⟨"OneTriangleModel", "wrongOf", "(I)I"⟩, 36) := ⟨⟨by decide +kernel, by decide +kernel⟩, List.mem_of_getElem? (i := 788) (by decide +kernel), List.mem_of_getElem? (i := 1183) (by decide +kernel), List.mem_of_getElem? (i := 1184) (by decide +kernel)⟩
theorem lw_p56 : lw_okq (⟨"OneTriangleModel", "blameNow", "()I"⟩, 36) := ⟨⟨by decide +kernel, by decide +kernel⟩, List.mem_of_getElem? (i := 788) (by decide +kernel), List.mem_of_getElem? (i := 1191) (by decide +kernel), List.mem_of_getElem? (i := 1192) (by decide +kernel)⟩
theorem lw_p57 : lw_okq (⟨"OneTriangleModel", "nightOf", "(II)I"⟩, 36) := ⟨⟨by decide +kernel, by decide +kernel⟩, List.mem_of_getElem? (i := 788) (by decide +kernel), List.mem_of_getElem? (i := 1199) (by decide +kernel), List.mem_of_getElem? (i := 1200) (by decide +kernel)⟩
theorem lw_p58 : lw_okq (⟨"OneTriangleModel", "lacks", "(III)I"⟩, 36) := ⟨⟨by decide +kernel, by decide +kernel⟩, List.mem_of_getElem? (i := 788) (by decide +kernel), List.mem_of_getElem? (i := 1216) (by decide +kernel), List.mem_of_getElem? (i := 1217) (by decide +kernel)⟩
theorem lw_p59 : lw_okq (⟨"OneTriangleModel", "keep", "(III)V"⟩, 36) := ⟨⟨by decide +kernel, by decide +kernel⟩, List.mem_of_getElem? (i := 788) (by decide +kernel), List.mem_of_getElem? (i := 1220) (by decide +kernel), List.mem_of_getElem? (i := 1221) (by decide +kernel)⟩
theorem lw_p60 : lw_okq (⟨"OneTriangleModel", "readsMany", "(I)I"⟩, 36) := ⟨⟨by decide +kernel, by decide +kernel⟩, List.mem_of_getElem? (i := 788) (by decide +kernel), List.mem_of_getElem? (i := 1241) (by decide +kernel), List.mem_of_getElem? (i := 1242) (by decide +kernel)⟩
theorem lw_p61 : lw_okq (⟨"OneTriangleModel", "numberDigest", "(JI)J"⟩, 36) := ⟨⟨by decide +kernel, by decide +kernel⟩, List.mem_of_getElem? (i := 788) (by decide +kernel), List.mem_of_getElem? (i := 1252) (by decide +kernel), List.mem_of_getElem? (i := 1253) (by decide +kernel)⟩
def lw_privs_4 : List (MethodName × Nat) := [(⟨"OneTriangleModel", "anewOf", "(I)I"⟩, 36), (⟨"OneTriangleModel", "eveningOf", "(II)J"⟩, 36), (⟨"OneTriangleModel", "eveningBy", "(I)J"⟩, 36), (⟨"OneTriangleModel", "primeOf", "(I)I"⟩, 36), (⟨"OneTriangleModel", "worthOf", "(I)I"⟩, 36), (⟨"OneTriangleModel", "looksBy", "(I)I"⟩, 36), (⟨"OneTriangleModel", "lookOf", "(I)I"⟩, 36), (⟨"OneTriangleModel", "wrongOf", "(I)I"⟩, 36), (⟨"OneTriangleModel", "blameNow", "()I"⟩, 36), (⟨"OneTriangleModel", "nightOf", "(II)I"⟩, 36), (⟨"OneTriangleModel", "lacks", "(III)I"⟩, 36), (⟨"OneTriangleModel", "keep", "(III)V"⟩, 36), (⟨"OneTriangleModel", "readsMany", "(I)I"⟩, 36), (⟨"OneTriangleModel", "numberDigest", "(JI)J"⟩, 36)]
theorem lw_r4 : ∀ q ∈ lw_privs_4, lw_okq q := List.forall_mem_cons.mpr ⟨lw_p48, List.forall_mem_cons.mpr ⟨lw_p49, List.forall_mem_cons.mpr ⟨lw_p50, List.forall_mem_cons.mpr ⟨lw_p51, List.forall_mem_cons.mpr ⟨lw_p52, List.forall_mem_cons.mpr ⟨lw_p53, List.forall_mem_cons.mpr ⟨lw_p54, List.forall_mem_cons.mpr ⟨lw_p55, List.forall_mem_cons.mpr ⟨lw_p56, List.forall_mem_cons.mpr ⟨lw_p57, List.forall_mem_cons.mpr ⟨lw_p58, List.forall_mem_cons.mpr ⟨lw_p59, List.forall_mem_cons.mpr ⟨lw_p60, List.forall_mem_cons.mpr ⟨lw_p61, fun _ h => absurd h List.not_mem_nil⟩⟩⟩⟩⟩⟩⟩⟩⟩⟩⟩⟩⟩⟩
def lw_privs : List (MethodName × Nat) := lw_privs_1 ++ (lw_privs_2 ++ (lw_privs_3 ++ (lw_privs_4)))
def lw_tbl : List Cond := k2_sels lw_privs ++ tables_1
theorem lw_privs_ok : ∀ q ∈ lw_privs, lw_okq q := by
  show ∀ q ∈ lw_privs_1 ++ (lw_privs_2 ++ (lw_privs_3 ++ (lw_privs_4))), lw_okq q
  exact List.forall_mem_append.mpr ⟨lw_r1, List.forall_mem_append.mpr ⟨lw_r2, List.forall_mem_append.mpr ⟨lw_r3, lw_r4⟩⟩⟩
def RX0 : String := "OneTriangle$Diary"
def TX0 : u_T := fun k => match k with
  | 0 => ("OneTriangle$Diary", "numbers", "[I", true)
  | 1 => ("OneTriangle$Diary", "size", "I", false)
  | _ => ("OneTriangle$Diary", "firstBar", "I", false)
def tyX0 : Nat → FieldType := fun k => match k with
  | 0 => .array .int
  | 1 => .int
  | _ => .int
theorem nmX0 : ∀ a, a < 3 → ∀ b, b < 3 → a ≠ b → (TX0 a).2.1 ≠ (TX0 b).2.1 := by decide +kernel
theorem tyX0_ok : ∀ k, k < 3 → parseFieldDescriptor (TX0 k).2.2.1 = some (tyX0 k) := by decide +kernel
abbrev cX0_init : ByteArray := prog_2_method_1_code
def yX0_init : MethodName := ⟨RX0, "<init>", "()V"⟩
abbrev cX0_clear : ByteArray := prog_2_method_2_code
def yX0_clear : MethodName := ⟨RX0, "clear", "()V"⟩
abbrev cX0_append : ByteArray := prog_2_method_3_code
def yX0_append : MethodName := ⟨RX0, "append", "(I)Z"⟩
abbrev cX0_firstWrong : ByteArray := prog_2_method_4_code
def yX0_firstWrong : MethodName := ⟨RX0, "firstWrong", "()I"⟩
abbrev cX0_allWrong : ByteArray := prog_2_method_5_code
def yX0_allWrong : MethodName := ⟨RX0, "allWrong", "()I"⟩
abbrev cX0_isWrong : ByteArray := prog_2_method_6_code
def yX0_isWrong : MethodName := ⟨RX0, "isWrong", "(I)Z"⟩
def RX1 : String := "OneTriangle$Lots"
def TX1 : u_T := fun k => match k with
  | _ => ("OneTriangle$Lots", "seed", "I", false)
def tyX1 : Nat → FieldType := fun k => match k with
  | _ => .int
theorem nmX1 : ∀ a, a < 1 → ∀ b, b < 1 → a ≠ b → (TX1 a).2.1 ≠ (TX1 b).2.1 := by decide +kernel
theorem tyX1_ok : ∀ k, k < 1 → parseFieldDescriptor (TX1 k).2.2.1 = some (tyX1 k) := by decide +kernel
abbrev cX1_init : ByteArray := prog_3_method_1_code
def yX1_init : MethodName := ⟨RX1, "<init>", "()V"⟩
abbrev cX1_draw : ByteArray := prog_3_method_2_code
def yX1_draw : MethodName := ⟨RX1, "draw", "()I"⟩
def RX2 : String := "OneTriangle$Notes"
def TX2 : u_T := fun k => match k with
  | 0 => ("OneTriangle$Notes", "numbers", "[I", true)
  | 1 => ("OneTriangle$Notes", "tunes", "[I", true)
  | 2 => ("OneTriangle$Notes", "shownBars", "[I", true)
  | _ => ("OneTriangle$Notes", "size", "I", false)
def tyX2 : Nat → FieldType := fun k => match k with
  | 0 => .array .int
  | 1 => .array .int
  | 2 => .array .int
  | _ => .int
theorem nmX2 : ∀ a, a < 4 → ∀ b, b < 4 → a ≠ b → (TX2 a).2.1 ≠ (TX2 b).2.1 := by decide +kernel
theorem tyX2_ok : ∀ k, k < 4 → parseFieldDescriptor (TX2 k).2.2.1 = some (tyX2 k) := by decide +kernel
abbrev cX2_init : ByteArray := prog_4_method_1_code
def yX2_init : MethodName := ⟨RX2, "<init>", "()V"⟩
abbrev cX2_append : ByteArray := prog_4_method_2_code
def yX2_append : MethodName := ⟨RX2, "append", "(III)Z"⟩
abbrev cX2_weigh : ByteArray := prog_4_method_3_code
def yX2_weigh : MethodName := ⟨RX2, "weigh", "(IIILOneTriangle$Settings;)J"⟩
def RX3 : String := "OneTriangle$Odds"
def TX3 : u_T := fun k => match k with
  | 0 => ("OneTriangle$Odds", "missed", "[I", true)
  | _ => ("OneTriangle$Odds", "doubled", "[I", true)
def tyX3 : Nat → FieldType := fun k => match k with
  | 0 => .array .int
  | _ => .array .int
theorem nmX3 : ∀ a, a < 2 → ∀ b, b < 2 → a ≠ b → (TX3 a).2.1 ≠ (TX3 b).2.1 := by decide +kernel
theorem tyX3_ok : ∀ k, k < 2 → parseFieldDescriptor (TX3 k).2.2.1 = some (tyX3 k) := by decide +kernel
abbrev cX3_init : ByteArray := prog_5_method_1_code
def yX3_init : MethodName := ⟨RX3, "<init>", "()V"⟩
abbrev cX3_missedOf : ByteArray := prog_5_method_2_code
def yX3_missedOf : MethodName := ⟨RX3, "missedOf", "(I)I"⟩
abbrev cX3_doubledOf : ByteArray := prog_5_method_3_code
def yX3_doubledOf : MethodName := ⟨RX3, "doubledOf", "(I)I"⟩
abbrev cX3_become : ByteArray := prog_5_method_4_code
def yX3_become : MethodName := ⟨RX3, "become", "(III)V"⟩
def RX4 : String := "OneTriangle$Piece"
def TX4 : u_T := fun k => match k with
  | 0 => ("OneTriangle$Piece", "bytes", "[I", true)
  | 1 => ("OneTriangle$Piece", "kinds", "[I", true)
  | 2 => ("OneTriangle$Piece", "cueByBar", "[I", true)
  | 3 => ("OneTriangle$Piece", "tunes", "[I", true)
  | 4 => ("OneTriangle$Piece", "barByCue", "[I", true)
  | 5 => ("OneTriangle$Piece", "size", "I", false)
  | 6 => ("OneTriangle$Piece", "bars", "I", false)
  | 7 => ("OneTriangle$Piece", "loose", "I", false)
  | 8 => ("OneTriangle$Piece", "cues", "I", false)
  | _ => ("OneTriangle$Piece", "faultPlace", "I", false)
def tyX4 : Nat → FieldType := fun k => match k with
  | 0 => .array .int
  | 1 => .array .int
  | 2 => .array .int
  | 3 => .array .int
  | 4 => .array .int
  | 5 => .int
  | 6 => .int
  | 7 => .int
  | 8 => .int
  | _ => .int
theorem nmX4 : ∀ a, a < 10 → ∀ b, b < 10 → a ≠ b → (TX4 a).2.1 ≠ (TX4 b).2.1 := by decide +kernel
theorem tyX4_ok : ∀ k, k < 10 → parseFieldDescriptor (TX4 k).2.2.1 = some (tyX4 k) := by decide +kernel
abbrev cX4_init : ByteArray := prog_6_method_1_code
def yX4_init : MethodName := ⟨RX4, "<init>", "()V"⟩
abbrev cX4_append : ByteArray := prog_6_method_2_code
def yX4_append : MethodName := ⟨RX4, "append", "(I)Z"⟩
abbrev cX4_shorten : ByteArray := prog_6_method_3_code
def yX4_shorten : MethodName := ⟨RX4, "shorten", "(I)V"⟩
abbrev cX4_hasBar : ByteArray := prog_6_method_4_code
def yX4_hasBar : MethodName := ⟨RX4, "hasBar", "(I)Z"⟩
abbrev cX4_isLoose : ByteArray := prog_6_method_5_code
def yX4_isLoose : MethodName := ⟨RX4, "isLoose", "(I)Z"⟩
abbrev cX4_kindOf : ByteArray := prog_6_method_6_code
def yX4_kindOf : MethodName := ⟨RX4, "kindOf", "(I)I"⟩
abbrev cX4_cueIn : ByteArray := prog_6_method_7_code
def yX4_cueIn : MethodName := ⟨RX4, "cueIn", "(I)I"⟩
abbrev cX4_tuneOf : ByteArray := prog_6_method_8_code
def yX4_tuneOf : MethodName := ⟨RX4, "tuneOf", "(I)I"⟩
abbrev cX4_barOf : ByteArray := prog_6_method_9_code
def yX4_barOf : MethodName := ⟨RX4, "barOf", "(I)I"⟩
abbrev cX4_understand : ByteArray := prog_6_method_10_code
def yX4_understand : MethodName := ⟨RX4, "understand", "()V"⟩
abbrev cX4_byteAt : ByteArray := prog_6_method_11_code
def yX4_byteAt : MethodName := ⟨RX4, "byteAt", "(I)I"⟩
abbrev cX4_passed : ByteArray := prog_6_method_12_code
def yX4_passed : MethodName := ⟨RX4, "passed", "(I)I"⟩
abbrev cX4_passedPlain : ByteArray := prog_6_method_13_code
def yX4_passedPlain : MethodName := ⟨RX4, "passedPlain", "(I)I"⟩
abbrev cX4_passedLoose : ByteArray := prog_6_method_14_code
def yX4_passedLoose : MethodName := ⟨RX4, "passedLoose", "(II)I"⟩
abbrev cX4_passedCue : ByteArray := prog_6_method_15_code
def yX4_passedCue : MethodName := ⟨RX4, "passedCue", "(I)I"⟩
abbrev cX4_addBars : ByteArray := prog_6_method_16_code
def yX4_addBars : MethodName := ⟨RX4, "addBars", "(II)Z"⟩
abbrev cX4_faultAt : ByteArray := prog_6_method_17_code
def yX4_faultAt : MethodName := ⟨RX4, "faultAt", "(I)I"⟩
def RX5 : String := "OneTriangle$Players"
def TX5 : u_T := fun k => match k with
  | 0 => ("OneTriangle$Players", "bars", "[I", true)
  | 1 => ("OneTriangle$Players", "worths", "[I", true)
  | 2 => ("OneTriangle$Players", "order", "[I", true)
  | 3 => ("OneTriangle$Players", "looks", "[I", true)
  | _ => ("OneTriangle$Players", "size", "I", false)
def tyX5 : Nat → FieldType := fun k => match k with
  | 0 => .array .int
  | 1 => .array .int
  | 2 => .array .int
  | 3 => .array .int
  | _ => .int
theorem nmX5 : ∀ a, a < 5 → ∀ b, b < 5 → a ≠ b → (TX5 a).2.1 ≠ (TX5 b).2.1 := by decide +kernel
theorem tyX5_ok : ∀ k, k < 5 → parseFieldDescriptor (TX5 k).2.2.1 = some (tyX5 k) := by decide +kernel
abbrev cX5_init : ByteArray := prog_7_method_1_code
def yX5_init : MethodName := ⟨RX5, "<init>", "()V"⟩
abbrev cX5_append : ByteArray := prog_7_method_2_code
def yX5_append : MethodName := ⟨RX5, "append", "(II)Z"⟩
abbrev cX5_bestBits : ByteArray := prog_7_method_3_code
def yX5_bestBits : MethodName := ⟨RX5, "bestBits", "()I"⟩
abbrev cX5_plan : ByteArray := prog_7_method_4_code
def yX5_plan : MethodName := ⟨RX5, "plan", "(I)I"⟩
abbrev cX5_lookedAtIn : ByteArray := prog_7_method_5_code
def yX5_lookedAtIn : MethodName := ⟨RX5, "lookedAtIn", "(I)I"⟩
def RX6 : String := "OneTriangle$Settings"
def TX6 : u_T := fun k => match k with
  | _ => ("OneTriangle$Settings", "values", "[I", true)
def tyX6 : Nat → FieldType := fun k => match k with
  | _ => .array .int
theorem nmX6 : ∀ a, a < 1 → ∀ b, b < 1 → a ≠ b → (TX6 a).2.1 ≠ (TX6 b).2.1 := by decide +kernel
theorem tyX6_ok : ∀ k, k < 1 → parseFieldDescriptor (TX6 k).2.2.1 = some (tyX6 k) := by decide +kernel
abbrev cX6_init : ByteArray := prog_8_method_1_code
def yX6_init : MethodName := ⟨RX6, "<init>", "()V"⟩
abbrev cX6_most : ByteArray := prog_8_method_2_code
def yX6_most : MethodName := ⟨RX6, "most", "(I)I"⟩
abbrev cX6_valueOf : ByteArray := prog_8_method_3_code
def yX6_valueOf : MethodName := ⟨RX6, "valueOf", "(I)I"⟩
abbrev cX6_become : ByteArray := prog_8_method_4_code
def yX6_become : MethodName := ⟨RX6, "become", "(II)V"⟩
def RX7 : String := "OneTriangle$Sheet"
def TX7 : u_T := fun k => match k with
  | 0 => ("OneTriangle$Sheet", "items", "[I", true)
  | 1 => ("OneTriangle$Sheet", "lost", "Z", false)
  | 2 => ("OneTriangle$Sheet", "form", "I", false)
  | _ => ("OneTriangle$Sheet", "size", "I", false)
def tyX7 : Nat → FieldType := fun k => match k with
  | 0 => .array .int
  | 1 => .boolean
  | 2 => .int
  | _ => .int
theorem nmX7 : ∀ a, a < 4 → ∀ b, b < 4 → a ≠ b → (TX7 a).2.1 ≠ (TX7 b).2.1 := by decide +kernel
theorem tyX7_ok : ∀ k, k < 4 → parseFieldDescriptor (TX7 k).2.2.1 = some (tyX7 k) := by decide +kernel
abbrev cX7_init : ByteArray := prog_9_method_1_code
def yX7_init : MethodName := ⟨RX7, "<init>", "()V"⟩
abbrev cX7_renew : ByteArray := prog_9_method_2_code
def yX7_renew : MethodName := ⟨RX7, "renew", "(II)V"⟩
abbrev cX7_findingAt : ByteArray := prog_9_method_3_code
def yX7_findingAt : MethodName := ⟨RX7, "findingAt", "(II)I"⟩
abbrev cX7_hasItems : ByteArray := prog_9_method_4_code
def yX7_hasItems : MethodName := ⟨RX7, "hasItems", "(II)Z"⟩
abbrev cX7_itemOf : ByteArray := prog_9_method_5_code
def yX7_itemOf : MethodName := ⟨RX7, "itemOf", "(I)I"⟩
abbrev cX7_become : ByteArray := prog_9_method_6_code
def yX7_become : MethodName := ⟨RX7, "become", "(II)V"⟩
def RX8 : String := "OneTriangle$Spread"
def TX8 : u_T := fun k => match k with
  | 0 => ("OneTriangle$Spread", "piece", "LOneTriangle$Piece;", true)
  | 1 => ("OneTriangle$Spread", "now", "[J", true)
  | _ => ("OneTriangle$Spread", "next", "[J", true)
def tyX8 : Nat → FieldType := fun k => match k with
  | 0 => .object "OneTriangle$Piece"
  | 1 => .array .long
  | _ => .array .long
theorem nmX8 : ∀ a, a < 3 → ∀ b, b < 3 → a ≠ b → (TX8 a).2.1 ≠ (TX8 b).2.1 := by decide +kernel
theorem tyX8_ok : ∀ k, k < 3 → parseFieldDescriptor (TX8 k).2.2.1 = some (tyX8 k) := by decide +kernel
abbrev cX8_init : ByteArray := prog_10_method_1_code
def yX8_init : MethodName := ⟨RX8, "<init>", "(LOneTriangle$Piece;)V"⟩
abbrev cX8_chanceOf : ByteArray := prog_10_method_2_code
def yX8_chanceOf : MethodName := ⟨RX8, "chanceOf", "(I)J"⟩
abbrev cX8_walk : ByteArray := prog_10_method_3_code
def yX8_walk : MethodName := ⟨RX8, "walk", "(LOneTriangle$Odds;III)V"⟩
abbrev cX8_drift : ByteArray := prog_10_method_4_code
def yX8_drift : MethodName := ⟨RX8, "drift", "(III)V"⟩
abbrev cX8_gather : ByteArray := prog_10_method_5_code
def yX8_gather : MethodName := ⟨RX8, "gather", "(I)V"⟩
def RX9 : String := "OneTriangle$Ways"
def TX9 : u_T := fun k => match k with
  | 0 => ("OneTriangle$Ways", "piece", "LOneTriangle$Piece;", true)
  | 1 => ("OneTriangle$Ways", "odds", "LOneTriangle$Odds;", true)
  | 2 => ("OneTriangle$Ways", "notes", "LOneTriangle$Notes;", true)
  | 3 => ("OneTriangle$Ways", "settings", "LOneTriangle$Settings;", true)
  | 4 => ("OneTriangle$Ways", "said", "[J", true)
  | 5 => ("OneTriangle$Ways", "all", "[J", true)
  | 6 => ("OneTriangle$Ways", "now", "[J", true)
  | _ => ("OneTriangle$Ways", "next", "[J", true)
def tyX9 : Nat → FieldType := fun k => match k with
  | 0 => .object "OneTriangle$Piece"
  | 1 => .object "OneTriangle$Odds"
  | 2 => .object "OneTriangle$Notes"
  | 3 => .object "OneTriangle$Settings"
  | 4 => .array .long
  | 5 => .array .long
  | 6 => .array .long
  | _ => .array .long
theorem nmX9 : ∀ a, a < 8 → ∀ b, b < 8 → a ≠ b → (TX9 a).2.1 ≠ (TX9 b).2.1 := by decide +kernel
theorem tyX9_ok : ∀ k, k < 8 → parseFieldDescriptor (TX9 k).2.2.1 = some (tyX9 k) := by decide +kernel
abbrev cX9_init : ByteArray := prog_11_method_1_code
def yX9_init : MethodName := ⟨RX9, "<init>", "(LOneTriangle$Piece;LOneTriangle$Odds;LOneTriangle$Notes;LOneTriangle$Settings;)V"⟩
abbrev cX9_ofAll : ByteArray := prog_11_method_2_code
def yX9_ofAll : MethodName := ⟨RX9, "ofAll", "(I)J"⟩
abbrev cX9_saidIn : ByteArray := prog_11_method_3_code
def yX9_saidIn : MethodName := ⟨RX9, "saidIn", "(II)J"⟩
abbrev cX9_find : ByteArray := prog_11_method_4_code
def yX9_find : MethodName := ⟨RX9, "find", "()V"⟩
abbrev cX9_pass : ByteArray := prog_11_method_5_code
def yX9_pass : MethodName := ⟨RX9, "pass", "(II)V"⟩
abbrev cX9_addSaid : ByteArray := prog_11_method_6_code
def yX9_addSaid : MethodName := ⟨RX9, "addSaid", "(IIJ)V"⟩
def RX10 : String := "OneTriangle"
def TX10 : u_T := fun k => match k with
  | 0 => ("OneTriangle", "piece", "LOneTriangle$Piece;", true)
  | 1 => ("OneTriangle", "settings", "LOneTriangle$Settings;", true)
  | 2 => ("OneTriangle", "usual", "LOneTriangle$Odds;", true)
  | 3 => ("OneTriangle", "later", "LOneTriangle$Odds;", true)
  | 4 => ("OneTriangle", "notes", "LOneTriangle$Notes;", true)
  | 5 => ("OneTriangle", "ways", "LOneTriangle$Ways;", true)
  | 6 => ("OneTriangle", "spread", "LOneTriangle$Spread;", true)
  | 7 => ("OneTriangle", "players", "LOneTriangle$Players;", true)
  | 8 => ("OneTriangle", "diary", "LOneTriangle$Diary;", true)
  | 9 => ("OneTriangle", "lots", "LOneTriangle$Lots;", true)
  | 10 => ("OneTriangle", "sheets", "[LOneTriangle$Sheet;", true)
  | 11 => ("OneTriangle", "waysAreOld", "Z", false)
  | _ => ("OneTriangle", "latestFinding", "I", false)
def tyX10 : Nat → FieldType := fun k => match k with
  | 0 => .object "OneTriangle$Piece"
  | 1 => .object "OneTriangle$Settings"
  | 2 => .object "OneTriangle$Odds"
  | 3 => .object "OneTriangle$Odds"
  | 4 => .object "OneTriangle$Notes"
  | 5 => .object "OneTriangle$Ways"
  | 6 => .object "OneTriangle$Spread"
  | 7 => .object "OneTriangle$Players"
  | 8 => .object "OneTriangle$Diary"
  | 9 => .object "OneTriangle$Lots"
  | 10 => .array (.object "OneTriangle$Sheet")
  | 11 => .boolean
  | _ => .int
theorem nmX10 : ∀ a, a < 13 → ∀ b, b < 13 → a ≠ b → (TX10 a).2.1 ≠ (TX10 b).2.1 := by decide +kernel
theorem tyX10_ok : ∀ k, k < 13 → parseFieldDescriptor (TX10 k).2.2.1 = some (tyX10 k) := by decide +kernel
abbrev cX10_init : ByteArray := prog_1_method_1_code
def yX10_init : MethodName := ⟨RX10, "<init>", "()V"⟩
abbrev cX10_type : ByteArray := prog_1_method_2_code
def yX10_type : MethodName := ⟨RX10, "type", "(I)I"⟩
abbrev cX10_wipe : ByteArray := prog_1_method_3_code
def yX10_wipe : MethodName := ⟨RX10, "wipe", "()I"⟩
abbrev cX10_undo : ByteArray := prog_1_method_4_code
def yX10_undo : MethodName := ⟨RX10, "undo", "()I"⟩
abbrev cX10_fault : ByteArray := prog_1_method_5_code
def yX10_fault : MethodName := ⟨RX10, "fault", "()I"⟩
abbrev cX10_bar : ByteArray := prog_1_method_6_code
def yX10_bar : MethodName := ⟨RX10, "bar", "(II)I"⟩
abbrev cX10_odds : ByteArray := prog_1_method_7_code
def yX10_odds : MethodName := ⟨RX10, "odds", "(III)I"⟩
abbrev cX10_set : ByteArray := prog_1_method_8_code
def yX10_set : MethodName := ⟨RX10, "set", "(II)I"⟩
abbrev cX10_read : ByteArray := prog_1_method_9_code
def yX10_read : MethodName := ⟨RX10, "read", "(I)I"⟩
abbrev cX10_hear : ByteArray := prog_1_method_10_code
def yX10_hear : MethodName := ⟨RX10, "hear", "(II)I"⟩
abbrev cX10_shown : ByteArray := prog_1_method_11_code
def yX10_shown : MethodName := ⟨RX10, "shown", "(II)I"⟩
abbrev cX10_forget : ByteArray := prog_1_method_12_code
def yX10_forget : MethodName := ⟨RX10, "forget", "()I"⟩
abbrev cX10_where : ByteArray := prog_1_method_13_code
def yX10_where : MethodName := ⟨RX10, "where", "(III)J"⟩
abbrev cX10_likeliest : ByteArray := prog_1_method_14_code
def yX10_likeliest : MethodName := ⟨RX10, "likeliest", "(I)I"⟩
abbrev cX10_strike : ByteArray := prog_1_method_15_code
def yX10_strike : MethodName := ⟨RX10, "strike", "(II)J"⟩
abbrev cX10_line : ByteArray := prog_1_method_16_code
def yX10_line : MethodName := ⟨RX10, "line", "()I"⟩
abbrev cX10_slips : ByteArray := prog_1_method_17_code
def yX10_slips : MethodName := ⟨RX10, "slips", "(III)J"⟩
abbrev cX10_safe : ByteArray := prog_1_method_18_code
def yX10_safe : MethodName := ⟨RX10, "safe", "(II)J"⟩
abbrev cX10_write : ByteArray := prog_1_method_19_code
def yX10_write : MethodName := ⟨RX10, "write", "(I)I"⟩
abbrev cX10_few : ByteArray := prog_1_method_20_code
def yX10_few : MethodName := ⟨RX10, "few", "(I)I"⟩
abbrev cX10_anew : ByteArray := prog_1_method_21_code
def yX10_anew : MethodName := ⟨RX10, "anew", "(I)I"⟩
abbrev cX10_joint : ByteArray := prog_1_method_22_code
def yX10_joint : MethodName := ⟨RX10, "joint", "(III)J"⟩
abbrev cX10_evening : ByteArray := prog_1_method_23_code
def yX10_evening : MethodName := ⟨RX10, "evening", "(II)J"⟩
abbrev cX10_prime : ByteArray := prog_1_method_24_code
def yX10_prime : MethodName := ⟨RX10, "prime", "(I)I"⟩
abbrev cX10_player : ByteArray := prog_1_method_25_code
def yX10_player : MethodName := ⟨RX10, "player", "(II)I"⟩
abbrev cX10_leave : ByteArray := prog_1_method_26_code
def yX10_leave : MethodName := ⟨RX10, "leave", "()I"⟩
abbrev cX10_worth : ByteArray := prog_1_method_27_code
def yX10_worth : MethodName := ⟨RX10, "worth", "(I)I"⟩
abbrev cX10_look : ByteArray := prog_1_method_28_code
def yX10_look : MethodName := ⟨RX10, "look", "(I)I"⟩
abbrev cX10_from : ByteArray := prog_1_method_29_code
def yX10_from : MethodName := ⟨RX10, "from", "(I)I"⟩
abbrev cX10_said : ByteArray := prog_1_method_30_code
def yX10_said : MethodName := ⟨RX10, "said", "(I)I"⟩
abbrev cX10_wrong : ByteArray := prog_1_method_31_code
def yX10_wrong : MethodName := ⟨RX10, "wrong", "(I)I"⟩
abbrev cX10_blame : ByteArray := prog_1_method_32_code
def yX10_blame : MethodName := ⟨RX10, "blame", "()I"⟩
abbrev cX10_night : ByteArray := prog_1_method_33_code
def yX10_night : MethodName := ⟨RX10, "night", "(II)I"⟩
abbrev cX10_sheet : ByteArray := prog_1_method_34_code
def yX10_sheet : MethodName := ⟨RX10, "sheet", "(III)I"⟩
abbrev cX10_lose : ByteArray := prog_1_method_35_code
def yX10_lose : MethodName := ⟨RX10, "lose", "(I)I"⟩
abbrev cX10_put : ByteArray := prog_1_method_36_code
def yX10_put : MethodName := ⟨RX10, "put", "(IIII)I"⟩
abbrev cX10_get : ByteArray := prog_1_method_37_code
def yX10_get : MethodName := ⟨RX10, "get", "(III)I"⟩
abbrev cX10_copy : ByteArray := prog_1_method_38_code
def yX10_copy : MethodName := ⟨RX10, "copy", "(IIIII)I"⟩
abbrev cX10_tell : ByteArray := prog_1_method_39_code
def yX10_tell : MethodName := ⟨RX10, "tell", "(I)I"⟩
abbrev cX10_count : ByteArray := prog_1_method_40_code
def yX10_count : MethodName := ⟨RX10, "count", "(I)I"⟩
abbrev cX10_digest : ByteArray := prog_1_method_41_code
def yX10_digest : MethodName := ⟨RX10, "digest", "()J"⟩
abbrev cX10_within : ByteArray := prog_1_method_42_code
def yX10_within : MethodName := ⟨RX10, "within", "(III)Z"⟩
abbrev cX10_isNumber : ByteArray := prog_1_method_43_code
def yX10_isNumber : MethodName := ⟨RX10, "isNumber", "(I)Z"⟩
abbrev cX10_isPart : ByteArray := prog_1_method_44_code
def yX10_isPart : MethodName := ⟨RX10, "isPart", "(I)Z"⟩
abbrev cX10_refusal : ByteArray := prog_1_method_45_code
def yX10_refusal : MethodName := ⟨RX10, "refusal", "(I)J"⟩
abbrev cX10_found : ByteArray := prog_1_method_46_code
def yX10_found : MethodName := ⟨RX10, "found", "(I)I"⟩
abbrev cX10_sheetAt : ByteArray := prog_1_method_47_code
def yX10_sheetAt : MethodName := ⟨RX10, "sheetAt", "(I)LOneTriangle$Sheet;"⟩
abbrev cX10_addNote : ByteArray := prog_1_method_48_code
def yX10_addNote : MethodName := ⟨RX10, "addNote", "(III)I"⟩
abbrev cX10_refreshWays : ByteArray := prog_1_method_49_code
def yX10_refreshWays : MethodName := ⟨RX10, "refreshWays", "()V"⟩
abbrev cX10_costAbove : ByteArray := prog_1_method_50_code
def yX10_costAbove : MethodName := ⟨RX10, "costAbove", "(I)J"⟩
abbrev cX10_safety : ByteArray := prog_1_method_51_code
def yX10_safety : MethodName := ⟨RX10, "safety", "(I)J"⟩
abbrev cX10_comeTo : ByteArray := prog_1_method_52_code
def yX10_comeTo : MethodName := ⟨RX10, "comeTo", "(I)Z"⟩
abbrev cX10_trueLater : ByteArray := prog_1_method_53_code
def yX10_trueLater : MethodName := ⟨RX10, "trueLater", "()J"⟩
abbrev cX10_slipOfNight : ByteArray := prog_1_method_54_code
def yX10_slipOfNight : MethodName := ⟨RX10, "slipOfNight", "()I"⟩
abbrev cX10_mixed : ByteArray := prog_1_method_55_code
def yX10_mixed : MethodName := ⟨RX10, "mixed", "(JJ)J"⟩
abbrev cX10_told : ByteArray := prog_1_method_56_code
def yX10_told : MethodName := ⟨RX10, "told", "(JJI)J"⟩
abbrev cX10_greatestCommon : ByteArray := prog_1_method_57_code
def yX10_greatestCommon : MethodName := ⟨RX10, "greatestCommon", "(JJ)J"⟩
abbrev cX10_isLess : ByteArray := prog_1_method_58_code
def yX10_isLess : MethodName := ⟨RX10, "isLess", "(JJJJ)Z"⟩
abbrev cX10_itemAt : ByteArray := prog_1_method_59_code
def yX10_itemAt : MethodName := ⟨RX10, "itemAt", "([II)I"⟩
abbrev cX10_longAt : ByteArray := prog_1_method_60_code
def yX10_longAt : MethodName := ⟨RX10, "longAt", "([JI)J"⟩
abbrev cX10_addTo : ByteArray := prog_1_method_61_code
def yX10_addTo : MethodName := ⟨RX10, "addTo", "([JIJ)V"⟩
def RX11 : String := "OneTriangleModel"
def TX11 : u_T := fun k => match k with
  | 0 => ("OneTriangleModel", "text", "[I", true)
  | 1 => ("OneTriangleModel", "typed", "I", false)
  | 2 => ("OneTriangleModel", "bars", "I", false)
  | 3 => ("OneTriangleModel", "kinds", "[I", true)
  | 4 => ("OneTriangleModel", "tunes", "[I", true)
  | 5 => ("OneTriangleModel", "cueOf", "[I", true)
  | 6 => ("OneTriangleModel", "loose", "I", false)
  | 7 => ("OneTriangleModel", "cues", "I", false)
  | 8 => ("OneTriangleModel", "cueBar", "[I", true)
  | 9 => ("OneTriangleModel", "missed", "[I", true)
  | 10 => ("OneTriangleModel", "doubled", "[I", true)
  | 11 => ("OneTriangleModel", "settings", "[I", true)
  | 12 => ("OneTriangleModel", "records", "I", false)
  | 13 => ("OneTriangleModel", "record", "[I", true)
  | 14 => ("OneTriangleModel", "recordFrom", "I", false)
  | 15 => ("OneTriangleModel", "notes", "I", false)
  | 16 => ("OneTriangleModel", "noteNumber", "[I", true)
  | 17 => ("OneTriangleModel", "noteTune", "[I", true)
  | 18 => ("OneTriangleModel", "noteBar", "[I", true)
  | 19 => ("OneTriangleModel", "ways", "[J", true)
  | 20 => ("OneTriangleModel", "waysNext", "[J", true)
  | 21 => ("OneTriangleModel", "whereWeighs", "[J", true)
  | 22 => ("OneTriangleModel", "whereAll", "J", false)
  | 23 => ("OneTriangleModel", "slipWays", "[J", true)
  | 24 => ("OneTriangleModel", "slipNext", "[J", true)
  | 25 => ("OneTriangleModel", "slipAll", "J", false)
  | 26 => ("OneTriangleModel", "players", "I", false)
  | 27 => ("OneTriangleModel", "playerBar", "[I", true)
  | 28 => ("OneTriangleModel", "playerWorth", "[I", true)
  | 29 => ("OneTriangleModel", "looks", "[I", true)
  | 30 => ("OneTriangleModel", "isThere", "[Z", true)
  | 31 => ("OneTriangleModel", "forms", "[I", true)
  | 32 => ("OneTriangleModel", "sizes", "[I", true)
  | 33 => ("OneTriangleModel", "items", "[I", true)
  | 34 => ("OneTriangleModel", "moved", "[I", true)
  | _ => ("OneTriangleModel", "finding", "I", false)
def tyX11 : Nat → FieldType := fun k => match k with
  | 0 => .array .int
  | 1 => .int
  | 2 => .int
  | 3 => .array .int
  | 4 => .array .int
  | 5 => .array .int
  | 6 => .int
  | 7 => .int
  | 8 => .array .int
  | 9 => .array .int
  | 10 => .array .int
  | 11 => .array .int
  | 12 => .int
  | 13 => .array .int
  | 14 => .int
  | 15 => .int
  | 16 => .array .int
  | 17 => .array .int
  | 18 => .array .int
  | 19 => .array .long
  | 20 => .array .long
  | 21 => .array .long
  | 22 => .long
  | 23 => .array .long
  | 24 => .array .long
  | 25 => .long
  | 26 => .int
  | 27 => .array .int
  | 28 => .array .int
  | 29 => .array .int
  | 30 => .array .boolean
  | 31 => .array .int
  | 32 => .array .int
  | 33 => .array .int
  | 34 => .array .int
  | _ => .int
theorem nmX11 : ∀ a, a < 36 → ∀ b, b < 36 → a ≠ b → (TX11 a).2.1 ≠ (TX11 b).2.1 := by decide +kernel
theorem tyX11_ok : ∀ k, k < 36 → parseFieldDescriptor (TX11 k).2.2.1 = some (tyX11 k) := by decide +kernel
abbrev cX11_init : ByteArray := prog_13_method_1_code
def yX11_init : MethodName := ⟨RX11, "<init>", "()V"⟩
abbrev cX11_in : ByteArray := prog_13_method_3_code
def yX11_in : MethodName := ⟨RX11, "in", "(III)Z"⟩
abbrev cX11_isIn : ByteArray := prog_13_method_4_code
def yX11_isIn : MethodName := ⟨RX11, "isIn", "(II)Z"⟩
abbrev cX11_ones : ByteArray := prog_13_method_5_code
def yX11_ones : MethodName := ⟨RX11, "ones", "(I)I"⟩
abbrev cX11_no : ByteArray := prog_13_method_6_code
def yX11_no : MethodName := ⟨RX11, "no", "(I)J"⟩
abbrev cX11_lowest : ByteArray := prog_13_method_7_code
def yX11_lowest : MethodName := ⟨RX11, "lowest", "(JJI)J"⟩
abbrev cX11_type : ByteArray := prog_13_method_8_code
def yX11_type : MethodName := ⟨RX11, "type", "(I)I"⟩
abbrev cX11_wipe : ByteArray := prog_13_method_9_code
def yX11_wipe : MethodName := ⟨RX11, "wipe", "()I"⟩
abbrev cX11_undo : ByteArray := prog_13_method_10_code
def yX11_undo : MethodName := ⟨RX11, "undo", "()I"⟩
abbrev cX11_adds : ByteArray := prog_13_method_11_code
def yX11_adds : MethodName := ⟨RX11, "adds", "(II)V"⟩
abbrev cX11_figureAt : ByteArray := prog_13_method_12_code
def yX11_figureAt : MethodName := ⟨RX11, "figureAt", "(I)I"⟩
abbrev cX11_readsPiece : ByteArray := prog_13_method_13_code
def yX11_readsPiece : MethodName := ⟨RX11, "readsPiece", "()I"⟩
abbrev cX11_faultNow : ByteArray := prog_13_method_14_code
def yX11_faultNow : MethodName := ⟨RX11, "faultNow", "()I"⟩
abbrev cX11_fault : ByteArray := prog_13_method_15_code
def yX11_fault : MethodName := ⟨RX11, "fault", "()I"⟩
abbrev cX11_reads : ByteArray := prog_13_method_16_code
def yX11_reads : MethodName := ⟨RX11, "reads", "()V"⟩
abbrev cX11_isBar : ByteArray := prog_13_method_17_code
def yX11_isBar : MethodName := ⟨RX11, "isBar", "(I)Z"⟩
abbrev cX11_barOf : ByteArray := prog_13_method_18_code
def yX11_barOf : MethodName := ⟨RX11, "barOf", "(II)I"⟩
abbrev cX11_bar : ByteArray := prog_13_method_19_code
def yX11_bar : MethodName := ⟨RX11, "bar", "(II)I"⟩
abbrev cX11_odds : ByteArray := prog_13_method_20_code
def yX11_odds : MethodName := ⟨RX11, "odds", "(III)I"⟩
abbrev cX11_set : ByteArray := prog_13_method_21_code
def yX11_set : MethodName := ⟨RX11, "set", "(II)I"⟩
abbrev cX11_isNumber : ByteArray := prog_13_method_22_code
def yX11_isNumber : MethodName := ⟨RX11, "isNumber", "(I)Z"⟩
abbrev cX11_read : ByteArray := prog_13_method_23_code
def yX11_read : MethodName := ⟨RX11, "read", "(I)I"⟩
abbrev cX11_notesMore : ByteArray := prog_13_method_24_code
def yX11_notesMore : MethodName := ⟨RX11, "notesMore", "(III)I"⟩
abbrev cX11_hear : ByteArray := prog_13_method_25_code
def yX11_hear : MethodName := ⟨RX11, "hear", "(II)I"⟩
abbrev cX11_shown : ByteArray := prog_13_method_26_code
def yX11_shown : MethodName := ⟨RX11, "shown", "(II)I"⟩
abbrev cX11_forget : ByteArray := prog_13_method_27_code
def yX11_forget : MethodName := ⟨RX11, "forget", "()I"⟩
abbrev cX11_notesWeigh : ByteArray := prog_13_method_28_code
def yX11_notesWeigh : MethodName := ⟨RX11, "notesWeigh", "(II)J"⟩
abbrev cX11_saysOdds : ByteArray := prog_13_method_29_code
def yX11_saysOdds : MethodName := ⟨RX11, "saysOdds", "(II)I"⟩
abbrev cX11_findsWhere : ByteArray := prog_13_method_30_code
def yX11_findsWhere : MethodName := ⟨RX11, "findsWhere", "(I)V"⟩
abbrev cX11_whereOf : ByteArray := prog_13_method_31_code
def yX11_whereOf : MethodName := ⟨RX11, "whereOf", "(III)J"⟩
abbrev cX11_where : ByteArray := prog_13_method_32_code
def yX11_where : MethodName := ⟨RX11, "where", "(III)J"⟩
abbrev cX11_likeliestOf : ByteArray := prog_13_method_33_code
def yX11_likeliestOf : MethodName := ⟨RX11, "likeliestOf", "(I)I"⟩
abbrev cX11_likeliest : ByteArray := prog_13_method_34_code
def yX11_likeliest : MethodName := ⟨RX11, "likeliest", "(I)I"⟩
abbrev cX11_strikeOf : ByteArray := prog_13_method_35_code
def yX11_strikeOf : MethodName := ⟨RX11, "strikeOf", "(II)J"⟩
abbrev cX11_strike : ByteArray := prog_13_method_36_code
def yX11_strike : MethodName := ⟨RX11, "strike", "(II)J"⟩
abbrev cX11_isLess : ByteArray := prog_13_method_37_code
def yX11_isLess : MethodName := ⟨RX11, "isLess", "(JJJJ)Z"⟩
abbrev cX11_lineNow : ByteArray := prog_13_method_38_code
def yX11_lineNow : MethodName := ⟨RX11, "lineNow", "()I"⟩
abbrev cX11_line : ByteArray := prog_13_method_39_code
def yX11_line : MethodName := ⟨RX11, "line", "()I"⟩
abbrev cX11_findsSlips : ByteArray := prog_13_method_40_code
def yX11_findsSlips : MethodName := ⟨RX11, "findsSlips", "(III)V"⟩
abbrev cX11_missedIn : ByteArray := prog_13_method_41_code
def yX11_missedIn : MethodName := ⟨RX11, "missedIn", "(II)I"⟩
abbrev cX11_slipLoose : ByteArray := prog_13_method_42_code
def yX11_slipLoose : MethodName := ⟨RX11, "slipLoose", "(II)V"⟩
abbrev cX11_slipsOf : ByteArray := prog_13_method_43_code
def yX11_slipsOf : MethodName := ⟨RX11, "slipsOf", "(III)J"⟩
abbrev cX11_slips : ByteArray := prog_13_method_44_code
def yX11_slips : MethodName := ⟨RX11, "slips", "(III)J"⟩
abbrev cX11_isSome : ByteArray := prog_13_method_45_code
def yX11_isSome : MethodName := ⟨RX11, "isSome", "(I)Z"⟩
abbrev cX11_safeBy : ByteArray := prog_13_method_46_code
def yX11_safeBy : MethodName := ⟨RX11, "safeBy", "(I)J"⟩
abbrev cX11_safeOf : ByteArray := prog_13_method_47_code
def yX11_safeOf : MethodName := ⟨RX11, "safeOf", "(II)J"⟩
abbrev cX11_safe : ByteArray := prog_13_method_48_code
def yX11_safe : MethodName := ⟨RX11, "safe", "(II)J"⟩
abbrev cX11_writeOf : ByteArray := prog_13_method_49_code
def yX11_writeOf : MethodName := ⟨RX11, "writeOf", "(I)I"⟩
abbrev cX11_cuesNow : ByteArray := prog_13_method_50_code
def yX11_cuesNow : MethodName := ⟨RX11, "cuesNow", "()I"⟩
abbrev cX11_write : ByteArray := prog_13_method_51_code
def yX11_write : MethodName := ⟨RX11, "write", "(I)I"⟩
abbrev cX11_fewOf : ByteArray := prog_13_method_52_code
def yX11_fewOf : MethodName := ⟨RX11, "fewOf", "(I)I"⟩
abbrev cX11_few : ByteArray := prog_13_method_53_code
def yX11_few : MethodName := ⟨RX11, "few", "(I)I"⟩
abbrev cX11_anewOf : ByteArray := prog_13_method_54_code
def yX11_anewOf : MethodName := ⟨RX11, "anewOf", "(I)I"⟩
abbrev cX11_anew : ByteArray := prog_13_method_55_code
def yX11_anew : MethodName := ⟨RX11, "anew", "(I)I"⟩
abbrev cX11_joint : ByteArray := prog_13_method_56_code
def yX11_joint : MethodName := ⟨RX11, "joint", "(III)J"⟩
abbrev cX11_eveningBy : ByteArray := prog_13_method_57_code
def yX11_eveningBy : MethodName := ⟨RX11, "eveningBy", "(I)J"⟩
abbrev cX11_eveningOf : ByteArray := prog_13_method_58_code
def yX11_eveningOf : MethodName := ⟨RX11, "eveningOf", "(II)J"⟩
abbrev cX11_evening : ByteArray := prog_13_method_59_code
def yX11_evening : MethodName := ⟨RX11, "evening", "(II)J"⟩
abbrev cX11_primeOf : ByteArray := prog_13_method_60_code
def yX11_primeOf : MethodName := ⟨RX11, "primeOf", "(I)I"⟩
abbrev cX11_prime : ByteArray := prog_13_method_61_code
def yX11_prime : MethodName := ⟨RX11, "prime", "(I)I"⟩
abbrev cX11_player : ByteArray := prog_13_method_62_code
def yX11_player : MethodName := ⟨RX11, "player", "(II)I"⟩
abbrev cX11_leave : ByteArray := prog_13_method_63_code
def yX11_leave : MethodName := ⟨RX11, "leave", "()I"⟩
abbrev cX11_looksBy : ByteArray := prog_13_method_64_code
def yX11_looksBy : MethodName := ⟨RX11, "looksBy", "(I)I"⟩
abbrev cX11_worthOf : ByteArray := prog_13_method_65_code
def yX11_worthOf : MethodName := ⟨RX11, "worthOf", "(I)I"⟩
abbrev cX11_worth : ByteArray := prog_13_method_66_code
def yX11_worth : MethodName := ⟨RX11, "worth", "(I)I"⟩
abbrev cX11_lookOf : ByteArray := prog_13_method_67_code
def yX11_lookOf : MethodName := ⟨RX11, "lookOf", "(I)I"⟩
abbrev cX11_look : ByteArray := prog_13_method_68_code
def yX11_look : MethodName := ⟨RX11, "look", "(I)I"⟩
abbrev cX11_from : ByteArray := prog_13_method_69_code
def yX11_from : MethodName := ⟨RX11, "from", "(I)I"⟩
abbrev cX11_said : ByteArray := prog_13_method_70_code
def yX11_said : MethodName := ⟨RX11, "said", "(I)I"⟩
abbrev cX11_wrongOf : ByteArray := prog_13_method_71_code
def yX11_wrongOf : MethodName := ⟨RX11, "wrongOf", "(I)I"⟩
abbrev cX11_wrong : ByteArray := prog_13_method_72_code
def yX11_wrong : MethodName := ⟨RX11, "wrong", "(I)I"⟩
abbrev cX11_blameNow : ByteArray := prog_13_method_73_code
def yX11_blameNow : MethodName := ⟨RX11, "blameNow", "()I"⟩
abbrev cX11_blame : ByteArray := prog_13_method_74_code
def yX11_blame : MethodName := ⟨RX11, "blame", "()I"⟩
abbrev cX11_nightOf : ByteArray := prog_13_method_75_code
def yX11_nightOf : MethodName := ⟨RX11, "nightOf", "(II)I"⟩
abbrev cX11_night : ByteArray := prog_13_method_76_code
def yX11_night : MethodName := ⟨RX11, "night", "(II)I"⟩
abbrev cX11_meets : ByteArray := prog_13_method_77_code
def yX11_meets : MethodName := ⟨RX11, "meets", "(I)I"⟩
abbrev cX11_isSheet : ByteArray := prog_13_method_78_code
def yX11_isSheet : MethodName := ⟨RX11, "isSheet", "(I)Z"⟩
abbrev cX11_sheet : ByteArray := prog_13_method_79_code
def yX11_sheet : MethodName := ⟨RX11, "sheet", "(III)I"⟩
abbrev cX11_lose : ByteArray := prog_13_method_80_code
def yX11_lose : MethodName := ⟨RX11, "lose", "(I)I"⟩
abbrev cX11_lacks : ByteArray := prog_13_method_81_code
def yX11_lacks : MethodName := ⟨RX11, "lacks", "(III)I"⟩
abbrev cX11_keep : ByteArray := prog_13_method_82_code
def yX11_keep : MethodName := ⟨RX11, "keep", "(III)V"⟩
abbrev cX11_put : ByteArray := prog_13_method_83_code
def yX11_put : MethodName := ⟨RX11, "put", "(IIII)I"⟩
abbrev cX11_get : ByteArray := prog_13_method_84_code
def yX11_get : MethodName := ⟨RX11, "get", "(III)I"⟩
abbrev cX11_copy : ByteArray := prog_13_method_85_code
def yX11_copy : MethodName := ⟨RX11, "copy", "(IIIII)I"⟩
abbrev cX11_tell : ByteArray := prog_13_method_86_code
def yX11_tell : MethodName := ⟨RX11, "tell", "(I)I"⟩
abbrev cX11_readsMany : ByteArray := prog_13_method_87_code
def yX11_readsMany : MethodName := ⟨RX11, "readsMany", "(I)I"⟩
abbrev cX11_count : ByteArray := prog_13_method_88_code
def yX11_count : MethodName := ⟨RX11, "count", "(I)I"⟩
abbrev cX11_numberDigest : ByteArray := prog_13_method_89_code
def yX11_numberDigest : MethodName := ⟨RX11, "numberDigest", "(JI)J"⟩
abbrev cX11_digest : ByteArray := prog_13_method_90_code
def yX11_digest : MethodName := ⟨RX11, "digest", "()J"⟩
def RJ6 : String := "java/lang/Integer"
abbrev cJ6_bitCount_0f7a4 : ByteArray := prog_14_method_49_code
def yJ6_bitCount_0f7a4 : MethodName := ⟨RJ6, "bitCount", "(I)I"⟩
def RJ9 : String := "java/lang/Math"
abbrev cJ9_max_7cf53 : ByteArray := prog_15_method_65_code
def yJ9_max_7cf53 : MethodName := ⟨RJ9, "max", "(II)I"⟩
abbrev cJ9_min_7cf53 : ByteArray := prog_15_method_69_code
def yJ9_min_7cf53 : MethodName := ⟨RJ9, "min", "(II)I"⟩
def RJ10 : String := "java/lang/System"
def RJ7 : String := "java/util/Arrays"
abbrev cJ7_fill_d0a16 : ByteArray := prog_17_method_101_code
def yJ7_fill_d0a16 : MethodName := ⟨RJ7, "fill", "([JJ)V"⟩
abbrev cJ7_fill_53178 : ByteArray := prog_17_method_103_code
def yJ7_fill_53178 : MethodName := ⟨RJ7, "fill", "([II)V"⟩
def RL : String := "OneTriangleLaw"
abbrev cL_law : ByteArray := code
def yL_law : MethodName := ⟨RL, "law", "([I)Z"⟩
abbrev classes : List vw_C := [(RX0, TX0, 3), (RX1, TX1, 1), (RX2, TX2, 4), (RX3, TX3, 2), (RX4, TX4, 10), (RX5, TX5, 5), (RX6, TX6, 1), (RX7, TX7, 4), (RX8, TX8, 3), (RX9, TX9, 8), (RX10, TX10, 13), (RX11, TX11, 36)]
def lw_gd : List Cond := lw_tbl.filter goodWord
def lw_isN : Cond → Bool
  | .fieldLinkNest .. => true
  | .methodLinkNest .. => true
  | _ => false
def lw_nw : List Cond := lw_tbl.filter lw_isN
theorem lw_gd_t {i : Nat} {w : Cond} (h : tables_1[i]? = some w) (hg : goodWord w = true) : w ∈ lw_gd := List.mem_filter.mpr ⟨List.mem_append_right _ (List.mem_of_getElem? h), hg⟩
theorem lw_nw_t {i : Nat} {w : Cond} (h : tables_1[i]? = some w) (hg : lw_isN w = true) : w ∈ lw_nw := List.mem_filter.mpr ⟨List.mem_append_right _ (List.mem_of_getElem? h), hg⟩
theorem lw_gd_p {i : Nat} {w : Cond} (h : (k2_sels lw_privs)[i]? = some w) (hg : goodWord w = true) : w ∈ lw_gd := List.mem_filter.mpr ⟨List.mem_append_left _ (List.mem_of_getElem? h), hg⟩
theorem lw_gd_in {w : Cond} (h : w ∈ lw_gd) : w ∈ lw_tbl := (List.mem_filter.mp h).1
theorem lw_nw_in {w : Cond} (h : w ∈ lw_nw) : w ∈ lw_tbl := (List.mem_filter.mp h).1
theorem lw_gd_good {w : Cond} (h : w ∈ lw_gd) : (w.onTables && w.keeps) = true ∨ ∃ ty, w = .arrayClass ty := good_of_word (List.mem_filter.mp h).2
theorem lw_gd_gi : GoodIn lw_gd lw_gd := fun _ h => ⟨h, lw_gd_good h⟩
theorem giX0 : ∀ w ∈ u_ws RX0 TX0 3, w ∈ lw_gd := by decide +kernel
theorem giX1 : ∀ w ∈ u_ws RX1 TX1 1, w ∈ lw_gd := by decide +kernel
theorem giX2 : ∀ w ∈ u_ws RX2 TX2 4, w ∈ lw_gd := by decide +kernel
theorem giX3 : ∀ w ∈ u_ws RX3 TX3 2, w ∈ lw_gd := by decide +kernel
theorem giX4 : ∀ w ∈ u_ws RX4 TX4 10, w ∈ lw_gd := by decide +kernel
theorem giX5 : ∀ w ∈ u_ws RX5 TX5 5, w ∈ lw_gd := by decide +kernel
theorem giX6 : ∀ w ∈ u_ws RX6 TX6 1, w ∈ lw_gd := by decide +kernel
theorem giX7 : ∀ w ∈ u_ws RX7 TX7 4, w ∈ lw_gd := by decide +kernel
theorem giX8 : ∀ w ∈ u_ws RX8 TX8 3, w ∈ lw_gd := by decide +kernel
theorem giX9 : ∀ w ∈ u_ws RX9 TX9 8, w ∈ lw_gd := by decide +kernel
theorem giX10 : ∀ w ∈ u_ws RX10 TX10 13, w ∈ lw_gd := by decide +kernel
theorem giX11 : ∀ w ∈ u_ws RX11 TX11 36, w ∈ lw_gd := by decide +kernel
end
section
/-! the walk's judgement AX: a fixed world of cells (table tw), its contents a state St -/
abbrev am_M : Type := String × ByteArray × Nat × Option FieldType
abbrev ag_G : Type := va_G × (Nat → ClassId) × (Nat → Nat) × Nat × (Nat → Int32)
abbrev St : Type := (Nat → Nat → Int32) × (Nat → Nat → Int64)
abbrev ag_tys (G : ag_G) : List (ClassId × FieldType) := [(G.2.1 0, .int), (G.2.1 1, .long), (G.2.1 2, .boolean), (G.2.1 3, .object "OneTriangle$Sheet")]
/-- a cell of the table: an object (number of its class; its fields: none an int, some none a long, some some a reference), or an array (0 ints, 1 longs, 2 booleans, 3 references; length; the references) -/
abbrev tw_D : Type := (Nat × List (Option (Option Nat))) ⊕ (Nat × Nat × List Nat)
def tw : List tw_D := [.inl (10, [some (some 1), some (some 7), some (some 9), some (some 12), some (some 15), some (some 19), some (some 24), some (some 27), some (some 32), some (some 34), some (some 35), none, none]),
  .inl (4, [some (some 2), some (some 3), some (some 4), some (some 5), some (some 6), none, none, none, none, none]),
  .inr (0, 60, []),
  .inr (0, 99, []),
  .inr (0, 99, []),
  .inr (0, 99, []),
  .inr (0, 6, []),
  .inl (6, [some (some 8)]),
  .inr (0, 9, []),
  .inl (3, [some (some 10), some (some 11)]),
  .inr (0, 3, []),
  .inr (0, 3, []),
  .inl (3, [some (some 13), some (some 14)]),
  .inr (0, 3, []),
  .inr (0, 3, []),
  .inl (2, [some (some 16), some (some 17), some (some 18), none]),
  .inr (0, 4, []),
  .inr (0, 4, []),
  .inr (0, 4, []),
  .inl (9, [some (some 1), some (some 9), some (some 15), some (some 7), some (some 20), some (some 21), some (some 22), some (some 23)]),
  .inr (1, 2079, []),
  .inr (1, 111, []),
  .inr (1, 21, []),
  .inr (1, 21, []),
  .inl (8, [some (some 1), some (some 25), some (some 26)]),
  .inr (1, 21, []),
  .inr (1, 21, []),
  .inl (5, [some (some 28), some (some 29), some (some 30), some (some 31), none]),
  .inr (0, 8, []),
  .inr (0, 8, []),
  .inr (0, 8, []),
  .inr (0, 8, []),
  .inl (0, [some (some 33), none, none]),
  .inr (0, 20, []),
  .inl (1, [none]),
  .inr (3, 4, [36, 38, 40, 42]),
  .inl (7, [some (some 37), none, none, none]),
  .inr (0, 48, []),
  .inl (7, [some (some 39), none, none, none]),
  .inr (0, 48, []),
  .inl (7, [some (some 41), none, none, none]),
  .inr (0, 48, []),
  .inl (7, [some (some 43), none, none, none]),
  .inr (0, 48, []),
  .inl (11, [some (some 45), none, none, some (some 46), some (some 47), some (some 48), none, none, some (some 49), some (some 50), some (some 51), some (some 52), none, some (some 53), none, none, some (some 54), some (some 55), some (some 56), some (some 57), some (some 58), some (some 59), some none, some (some 60), some (some 61), some none, none, some (some 62), some (some 63), some (some 64), some (some 65), some (some 66), some (some 67), some (some 68), some (some 69), none]),
  .inr (0, 60, []),
  .inr (0, 100, []),
  .inr (0, 100, []),
  .inr (0, 100, []),
  .inr (0, 7, []),
  .inr (0, 3, []),
  .inr (0, 3, []),
  .inr (0, 9, []),
  .inr (0, 20, []),
  .inr (0, 4, []),
  .inr (0, 4, []),
  .inr (0, 4, []),
  .inr (1, 112, []),
  .inr (1, 112, []),
  .inr (1, 100, []),
  .inr (1, 21, []),
  .inr (1, 21, []),
  .inr (0, 8, []),
  .inr (0, 8, []),
  .inr (0, 99, []),
  .inr (2, 4, []),
  .inr (0, 4, []),
  .inr (0, 4, []),
  .inr (0, 192, []),
  .inr (0, 48, [])]
def tw_fld (G : ag_G) (σ : St) (k j : Nat) (f : Option (Option Nat)) : Value := match f with
  | none => .int (σ.1 k j)
  | some none => .long (σ.2 k j)
  | some (some r) => .ref (G.2.2.1 r)
def tw_cell (G : ag_G) (σ : St) (k : Nat) (d : tw_D) : va_E := match d with
  | .inl o => .inr (o.1, o.2.mapIdx (tw_fld G σ k))
  | .inr (0, n, _) => .inl (G.2.1 0, n, .inl (σ.1 k))
  | .inr (1, n, _) => .inl (G.2.1 1, n, .inr (.inl (σ.2 k)))
  | .inr (2, n, _) => .inl (G.2.1 2, n, .inl (σ.1 k))
  | .inr (_, n, rs) => .inl (G.2.1 3, n, .inr (.inr (.inr (.inr fun i => (rs[i]?).map G.2.2.1))))
def tw_W (G : ag_G) (σ : St) : va_W := tw.mapIdx fun k d => (G.2.2.1 k, tw_cell G σ k d)
theorem tw_at {G : ag_G} {σ : St} {k : Nat} {d : tw_D} (h : tw[k]? = some d) : (tw_W G σ)[k]? = some (G.2.2.1 k, tw_cell G σ k d) := by
  unfold tw_W
  rw [List.getElem?_mapIdx, h]
  rfl
theorem tw_set {G : ag_G} {σ σ' : St} {k : Nat} {d : tw_D} {e : va_E} (h : tw[k]? = some d) (he : tw_cell G σ' k d = e) (ho : ∀ j d', j ≠ k → tw_cell G σ' j d' = tw_cell G σ j d') : (tw_W G σ).set k (G.2.2.1 k, e) = tw_W G σ' := by
  subst he
  apply List.ext_getElem?
  intro j
  by_cases hj : j = k
  · subst hj
    rw [tw_at h, List.getElem?_set_self]
    have := List.getElem?_eq_some_iff.mp (tw_at (G := G) (σ := σ) h)
    exact this.1
  · rw [List.getElem?_set_ne (Ne.symm hj)]
    unfold tw_W
    rw [List.getElem?_mapIdx, List.getElem?_mapIdx]
    cases tw[j]? with
    | none => rfl
    | some d' => simp only [Option.map_some]; rw [ho j d' hj]
def rI (σ : St) (r : Nat) (f : Nat → Int32) : St := (fun r' => if r' = r then f else σ.1 r', σ.2)
def rL (σ : St) (r : Nat) (f : Nat → Int64) : St := (σ.1, fun r' => if r' = r then f else σ.2 r')
def sI (σ : St) (r j : Nat) (v : Int32) : St := rI σ r (upd (σ.1 r) j v)
def sL (σ : St) (r j : Nat) (v : Int64) : St := rL σ r (vp_updL (σ.2 r) j v)
theorem rI_cell {G : ag_G} {σ : St} {r : Nat} {f : Nat → Int32} (j : Nat) (d : tw_D) (h : j ≠ r) : tw_cell G (rI σ r f) j d = tw_cell G σ j d := by
  have e1 : (rI σ r f).1 j = σ.1 j := if_neg h
  have e2 : (rI σ r f).2 = σ.2 := rfl
  have e3 : tw_fld G (rI σ r f) j = tw_fld G σ j := by
    funext i x
    unfold tw_fld
    rw [e1, e2]
  unfold tw_cell
  split <;> simp only [e1, e2, e3]
theorem rL_cell {G : ag_G} {σ : St} {r : Nat} {f : Nat → Int64} (j : Nat) (d : tw_D) (h : j ≠ r) : tw_cell G (rL σ r f) j d = tw_cell G σ j d := by
  have e1 : (rL σ r f).2 j = σ.2 j := if_neg h
  have e2 : (rL σ r f).1 = σ.1 := rfl
  have e3 : tw_fld G (rL σ r f) j = tw_fld G σ j := by
    funext i x
    unfold tw_fld
    rw [e1, e2]
  unfold tw_cell
  split <;> simp only [e1, e2, e3]
theorem rI_own {σ : St} {r : Nat} {f : Nat → Int32} : (rI σ r f).1 r = f := if_pos rfl
theorem rL_own {σ : St} {r : Nat} {f : Nat → Int64} : (rL σ r f).2 r = f := if_pos rfl
/-- the arrays beside the world, that nobody writes: DIGEST_NUMBERS (1000), MOST (1001), the script (1002) -/
def xa_D : List Int32 := [1, 10, 30]
def xa_M : List Int32 := [16, 16, 16, 16, 99, 99, 16, 4, 4]
def ax_St (G : ag_G) (A : Nat → Prop) (U : State) (H : Heap) : Prop :=
  (va_Z "OneTriangle" "DIGEST_NUMBERS" "[I" (.ref (G.2.2.1 1000)) A U H ∧ va_Z "OneTriangle$Settings" "MOST" "[I" (.ref (G.2.2.1 1001)) A U H) ∧
  va_T .int (G.2.2.1 1000) 3 (fun j => .int (xa_D.getD j 0)) A U H ∧ va_T .int (G.2.2.1 1001) 9 (fun j => .int (xa_M.getD j 0)) A U H ∧ va_T .int (G.2.2.1 1002) G.2.2.2.1 (fun j => .int (G.2.2.2.2 j)) A U H
theorem ax_St.moved {G : ag_G} {A : Nat → Prop} {u U : State} {H : Heap} (hvm : u.vm.Alike U.vm) (h : ax_St G A u H) : ax_St G A U H := ⟨⟨h.1.1.moved hvm, h.1.2.moved hvm⟩, h.2.1.moved hvm, h.2.2.1.moved hvm, h.2.2.2.moved hvm⟩
theorem ax_St.kept {G : ag_G} {A : Nat → Prop} {U : State} {H H1 : Heap} (h : ax_St G A U H) (hq : ∀ a : Nat, a < H.size → ¬ A a → H1[a]? = H[a]?) : ax_St G A U H1 := ⟨⟨h.1.1.kept hq, h.1.2.kept hq⟩, h.2.1.kept hq, h.2.2.1.kept hq, h.2.2.2.kept hq⟩
theorem ax_St.narrow {G : ag_G} {A B : Nat → Prop} {U : State} {H : Heap} (h : ax_St G A U H) (hAB : ∀ q, B q → A q) : ax_St G B U H := ⟨⟨h.1.1.narrow hAB, h.1.2.narrow hAB⟩, h.2.1.narrow hAB, h.2.2.1.narrow hAB, h.2.2.2.narrow hAB⟩
theorem lw_nw_warm {w : Cond} (h : w ∈ lw_nw) {s U : State} (hW : s.WarmedH U.vm) (hZ : va_Nw w s) : va_Nw w U := by
  have hn := (List.mem_filter.mp h).2
  cases w <;> first | exact va_Nw.warmF hW hZ | exact va_Nw.warmM hW hZ | (exfalso; revert hn; simp [lw_isN])
/-- what stays while a method runs -/
def ax_C (G : ag_G) (M : am_M) (h k : Nat) (p : Program) (R : Room) (s : State) (m : MethodId) (args : Array Value) (c : Code) (A : Nat → Prop) (cells slots : Nat) : Prop :=
  p.tables.exec = Jvm.exec ∧ c.code = M.2.1 ∧ c.maxLocals = M.2.2.1 ∧ s.vm.findClass M.1 = some m.cls ∧ (∀ w ∈ lw_gd, w.before args s = true) ∧ (∀ w ∈ lw_nw, va_Nw w s) ∧ va_K G.1 classes (ag_tys G) s ∧ ax_St G A s s.heap ∧ (∀ q, s.heap.size ≤ q → A q) ∧ (h ≤ R.frames ∧ k ≤ R.locals) ∧ cells ≤ R.cells ∧ slots ≤ R.slots
/-- at a return instruction with that value -/
def ax_R (M : am_M) (pc : Nat) (v : Option Value) : Prop := match v with
  | none => M.2.2.2 = none ∧ decode M.2.1 pc = .ok (.return_, 1)
  | some (.int x) => ∃ ty, M.2.2.2 = some ty ∧ narrow ty (.int x) = .int x ∧ decode M.2.1 pc = .ok (.ireturn, 1)
  | some (.long _) => M.2.2.2 = some .long ∧ decode M.2.1 pc = .ok (.lreturn, 1)
  | some (.ref _) => (∃ n, M.2.2.2 = some (.object n)) ∧ decode M.2.1 pc = .ok (.areturn, 1)
  | some .null => (∃ n, M.2.2.2 = some (.object n)) ∧ decode M.2.1 pc = .ok (.areturn, 1)
  | _ => False
def AX (G : ag_G) (M : am_M) (h k pc : Nat) (ls : List (Nat × Value)) (st : List Value) (σ : St) (Q : Option Value → St → Prop) : Prop :=
  ∀ ⦃p : Program⦄ ⦃l : Launch⦄ ⦃e : Env⦄ ⦃R : Room⦄ ⦃s : State⦄ ⦃m : MethodId⦄ ⦃args : Array Value⦄ ⦃below : List Frame⦄ ⦃meth : Method⦄ ⦃c : Code⦄ ⦃H : Heap⦄ ⦃locs : List Loc⦄ ⦃cells slots : Nat⦄ ⦃Z : State → Prop⦄ ⦃A : Nat → Prop⦄ ⦃lsA : Array Slot⦄,
    ax_C G M h k p R s m args c A cells slots → va_P G.1 classes (tw_W G σ) H → va_D A (tw_W G σ) → va_S A s.heap H locs → lv_has lsA M.2.2.1 ls →
    (∀ (v : Option Value) (σ' : St) (H' : Heap) (locs' : List Loc) (pc' : Nat) (lsB : Array Slot), ax_R M pc' v → Q v σ' → va_P G.1 classes (tw_W G σ') H' → va_D A (tw_W G σ') → va_S A s.heap H' locs' → W p l e R s m args below meth c H' locs' cells slots Z (F0 m pc' lsB v.toList)) →
    W p l e R s m args below meth c H locs cells slots Z (F0 m pc lsA st)
/-- a method's contract over the world -/
def ax_B (G : ag_G) (σ : St) (sz : Nat) (U : State) : Prop := U.heap.size = sz ∧ va_P G.1 classes (tw_W G σ) U.heap ∧ va_K G.1 classes (ag_tys G) U ∧ va_D (fun _ => True) (tw_W G σ) ∧ (∀ w ∈ lw_nw, va_Nw w U) ∧ ax_St G (va_A (tw_W G σ) sz) U U.heap
def ax_Q (G : ag_G) (σ : St) (sz : Nat) (Q : Option Value → St → Prop) : Array Value → State → Outcome → State → Prop := fun _ st oc t =>
  (∃ (v : Option Value) (σ' : St), oc = .returned v ∧ Q v σ' ∧ va_P G.1 classes (tw_W G σ') t.heap ∧ va_D (va_A (tw_W G σ) sz) (tw_W G σ')) ∧ va_F (va_A (tw_W G σ) sz) st t
def AC (G : ag_G) (y : MethodName) (M : am_M) (h k : Nat) (As : List Value) (σ : St) (Q : Option Value → St → Prop) : Prop :=
  ∀ (l : Launch) (sz : Nat), Met l y (.code y M.2.1 M.2.2.1 M.2.2.2 :: lw_gd) { frames := h, cells := 0, slots := 0, locals := k } (va_Pc As (ax_B G σ sz)) (ax_Q G σ sz Q) 0 0 (va_A (tw_W G σ) sz)
theorem AC.of {G : ag_G} {y : MethodName} {M : am_M} {h k : Nat} {As : List Value} {σ : St} {Q : Option Value → St → Prop} (hy : plainName y.cls = true) (hyc : y.cls = M.1) (hlen : (lg_sl As).length ≤ M.2.2.1) (hx : AX G M h k 0 (lv_args 0 As) [] σ Q) : AC G y M h k As σ Q := by
  intro l sz
  refine Met.ofW (cc := M.2.1) (maxL := M.2.2.1) (ret := M.2.2.2) hy rfl ?_
  intro p e s m args below meth c s₁ B hml hv
  obtain ⟨rfl, hsz, hP, hK, hD0, hN, hSt⟩ := hv
  have hts := atoms_spec (ws := Cond.code y M.2.1 M.2.2.1 M.2.2.2 :: lw_gd) B.pre
  have hown : s.vm.findClass M.1 = some m.cls := hyc ▸ findClass_of_methodNamed B.named
  have hlocks := B.notSynchronized
  have hr := B.returns
  have hb := B.bytes
  have hex := B.exec
  subst hsz
  have hD := hD0.self (sz := s.heap.size)
  have hl := lv_entry As (n := M.2.2.1) hlen
  rw [lg_entry_eq]
  refine hx (A := va_A (tw_W G σ) s.heap.size) (R := (headSpec (Cond.code y M.2.1 M.2.2.1 M.2.2.2 :: lw_gd) { frames := h, cells := 0, slots := 0, locals := k }).room) ⟨hex, hb, hml, hown, fun w hw => hts w (List.mem_cons_of_mem _ hw), hN, hK, hSt, fun q hq => Or.inr hq, ⟨Nat.le_refl _, Nat.le_refl _⟩, Nat.zero_le _, Nat.zero_le _⟩ hP hD va_S.rf hl ?_
  intro v σ' H' locs' pc' lsB hR hQ hP' hD' hS'
  have fin : ∀ v' : Option Value, v' = v → ∀ t : State, t.heap = H' → s.WarmedH t.vm → ax_Q G σ s.heap.size Q As.toArray s (.returned v') t := by
    intro v' hv' t ht hW
    subst hv'
    exact ⟨⟨v', σ', rfl, hQ, by rw [ht]; exact hP', hD'⟩, hS'.F ht⟩
  have hf : ∀ q ∈ locs', va_A (tw_W G σ) s.heap.size q.base := hS'.2.2
  cases v with
  | none =>
    obtain ⟨h1, h2⟩ := hR
    exact W.vret hex hb (hr.trans h1) (fin none rfl) hf h2
  | some w =>
    cases w with
    | int x =>
      obtain ⟨ty, h1, h2, h3⟩ := hR
      exact W.zret hex hb (hr.trans h1) h2 (fin _ rfl) hf h3
    | long x =>
      obtain ⟨h1, h2⟩ := hR
      exact W.lret hex hb (hr.trans h1) (fin _ rfl) hf h2
    | ref a =>
      obtain ⟨⟨n, h1⟩, h2⟩ := hR
      exact W.aret hex hb (hr.trans h1) (Or.inl ⟨n, rfl⟩) (Or.inr ⟨a, rfl⟩) (fin _ rfl) hf h2
    | null =>
      obtain ⟨⟨n, h1⟩, h2⟩ := hR
      exact W.aret hex hb (hr.trans h1) (Or.inl ⟨n, rfl⟩) (Or.inl rfl) (fin _ rfl) hf h2
    | _ => exact hR.elim
theorem AC.mono {G : ag_G} {y : MethodName} {M : am_M} {h k : Nat} {As : List Value} {σ : St} {Q Q' : Option Value → St → Prop} (hx : AX G M h k 0 (lv_args 0 As) [] σ Q) (hq : ∀ v σ', Q v σ' → Q' v σ') : AX G M h k 0 (lv_args 0 As) [] σ Q' := by
  intro p l e R s m args below meth c H locs cells slots Z A lsA C hP hD hS hl hr
  exact hx C hP hD hS hl (fun v σ' H' locs' pc' lsB a b => hr v σ' H' locs' pc' lsB a (hq v σ' b))
end
section
theorem AX.eqp {G : ag_G} {M : am_M} {h k pc pc' : Nat} {ls : List (Nat × Value)} {st : List Value} {σ : St} {Q : Option Value → St → Prop} (hp : pc = pc') (kk : AX G M h k pc' ls st σ Q) : AX G M h k pc ls st σ Q := hp ▸ kk
def ls1 (i : Nat) (v : Value) (l : List (Nat × Value)) : List (Nat × Value) := (l.filter fun q => decide (q.1 < i) && !(q.1 + 1 == i && q.2.category == 2)) ++ (i, v) :: (l.filter fun q => decide (i < q.1))
def ls2 (i : Nat) (v : Value) (l : List (Nat × Value)) : List (Nat × Value) := (l.filter fun q => decide (q.1 < i) && !(q.1 + 1 == i && q.2.category == 2)) ++ (i, v) :: (l.filter fun q => decide (i + 1 < q.1))
theorem lv_mono {ls : Array Slot} {n : Nat} {l l' : List (Nat × Value)} (h : lv_has ls n l) (hm : ∀ q ∈ l', q ∈ l) : lv_has ls n l' := ⟨h.1, h.2.1, fun q hq => h.2.2 q (hm q hq)⟩
theorem ls1_mem {i : Nat} {v : Value} {l : List (Nat × Value)} : ∀ q ∈ ls1 i v l, q ∈ (i, v) :: l.filter (fun q => !(q.1 == i) && !(q.1 + 1 == i && q.2.category == 2)) := by
  intro q hq
  unfold ls1 at hq
  rcases List.mem_append.mp hq with h | h
  · obtain ⟨h1, h2⟩ := List.mem_filter.mp h
    refine List.mem_cons_of_mem _ (List.mem_filter.mpr ⟨h1, ?_⟩)
    simp only [Bool.and_eq_true, decide_eq_true_eq] at h2
    have : (q.1 == i) = false := by simp; omega
    simp only [this, Bool.not_false, Bool.true_and]
    exact h2.2
  · rcases List.mem_cons.mp h with h | h
    · rw [h]; exact List.mem_cons_self
    · obtain ⟨h1, h2⟩ := List.mem_filter.mp h
      refine List.mem_cons_of_mem _ (List.mem_filter.mpr ⟨h1, ?_⟩)
      simp only [decide_eq_true_eq] at h2
      have e1 : (q.1 == i) = false := by simp; omega
      have e2 : (q.1 + 1 == i) = false := by simp; omega
      simp only [e1, e2, Bool.not_false, Bool.false_and, Bool.and_self]
theorem ls2_mem {i : Nat} {v : Value} {l : List (Nat × Value)} : ∀ q ∈ ls2 i v l, q ∈ (i, v) :: l.filter (fun q => !(q.1 == i) && (!(q.1 == i + 1) && !(q.1 + 1 == i && q.2.category == 2))) := by
  intro q hq
  unfold ls2 at hq
  rcases List.mem_append.mp hq with h | h
  · obtain ⟨h1, h2⟩ := List.mem_filter.mp h
    refine List.mem_cons_of_mem _ (List.mem_filter.mpr ⟨h1, ?_⟩)
    simp only [Bool.and_eq_true, decide_eq_true_eq] at h2
    have e1 : (q.1 == i) = false := by simp; omega
    have e2 : (q.1 == i + 1) = false := by simp; omega
    simp only [e1, e2, Bool.not_false, Bool.true_and]
    exact h2.2
  · rcases List.mem_cons.mp h with h | h
    · rw [h]; exact List.mem_cons_self
    · obtain ⟨h1, h2⟩ := List.mem_filter.mp h
      refine List.mem_cons_of_mem _ (List.mem_filter.mpr ⟨h1, ?_⟩)
      simp only [decide_eq_true_eq] at h2
      have e1 : (q.1 == i) = false := by simp; omega
      have e2 : (q.1 + 1 == i) = false := by simp; omega
      have e3 : (q.1 == i + 1) = false := by simp; omega
      simp only [e1, e2, e3, Bool.not_false, Bool.false_and, Bool.and_self]
section AXR
variable {G : ag_G} {M : am_M} {h k pc : Nat} {ls : List (Nat × Value)} {st : List Value} {σ : St} {Q : Option Value → St → Prop}
theorem AX.sub {ls' : List (Nat × Value)} (ks : List Nat) (hs : lv_pick ls ks = ls') (kk : AX G M h k pc ls' st σ Q) : AX G M h k pc ls st σ Q := by
  intro p l e R s m args below meth c H locs cells slots Z A lsA C hP hD hS hl hr
  exact kk C hP hD hS (lv_sub hl ks hs) hr
theorem AX.iconst {n : Int} {v : Int32} (hd : decode M.2.1 pc = .ok (.iconst n, 1)) (hv : Int32.ofInt n = v) (kk : AX G M h k (pc + 1) ls (.int v :: st) σ Q) : AX G M h k pc ls (st) σ Q := by
  intro p l e R s m args below meth c H locs cells slots Z A lsA C hP hD hS hl hr
  exact lv_iconst C.1 C.2.1 hd hv (kk C hP hD hS hl hr)
theorem AX.bipush {n : Int} {v : Int32} (hd : decode M.2.1 pc = .ok (.bipush n, 2)) (hv : (Int8.ofInt n).toInt32 = v) (kk : AX G M h k (pc + 2) ls (.int v :: st) σ Q) : AX G M h k pc ls (st) σ Q := by
  intro p l e R s m args below meth c H locs cells slots Z A lsA C hP hD hS hl hr
  exact lv_bipush C.1 C.2.1 hd hv (kk C hP hD hS hl hr)
theorem AX.sipush {n : Int} {v : Int32} (hd : decode M.2.1 pc = .ok (.sipush n, 3)) (hv : (Int16.ofInt n).toInt32 = v) (kk : AX G M h k (pc + 3) ls (.int v :: st) σ Q) : AX G M h k pc ls (st) σ Q := by
  intro p l e R s m args below meth c H locs cells slots Z A lsA C hP hD hS hl hr
  exact lv_sipush C.1 C.2.1 hd hv (kk C hP hD hS hl hr)
theorem AX.lconst {n : Fin 2} {v : Int64} (hd : decode M.2.1 pc = .ok (.lconst n, 1)) (hv : Int64.ofNat (n : Nat) = v) (kk : AX G M h k (pc + 1) ls (.long v :: st) σ Q) : AX G M h k pc ls (st) σ Q := by
  intro p l e R s m args below meth c H locs cells slots Z A lsA C hP hD hS hl hr
  exact lv_lconst C.1 C.2.1 hd hv (kk C hP hD hS hl hr)
theorem AX.null  (hd : decode M.2.1 pc = .ok (.aconst_null, 1)) (kk : AX G M h k (pc + 1) ls (.null :: st) σ Q) : AX G M h k pc ls (st) σ Q := by
  intro p l e R s m args below meth c H locs cells slots Z A lsA C hP hD hS hl hr
  exact lv_null C.1 C.2.1 hd (kk C hP hD hS hl hr)
theorem AX.ldc {i : Nat} {v : Int32} (hd : decode M.2.1 pc = .ok (.ldc i, 2)) (hw : Cond.constant M.1 i v ∈ lw_gd) (kk : AX G M h k (pc + 2) ls (.int v :: st) σ Q) : AX G M h k pc ls (st) σ Q := by
  intro p l e R s m args below meth c H locs cells slots Z A lsA C hP hD hS hl hr
  exact lv_ldc C.1 C.2.1 C.2.2.2.1 (C.2.2.2.2.1 _ hw) hd (kk C hP hD hS hl hr)
theorem AX.ldcw {i : Nat} {v : Int32} (hd : decode M.2.1 pc = .ok (.ldc_w i, 3)) (hw : Cond.constant M.1 i v ∈ lw_gd) (kk : AX G M h k (pc + 3) ls (.int v :: st) σ Q) : AX G M h k pc ls (st) σ Q := by
  intro p l e R s m args below meth c H locs cells slots Z A lsA C hP hD hS hl hr
  exact lv_ldcw C.1 C.2.1 C.2.2.2.1 (C.2.2.2.2.1 _ hw) hd (kk C hP hD hS hl hr)
theorem AX.ldc2 {i : Nat} {v : Int64} (hd : decode M.2.1 pc = .ok (.ldc2_w i, 3)) (hw : Cond.constantLong M.1 i v ∈ lw_gd) (kk : AX G M h k (pc + 3) ls (.long v :: st) σ Q) : AX G M h k pc ls (st) σ Q := by
  intro p l e R s m args below meth c H locs cells slots Z A lsA C hP hD hS hl hr
  exact lv_ldc2 C.1 C.2.1 C.2.2.2.1 (C.2.2.2.2.1 _ hw) hd (kk C hP hD hS hl hr)
theorem AX.iload_n {n : Fin 4} {i : Nat} {x : Int32} (hd : decode M.2.1 pc = .ok (.iload_n n, 1)) (q : Nat) (hi : (n : Nat) = i) (hq : ls[q]? = some (i, .int x)) (kk : AX G M h k (pc + 1) ls (.int x :: st) σ Q) : AX G M h k pc ls (st) σ Q := by
  intro p l e R s m args below meth c H locs cells slots Z A lsA C hP hD hS hl hr
  exact lv_iload_n C.1 C.2.1 hd hi (lv_at hl q hq) (kk C hP hD hS hl hr)
theorem AX.iload {i : Nat} {x : Int32} (hd : decode M.2.1 pc = .ok (.iload i, 2)) (q : Nat) (hq : ls[q]? = some (i, .int x)) (kk : AX G M h k (pc + 2) ls (.int x :: st) σ Q) : AX G M h k pc ls (st) σ Q := by
  intro p l e R s m args below meth c H locs cells slots Z A lsA C hP hD hS hl hr
  exact lv_iload C.1 C.2.1 hd (lv_at hl q hq) (kk C hP hD hS hl hr)
theorem AX.istore_n {n : Fin 4} {i : Nat} {x : Int32} {ls' : List (Nat × Value)} (hd : decode M.2.1 pc = .ok (.istore_n n, 1)) (hi : (n : Nat) = i) (hb : i < M.2.2.1) (hl' : ls1 i (.int x) ls = ls') (kk : AX G M h k (pc + 1) ls' st σ Q) : AX G M h k pc ls (.int x :: st) σ Q := by
  intro p l e R s m args below meth c H locs cells slots Z A lsA C hP hD hS hl hr
  exact lv_istore_n C.1 C.2.1 hd hi hl hb rfl (fun lsB hB => kk C hP hD hS (hl' ▸ lv_mono hB ls1_mem) hr)
theorem AX.istore {i : Nat} {x : Int32} {ls' : List (Nat × Value)} (hd : decode M.2.1 pc = .ok (.istore i, 2)) (hb : i < M.2.2.1) (hl' : ls1 i (.int x) ls = ls') (kk : AX G M h k (pc + 2) ls' st σ Q) : AX G M h k pc ls (.int x :: st) σ Q := by
  intro p l e R s m args below meth c H locs cells slots Z A lsA C hP hD hS hl hr
  exact lv_istore C.1 C.2.1 hd hl hb rfl (fun lsB hB => kk C hP hD hS (hl' ▸ lv_mono hB ls1_mem) hr)
theorem AX.lload_n {n : Fin 4} {i : Nat} {x : Int64} (hd : decode M.2.1 pc = .ok (.lload_n n, 1)) (q : Nat) (hi : (n : Nat) = i) (hq : ls[q]? = some (i, .long x)) (kk : AX G M h k (pc + 1) ls (.long x :: st) σ Q) : AX G M h k pc ls (st) σ Q := by
  intro p l e R s m args below meth c H locs cells slots Z A lsA C hP hD hS hl hr
  exact lv_lload_n C.1 C.2.1 hd hi (lv_at hl q hq) (kk C hP hD hS hl hr)
theorem AX.lload {i : Nat} {x : Int64} (hd : decode M.2.1 pc = .ok (.lload i, 2)) (q : Nat) (hq : ls[q]? = some (i, .long x)) (kk : AX G M h k (pc + 2) ls (.long x :: st) σ Q) : AX G M h k pc ls (st) σ Q := by
  intro p l e R s m args below meth c H locs cells slots Z A lsA C hP hD hS hl hr
  exact lv_lload C.1 C.2.1 hd (lv_at hl q hq) (kk C hP hD hS hl hr)
theorem AX.lstore_n {n : Fin 4} {i : Nat} {x : Int64} {ls' : List (Nat × Value)} (hd : decode M.2.1 pc = .ok (.lstore_n n, 1)) (hi : (n : Nat) = i) (hb : i + 1 < M.2.2.1) (hl' : ls2 i (.long x) ls = ls') (kk : AX G M h k (pc + 1) ls' st σ Q) : AX G M h k pc ls (.long x :: st) σ Q := by
  intro p l e R s m args below meth c H locs cells slots Z A lsA C hP hD hS hl hr
  exact lv_lstore_n C.1 C.2.1 hd hi hl hb rfl (fun lsB hB => kk C hP hD hS (hl' ▸ lv_mono hB ls2_mem) hr)
theorem AX.lstore {i : Nat} {x : Int64} {ls' : List (Nat × Value)} (hd : decode M.2.1 pc = .ok (.lstore i, 2)) (hb : i + 1 < M.2.2.1) (hl' : ls2 i (.long x) ls = ls') (kk : AX G M h k (pc + 2) ls' st σ Q) : AX G M h k pc ls (.long x :: st) σ Q := by
  intro p l e R s m args below meth c H locs cells slots Z A lsA C hP hD hS hl hr
  exact lv_lstore C.1 C.2.1 hd hl hb rfl (fun lsB hB => kk C hP hD hS (hl' ▸ lv_mono hB ls2_mem) hr)
theorem AX.aload_n {n : Fin 4} {i : Nat} {x : Nat} (hd : decode M.2.1 pc = .ok (.aload_n n, 1)) (q : Nat) (hi : (n : Nat) = i) (hq : ls[q]? = some (i, .ref x)) (kk : AX G M h k (pc + 1) ls (.ref x :: st) σ Q) : AX G M h k pc ls (st) σ Q := by
  intro p l e R s m args below meth c H locs cells slots Z A lsA C hP hD hS hl hr
  exact lv_aload_n C.1 C.2.1 hd hi (lv_at hl q hq) (kk C hP hD hS hl hr)
theorem AX.aload {i : Nat} {x : Nat} (hd : decode M.2.1 pc = .ok (.aload i, 2)) (q : Nat) (hq : ls[q]? = some (i, .ref x)) (kk : AX G M h k (pc + 2) ls (.ref x :: st) σ Q) : AX G M h k pc ls (st) σ Q := by
  intro p l e R s m args below meth c H locs cells slots Z A lsA C hP hD hS hl hr
  exact lv_aload C.1 C.2.1 hd (lv_at hl q hq) (kk C hP hD hS hl hr)
theorem AX.astore_n {n : Fin 4} {i : Nat} {x : Nat} {ls' : List (Nat × Value)} (hd : decode M.2.1 pc = .ok (.astore_n n, 1)) (hi : (n : Nat) = i) (hb : i < M.2.2.1) (hl' : ls1 i (.ref x) ls = ls') (kk : AX G M h k (pc + 1) ls' st σ Q) : AX G M h k pc ls (.ref x :: st) σ Q := by
  intro p l e R s m args below meth c H locs cells slots Z A lsA C hP hD hS hl hr
  exact lv_astore_n C.1 C.2.1 hd hi hl hb rfl (fun lsB hB => kk C hP hD hS (hl' ▸ lv_mono hB ls1_mem) hr)
theorem AX.astore {i : Nat} {x : Nat} {ls' : List (Nat × Value)} (hd : decode M.2.1 pc = .ok (.astore i, 2)) (hb : i < M.2.2.1) (hl' : ls1 i (.ref x) ls = ls') (kk : AX G M h k (pc + 2) ls' st σ Q) : AX G M h k pc ls (.ref x :: st) σ Q := by
  intro p l e R s m args below meth c H locs cells slots Z A lsA C hP hD hS hl hr
  exact lv_astore C.1 C.2.1 hd hl hb rfl (fun lsB hB => kk C hP hD hS (hl' ▸ lv_mono hB ls1_mem) hr)
theorem AX.iinc {i : Nat} {n : Int} {x v : Int32} {ls' : List (Nat × Value)} (q : Nat) (hd : decode M.2.1 pc = .ok (.iinc i n, 3)) (hq : ls[q]? = some (i, .int x)) (hb : i < M.2.2.1) (hv : x + Int32.ofInt n = v) (hl' : ls1 i (.int v) ls = ls') (kk : AX G M h k (pc + 3) ls' st σ Q) : AX G M h k pc ls st σ Q := by
  intro p l e R s m args below meth c H locs cells slots Z A lsA C hP hD hS hl hr
  exact lv_iinc C.1 C.2.1 hd hl hq hv hb rfl (fun lsB hB => kk C hP hD hS (hl' ▸ lv_mono hB ls1_mem) hr)
theorem AX.iadd {x y : Int32} (hd : decode M.2.1 pc = .ok (.iadd, 1)) (kk : AX G M h k (pc + 1) ls (.int (x + y) :: st) σ Q) : AX G M h k pc ls (.int y :: .int x :: st) σ Q := by
  intro p l e R s m args below meth c H locs cells slots Z A lsA C hP hD hS hl hr
  exact lv_iadd C.1 C.2.1 hd (kk C hP hD hS hl hr)
theorem AX.isub {x y : Int32} (hd : decode M.2.1 pc = .ok (.isub, 1)) (kk : AX G M h k (pc + 1) ls (.int (x - y) :: st) σ Q) : AX G M h k pc ls (.int y :: .int x :: st) σ Q := by
  intro p l e R s m args below meth c H locs cells slots Z A lsA C hP hD hS hl hr
  exact lv_isub C.1 C.2.1 hd (kk C hP hD hS hl hr)
theorem AX.imul {x y : Int32} (hd : decode M.2.1 pc = .ok (.imul, 1)) (kk : AX G M h k (pc + 1) ls (.int (x * y) :: st) σ Q) : AX G M h k pc ls (.int y :: .int x :: st) σ Q := by
  intro p l e R s m args below meth c H locs cells slots Z A lsA C hP hD hS hl hr
  exact lv_imul C.1 C.2.1 hd (kk C hP hD hS hl hr)
theorem AX.iand {x y : Int32} (hd : decode M.2.1 pc = .ok (.iand, 1)) (kk : AX G M h k (pc + 1) ls (.int (x &&& y) :: st) σ Q) : AX G M h k pc ls (.int y :: .int x :: st) σ Q := by
  intro p l e R s m args below meth c H locs cells slots Z A lsA C hP hD hS hl hr
  exact lv_iand C.1 C.2.1 hd (kk C hP hD hS hl hr)
theorem AX.ior {x y : Int32} (hd : decode M.2.1 pc = .ok (.ior, 1)) (kk : AX G M h k (pc + 1) ls (.int (x ||| y) :: st) σ Q) : AX G M h k pc ls (.int y :: .int x :: st) σ Q := by
  intro p l e R s m args below meth c H locs cells slots Z A lsA C hP hD hS hl hr
  exact lv_ior C.1 C.2.1 hd (kk C hP hD hS hl hr)
theorem AX.ixor {x y : Int32} (hd : decode M.2.1 pc = .ok (.ixor, 1)) (kk : AX G M h k (pc + 1) ls (.int (x ^^^ y) :: st) σ Q) : AX G M h k pc ls (.int y :: .int x :: st) σ Q := by
  intro p l e R s m args below meth c H locs cells slots Z A lsA C hP hD hS hl hr
  exact lv_ixor C.1 C.2.1 hd (kk C hP hD hS hl hr)
theorem AX.ladd {x y : Int64} (hd : decode M.2.1 pc = .ok (.ladd, 1)) (kk : AX G M h k (pc + 1) ls (.long (x + y) :: st) σ Q) : AX G M h k pc ls (.long y :: .long x :: st) σ Q := by
  intro p l e R s m args below meth c H locs cells slots Z A lsA C hP hD hS hl hr
  exact lv_ladd C.1 C.2.1 hd (kk C hP hD hS hl hr)
theorem AX.lsub {x y : Int64} (hd : decode M.2.1 pc = .ok (.lsub, 1)) (kk : AX G M h k (pc + 1) ls (.long (x - y) :: st) σ Q) : AX G M h k pc ls (.long y :: .long x :: st) σ Q := by
  intro p l e R s m args below meth c H locs cells slots Z A lsA C hP hD hS hl hr
  exact lv_lsub C.1 C.2.1 hd (kk C hP hD hS hl hr)
theorem AX.lmul {x y : Int64} (hd : decode M.2.1 pc = .ok (.lmul, 1)) (kk : AX G M h k (pc + 1) ls (.long (x * y) :: st) σ Q) : AX G M h k pc ls (.long y :: .long x :: st) σ Q := by
  intro p l e R s m args below meth c H locs cells slots Z A lsA C hP hD hS hl hr
  exact lv_lmul C.1 C.2.1 hd (kk C hP hD hS hl hr)
theorem AX.idiv {x y : Int32} (hd : decode M.2.1 pc = .ok (.idiv, 1)) (hne : ¬ y = 0) (kk : AX G M h k (pc + 1) ls (.int (x / y) :: st) σ Q) : AX G M h k pc ls (.int y :: .int x :: st) σ Q := by
  intro p l e R s m args below meth c H locs cells slots Z A lsA C hP hD hS hl hr
  exact lv_idiv C.1 C.2.1 hd hne (kk C hP hD hS hl hr)
theorem AX.irem {x y : Int32} (hd : decode M.2.1 pc = .ok (.irem, 1)) (hne : ¬ y = 0) (kk : AX G M h k (pc + 1) ls (.int (x - x / y * y) :: st) σ Q) : AX G M h k pc ls (.int y :: .int x :: st) σ Q := by
  intro p l e R s m args below meth c H locs cells slots Z A lsA C hP hD hS hl hr
  exact lv_irem C.1 C.2.1 hd hne (kk C hP hD hS hl hr)
theorem AX.ldiv {x y : Int64} (hd : decode M.2.1 pc = .ok (.ldiv, 1)) (hne : ¬ y = 0) (kk : AX G M h k (pc + 1) ls (.long (x / y) :: st) σ Q) : AX G M h k pc ls (.long y :: .long x :: st) σ Q := by
  intro p l e R s m args below meth c H locs cells slots Z A lsA C hP hD hS hl hr
  exact lv_ldiv C.1 C.2.1 hd hne (kk C hP hD hS hl hr)
theorem AX.lrem {x y : Int64} (hd : decode M.2.1 pc = .ok (.lrem, 1)) (hne : ¬ y = 0) (kk : AX G M h k (pc + 1) ls (.long (x - x / y * y) :: st) σ Q) : AX G M h k pc ls (.long y :: .long x :: st) σ Q := by
  intro p l e R s m args below meth c H locs cells slots Z A lsA C hP hD hS hl hr
  exact lv_lrem C.1 C.2.1 hd hne (kk C hP hD hS hl hr)
theorem AX.ishl {x y : Int32} (hd : decode M.2.1 pc = .ok (.ishl, 1)) (kk : AX G M h k (pc + 1) ls (.int (x <<< (y &&& 31)) :: st) σ Q) : AX G M h k pc ls (.int y :: .int x :: st) σ Q := by
  intro p l e R s m args below meth c H locs cells slots Z A lsA C hP hD hS hl hr
  exact lv_ishl C.1 C.2.1 hd (kk C hP hD hS hl hr)
theorem AX.ishr {x y : Int32} (hd : decode M.2.1 pc = .ok (.ishr, 1)) (kk : AX G M h k (pc + 1) ls (.int (x >>> (y &&& 31)) :: st) σ Q) : AX G M h k pc ls (.int y :: .int x :: st) σ Q := by
  intro p l e R s m args below meth c H locs cells slots Z A lsA C hP hD hS hl hr
  exact lv_ishr C.1 C.2.1 hd (kk C hP hD hS hl hr)
theorem AX.iushr {x y : Int32} (hd : decode M.2.1 pc = .ok (.iushr, 1)) (kk : AX G M h k (pc + 1) ls (.int (x.toUInt32 >>> (y.toUInt32 &&& Int32.toUInt32 31)).toInt32 :: st) σ Q) : AX G M h k pc ls (.int y :: .int x :: st) σ Q := by
  intro p l e R s m args below meth c H locs cells slots Z A lsA C hP hD hS hl hr
  exact lv_iushr C.1 C.2.1 hd rfl (kk C hP hD hS hl hr)
theorem AX.i2l {x : Int32} (hd : decode M.2.1 pc = .ok (.i2l, 1)) (kk : AX G M h k (pc + 1) ls (.long x.toInt64 :: st) σ Q) : AX G M h k pc ls (.int x :: st) σ Q := by
  intro p l e R s m args below meth c H locs cells slots Z A lsA C hP hD hS hl hr
  exact lv_i2l C.1 C.2.1 hd rfl (kk C hP hD hS hl hr)
theorem AX.i2b {x : Int32} (hd : decode M.2.1 pc = .ok (.i2b, 1)) (kk : AX G M h k (pc + 1) ls (.int x.toInt8.toInt32 :: st) σ Q) : AX G M h k pc ls (.int x :: st) σ Q := by
  intro p l e R s m args below meth c H locs cells slots Z A lsA C hP hD hS hl hr
  exact lv_i2b C.1 C.2.1 hd rfl (kk C hP hD hS hl hr)
theorem AX.i2s {x : Int32} (hd : decode M.2.1 pc = .ok (.i2s, 1)) (kk : AX G M h k (pc + 1) ls (.int x.toInt16.toInt32 :: st) σ Q) : AX G M h k pc ls (.int x :: st) σ Q := by
  intro p l e R s m args below meth c H locs cells slots Z A lsA C hP hD hS hl hr
  exact lv_i2s C.1 C.2.1 hd rfl (kk C hP hD hS hl hr)
theorem AX.dup {v : Value} (hd : decode M.2.1 pc = .ok (.dup, 1)) (hv : v.category = 1) (kk : AX G M h k (pc + 1) ls (v :: v :: st) σ Q) : AX G M h k pc ls (v :: st) σ Q := by
  intro p l e R s m args below meth c H locs cells slots Z A lsA C hP hD hS hl hr
  exact lv_dup C.1 C.2.1 hd hv (kk C hP hD hS hl hr)
theorem AX.pop {v : Value} (hd : decode M.2.1 pc = .ok (.pop, 1)) (hv : v.category = 1) (kk : AX G M h k (pc + 1) ls (st) σ Q) : AX G M h k pc ls (v :: st) σ Q := by
  intro p l e R s m args below meth c H locs cells slots Z A lsA C hP hD hS hl hr
  exact lv_pop C.1 C.2.1 hd hv (kk C hP hD hS hl hr)
theorem AX.dup2 {v w : Value} (hd : decode M.2.1 pc = .ok (.dup2, 1)) (hv : v.category = 1) (hw : w.category = 1) (kk : AX G M h k (pc + 1) ls (v :: w :: v :: w :: st) σ Q) : AX G M h k pc ls (v :: w :: st) σ Q := by
  intro p l e R s m args below meth c H locs cells slots Z A lsA C hP hD hS hl hr
  exact lv_dup2_11 C.1 C.2.1 hd hv hw (kk C hP hD hS hl hr)
theorem AX.icmp_eq {x y : Int32} {off : Int} {tgt : Nat} (hd : decode M.2.1 pc = .ok (.if_icmp .eq off, 3)) (ht : (pc : Int) + off = (tgt : Int)) (kt : x = y → AX G M h k tgt ls st σ Q) (kf : ¬ (x = y) → AX G M h k (pc + 3) ls st σ Q) : AX G M h k pc ls (.int y :: .int x :: st) σ Q := by
  intro p l e R s m args below meth c H locs cells slots Z A lsA C hP hD hS hl hr
  exact lv_icmp_eq C.1 C.2.1 hd ht (fun q => kt q C hP hD hS hl hr) (fun q => kf q C hP hD hS hl hr)
theorem AX.if_eq {x : Int32} {off : Int} {tgt : Nat} (hd : decode M.2.1 pc = .ok (.ifCond .eq off, 3)) (ht : (pc : Int) + off = (tgt : Int)) (kt : x = 0 → AX G M h k tgt ls st σ Q) (kf : ¬ (x = 0) → AX G M h k (pc + 3) ls st σ Q) : AX G M h k pc ls (.int x :: st) σ Q := by
  intro p l e R s m args below meth c H locs cells slots Z A lsA C hP hD hS hl hr
  exact lv_if_eq C.1 C.2.1 hd ht (fun q => kt q C hP hD hS hl hr) (fun q => kf q C hP hD hS hl hr)
theorem AX.icmp_ne {x y : Int32} {off : Int} {tgt : Nat} (hd : decode M.2.1 pc = .ok (.if_icmp .ne off, 3)) (ht : (pc : Int) + off = (tgt : Int)) (kt : ¬ x = y → AX G M h k tgt ls st σ Q) (kf : x = y → AX G M h k (pc + 3) ls st σ Q) : AX G M h k pc ls (.int y :: .int x :: st) σ Q := by
  intro p l e R s m args below meth c H locs cells slots Z A lsA C hP hD hS hl hr
  exact lv_icmp_ne C.1 C.2.1 hd ht (fun q => kt q C hP hD hS hl hr) (fun q => kf q C hP hD hS hl hr)
theorem AX.if_ne {x : Int32} {off : Int} {tgt : Nat} (hd : decode M.2.1 pc = .ok (.ifCond .ne off, 3)) (ht : (pc : Int) + off = (tgt : Int)) (kt : ¬ x = 0 → AX G M h k tgt ls st σ Q) (kf : x = 0 → AX G M h k (pc + 3) ls st σ Q) : AX G M h k pc ls (.int x :: st) σ Q := by
  intro p l e R s m args below meth c H locs cells slots Z A lsA C hP hD hS hl hr
  exact lv_if_ne C.1 C.2.1 hd ht (fun q => kt q C hP hD hS hl hr) (fun q => kf q C hP hD hS hl hr)
theorem AX.icmp_lt {x y : Int32} {off : Int} {tgt : Nat} (hd : decode M.2.1 pc = .ok (.if_icmp .lt off, 3)) (ht : (pc : Int) + off = (tgt : Int)) (kt : x < y → AX G M h k tgt ls st σ Q) (kf : ¬ (x < y) → AX G M h k (pc + 3) ls st σ Q) : AX G M h k pc ls (.int y :: .int x :: st) σ Q := by
  intro p l e R s m args below meth c H locs cells slots Z A lsA C hP hD hS hl hr
  exact lv_icmp_lt C.1 C.2.1 hd ht (fun q => kt q C hP hD hS hl hr) (fun q => kf q C hP hD hS hl hr)
theorem AX.if_lt {x : Int32} {off : Int} {tgt : Nat} (hd : decode M.2.1 pc = .ok (.ifCond .lt off, 3)) (ht : (pc : Int) + off = (tgt : Int)) (kt : x < 0 → AX G M h k tgt ls st σ Q) (kf : ¬ (x < 0) → AX G M h k (pc + 3) ls st σ Q) : AX G M h k pc ls (.int x :: st) σ Q := by
  intro p l e R s m args below meth c H locs cells slots Z A lsA C hP hD hS hl hr
  exact lv_if_lt C.1 C.2.1 hd ht (fun q => kt q C hP hD hS hl hr) (fun q => kf q C hP hD hS hl hr)
theorem AX.icmp_ge {x y : Int32} {off : Int} {tgt : Nat} (hd : decode M.2.1 pc = .ok (.if_icmp .ge off, 3)) (ht : (pc : Int) + off = (tgt : Int)) (kt : y ≤ x → AX G M h k tgt ls st σ Q) (kf : ¬ (y ≤ x) → AX G M h k (pc + 3) ls st σ Q) : AX G M h k pc ls (.int y :: .int x :: st) σ Q := by
  intro p l e R s m args below meth c H locs cells slots Z A lsA C hP hD hS hl hr
  exact lv_icmp_ge C.1 C.2.1 hd ht (fun q => kt q C hP hD hS hl hr) (fun q => kf q C hP hD hS hl hr)
theorem AX.if_ge {x : Int32} {off : Int} {tgt : Nat} (hd : decode M.2.1 pc = .ok (.ifCond .ge off, 3)) (ht : (pc : Int) + off = (tgt : Int)) (kt : 0 ≤ x → AX G M h k tgt ls st σ Q) (kf : ¬ (0 ≤ x) → AX G M h k (pc + 3) ls st σ Q) : AX G M h k pc ls (.int x :: st) σ Q := by
  intro p l e R s m args below meth c H locs cells slots Z A lsA C hP hD hS hl hr
  exact lv_if_ge C.1 C.2.1 hd ht (fun q => kt q C hP hD hS hl hr) (fun q => kf q C hP hD hS hl hr)
theorem AX.icmp_gt {x y : Int32} {off : Int} {tgt : Nat} (hd : decode M.2.1 pc = .ok (.if_icmp .gt off, 3)) (ht : (pc : Int) + off = (tgt : Int)) (kt : y < x → AX G M h k tgt ls st σ Q) (kf : ¬ (y < x) → AX G M h k (pc + 3) ls st σ Q) : AX G M h k pc ls (.int y :: .int x :: st) σ Q := by
  intro p l e R s m args below meth c H locs cells slots Z A lsA C hP hD hS hl hr
  exact lv_icmp_gt C.1 C.2.1 hd ht (fun q => kt q C hP hD hS hl hr) (fun q => kf q C hP hD hS hl hr)
theorem AX.if_gt {x : Int32} {off : Int} {tgt : Nat} (hd : decode M.2.1 pc = .ok (.ifCond .gt off, 3)) (ht : (pc : Int) + off = (tgt : Int)) (kt : 0 < x → AX G M h k tgt ls st σ Q) (kf : ¬ (0 < x) → AX G M h k (pc + 3) ls st σ Q) : AX G M h k pc ls (.int x :: st) σ Q := by
  intro p l e R s m args below meth c H locs cells slots Z A lsA C hP hD hS hl hr
  exact lv_if_gt C.1 C.2.1 hd ht (fun q => kt q C hP hD hS hl hr) (fun q => kf q C hP hD hS hl hr)
theorem AX.icmp_le {x y : Int32} {off : Int} {tgt : Nat} (hd : decode M.2.1 pc = .ok (.if_icmp .le off, 3)) (ht : (pc : Int) + off = (tgt : Int)) (kt : x ≤ y → AX G M h k tgt ls st σ Q) (kf : ¬ (x ≤ y) → AX G M h k (pc + 3) ls st σ Q) : AX G M h k pc ls (.int y :: .int x :: st) σ Q := by
  intro p l e R s m args below meth c H locs cells slots Z A lsA C hP hD hS hl hr
  exact lv_icmp_le C.1 C.2.1 hd ht (fun q => kt q C hP hD hS hl hr) (fun q => kf q C hP hD hS hl hr)
theorem AX.if_le {x : Int32} {off : Int} {tgt : Nat} (hd : decode M.2.1 pc = .ok (.ifCond .le off, 3)) (ht : (pc : Int) + off = (tgt : Int)) (kt : x ≤ 0 → AX G M h k tgt ls st σ Q) (kf : ¬ (x ≤ 0) → AX G M h k (pc + 3) ls st σ Q) : AX G M h k pc ls (.int x :: st) σ Q := by
  intro p l e R s m args below meth c H locs cells slots Z A lsA C hP hD hS hl hr
  exact lv_if_le C.1 C.2.1 hd ht (fun q => kt q C hP hD hS hl hr) (fun q => kf q C hP hD hS hl hr)
theorem AX.goto {off : Int} {tgt : Nat} (hd : decode M.2.1 pc = .ok (.goto off, 3)) (ht : (pc : Int) + off = (tgt : Int)) (kk : AX G M h k tgt ls st σ Q) : AX G M h k pc ls st σ Q := by
  intro p l e R s m args below meth c H locs cells slots Z A lsA C hP hD hS hl hr
  exact lv_goto C.1 C.2.1 hd ht (kk C hP hD hS hl hr)
theorem lg_cmp_ne (x y : Int64) : (¬ lg_cmp x y = 0) ↔ ¬ x = y := not_congr (lg_cmp_eq x y)
theorem AX.lcmp {x y : Int64} (hd : decode M.2.1 pc = .ok (.lcmp, 1)) (kk : AX G M h k (pc + 1) ls (.int (lg_cmp x y) :: st) σ Q) : AX G M h k pc ls (.long y :: .long x :: st) σ Q := by
  intro p l e R s m args below meth c H locs cells slots Z A lsA C hP hD hS hl hr
  exact W.lcmp C.1 C.2.1 hd (kk C hP hD hS hl hr)
theorem AX.lcmp_eq {x y : Int64} {off : Int} {tgt : Nat} (hd : decode M.2.1 pc = .ok (.lcmp, 1)) (hd2 : decode M.2.1 (pc + 1) = .ok (.ifCond .eq off, 3)) (ht : ((pc + 1 : Nat) : Int) + off = (tgt : Int)) (kt : x = y → AX G M h k tgt ls st σ Q) (kf : ¬ (x = y) → AX G M h k (pc + 4) ls st σ Q) : AX G M h k pc ls (.long y :: .long x :: st) σ Q :=
  AX.lcmp hd (AX.if_eq hd2 ht (fun q => kt ((lg_cmp_eq x y).mp q)) (fun q => kf (fun z => q ((lg_cmp_eq x y).mpr z))))
theorem AX.lcmp_ne {x y : Int64} {off : Int} {tgt : Nat} (hd : decode M.2.1 pc = .ok (.lcmp, 1)) (hd2 : decode M.2.1 (pc + 1) = .ok (.ifCond .ne off, 3)) (ht : ((pc + 1 : Nat) : Int) + off = (tgt : Int)) (kt : ¬ x = y → AX G M h k tgt ls st σ Q) (kf : x = y → AX G M h k (pc + 4) ls st σ Q) : AX G M h k pc ls (.long y :: .long x :: st) σ Q :=
  AX.lcmp hd (AX.if_ne hd2 ht (fun q => kt ((lg_cmp_ne x y).mp q)) (fun q => kf ((lg_cmp_eq x y).mp q)))
theorem AX.lcmp_lt {x y : Int64} {off : Int} {tgt : Nat} (hd : decode M.2.1 pc = .ok (.lcmp, 1)) (hd2 : decode M.2.1 (pc + 1) = .ok (.ifCond .lt off, 3)) (ht : ((pc + 1 : Nat) : Int) + off = (tgt : Int)) (kt : x < y → AX G M h k tgt ls st σ Q) (kf : ¬ (x < y) → AX G M h k (pc + 4) ls st σ Q) : AX G M h k pc ls (.long y :: .long x :: st) σ Q :=
  AX.lcmp hd (AX.if_lt hd2 ht (fun q => kt ((lg_cmp_lt x y).mp q)) (fun q => kf (fun z => q ((lg_cmp_lt x y).mpr z))))
theorem AX.lcmp_ge {x y : Int64} {off : Int} {tgt : Nat} (hd : decode M.2.1 pc = .ok (.lcmp, 1)) (hd2 : decode M.2.1 (pc + 1) = .ok (.ifCond .ge off, 3)) (ht : ((pc + 1 : Nat) : Int) + off = (tgt : Int)) (kt : y ≤ x → AX G M h k tgt ls st σ Q) (kf : ¬ (y ≤ x) → AX G M h k (pc + 4) ls st σ Q) : AX G M h k pc ls (.long y :: .long x :: st) σ Q :=
  AX.lcmp hd (AX.if_ge hd2 ht (fun q => kt ((lg_cmp_ge x y).mp q)) (fun q => kf (fun z => q ((lg_cmp_ge x y).mpr z))))
theorem AX.lcmp_gt {x y : Int64} {off : Int} {tgt : Nat} (hd : decode M.2.1 pc = .ok (.lcmp, 1)) (hd2 : decode M.2.1 (pc + 1) = .ok (.ifCond .gt off, 3)) (ht : ((pc + 1 : Nat) : Int) + off = (tgt : Int)) (kt : y < x → AX G M h k tgt ls st σ Q) (kf : ¬ (y < x) → AX G M h k (pc + 4) ls st σ Q) : AX G M h k pc ls (.long y :: .long x :: st) σ Q :=
  AX.lcmp hd (AX.if_gt hd2 ht (fun q => kt ((lg_cmp_gt x y).mp q)) (fun q => kf (fun z => q ((lg_cmp_gt x y).mpr z))))
theorem AX.lcmp_le {x y : Int64} {off : Int} {tgt : Nat} (hd : decode M.2.1 pc = .ok (.lcmp, 1)) (hd2 : decode M.2.1 (pc + 1) = .ok (.ifCond .le off, 3)) (ht : ((pc + 1 : Nat) : Int) + off = (tgt : Int)) (kt : x ≤ y → AX G M h k tgt ls st σ Q) (kf : ¬ (x ≤ y) → AX G M h k (pc + 4) ls st σ Q) : AX G M h k pc ls (.long y :: .long x :: st) σ Q :=
  AX.lcmp hd (AX.if_le hd2 ht (fun q => kt ((lg_cmp_le x y).mp q)) (fun q => kf (fun z => q ((lg_cmp_le x y).mpr z))))
theorem AX.ifnull_ref {x : Nat} {off : Int} (hd : decode M.2.1 pc = .ok (.ifnull off, 3)) (kk : AX G M h k (pc + 3) ls st σ Q) : AX G M h k pc ls (.ref x :: st) σ Q := by
  intro p l e R s m args below meth c H locs cells slots Z A lsA C hP hD hS hl hr
  exact lv_ifnull C.1 C.2.1 hd (kk C hP hD hS hl hr)
theorem AX.ifnull_null {off : Int} {tgt : Nat} (hd : decode M.2.1 pc = .ok (.ifnull off, 3)) (ht : (pc : Int) + off = (tgt : Int)) (kk : AX G M h k tgt ls st σ Q) : AX G M h k pc ls (.null :: st) σ Q := by
  intro p l e R s m args below meth c H locs cells slots Z A lsA C hP hD hS hl hr
  exact lv_ifnullN C.1 C.2.1 hd ht (kk C hP hD hS hl hr)
theorem AX.ifnonnull_ref {x : Nat} {off : Int} {tgt : Nat} (hd : decode M.2.1 pc = .ok (.ifnonnull off, 3)) (ht : (pc : Int) + off = (tgt : Int)) (kk : AX G M h k tgt ls st σ Q) : AX G M h k pc ls (.ref x :: st) σ Q := by
  intro p l e R s m args below meth c H locs cells slots Z A lsA C hP hD hS hl hr
  exact lv_ifnonnull C.1 C.2.1 hd ht (kk C hP hD hS hl hr)
theorem AX.ifnonnull_null {off : Int} (hd : decode M.2.1 pc = .ok (.ifnonnull off, 3)) (kk : AX G M h k (pc + 3) ls st σ Q) : AX G M h k pc ls (.null :: st) σ Q := by
  intro p l e R s m args below meth c H locs cells slots Z A lsA C hP hD hS hl hr
  exact lv_ifnonnullN C.1 C.2.1 hd (kk C hP hD hS hl hr)
theorem AX.tableIn {dflt lo hi off : Int} {offs : Array Int} {len : Nat} {x : Int32} {tgt : Nat} (n : Int) (hd : decode M.2.1 pc = .ok (.tableswitch dflt lo hi offs, len)) (hx : x.toInt = n) (h1 : ¬ n < lo ∧ ¬ hi < n) (ho : offs[(n - lo).toNat]? = some off) (ht : (pc : Int) + off = (tgt : Int)) (kk : AX G M h k tgt ls st σ Q) : AX G M h k pc ls (.int x :: st) σ Q := by
  subst hx
  intro p l e R s m args below meth c H locs cells slots Z A lsA C hP hD hS hl hr
  exact lv_tableIn C.1 C.2.1 hd h1.1 h1.2 ho ht (kk C hP hD hS hl hr)
theorem AX.tableOut {dflt lo hi : Int} {offs : Array Int} {len : Nat} {x : Int32} {tgt : Nat} (hd : decode M.2.1 pc = .ok (.tableswitch dflt lo hi offs, len)) (h1 : x.toInt < lo ∨ hi < x.toInt) (ht : (pc : Int) + dflt = (tgt : Int)) (kk : AX G M h k tgt ls st σ Q) : AX G M h k pc ls (.int x :: st) σ Q := by
  intro p l e R s m args below meth c H locs cells slots Z A lsA C hP hD hS hl hr
  exact lv_tableOut C.1 C.2.1 hd h1 ht (kk C hP hD hS hl hr)
theorem AX.lookup {dflt off : Int} {ps : Array (Int × Int)} {len : Nat} {x : Int32} {tgt : Nat} (hd : decode M.2.1 pc = .ok (.lookupswitch dflt ps, len)) (hp : (ps.toList.zip (ps.toList.drop 1)).all (fun (a, next) => a.1 < next.1) = true) (ho : Op.lookupswitch.offset ps.toList dflt x.toInt = off) (ht : (pc : Int) + off = (tgt : Int)) (kk : AX G M h k tgt ls st σ Q) : AX G M h k pc ls (.int x :: st) σ Q := by
  intro p l e R s m args below meth c H locs cells slots Z A lsA C hP hD hS hl hr
  exact lv_lookup C.1 C.2.1 hd hp ho ht (kk C hP hD hS hl hr)
/- returns -/
theorem AX.ireturn {x : Int32} {ty : FieldType} (hd : decode M.2.1 pc = .ok (.ireturn, 1)) (ht : M.2.2.2 = some ty) (hn : narrow ty (.int x) = .int x) (hq : Q (some (.int x)) σ) : AX G M h k pc ls [.int x] σ Q := by
  intro p l e R s m args below meth c H locs cells slots Z A lsA C hP hD hS hl hr
  exact hr (some (.int x)) σ H locs pc lsA ⟨ty, ht, hn, hd⟩ hq hP hD hS
theorem AX.lreturn {x : Int64} (hd : decode M.2.1 pc = .ok (.lreturn, 1)) (ht : M.2.2.2 = some .long) (hq : Q (some (.long x)) σ) : AX G M h k pc ls [.long x] σ Q := by
  intro p l e R s m args below meth c H locs cells slots Z A lsA C hP hD hS hl hr
  exact hr (some (.long x)) σ H locs pc lsA ⟨ht, hd⟩ hq hP hD hS
theorem AX.vreturn (hd : decode M.2.1 pc = .ok (.return_, 1)) (ht : M.2.2.2 = none) (hq : Q none σ) : AX G M h k pc ls [] σ Q := by
  intro p l e R s m args below meth c H locs cells slots Z A lsA C hP hD hS hl hr
  exact hr none σ H locs pc lsA ⟨ht, hd⟩ hq hP hD hS
theorem AX.areturn_ref {x : Nat} {n : String} (hd : decode M.2.1 pc = .ok (.areturn, 1)) (ht : M.2.2.2 = some (.object n)) (hq : Q (some (.ref x)) σ) : AX G M h k pc ls [.ref x] σ Q := by
  intro p l e R s m args below meth c H locs cells slots Z A lsA C hP hD hS hl hr
  exact hr (some (.ref x)) σ H locs pc lsA ⟨⟨n, ht⟩, hd⟩ hq hP hD hS
theorem AX.areturn_null {n : String} (hd : decode M.2.1 pc = .ok (.areturn, 1)) (ht : M.2.2.2 = some (.object n)) (hq : Q (some .null) σ) : AX G M h k pc ls [.null] σ Q := by
  intro p l e R s m args below meth c H locs cells slots Z A lsA C hP hD hS hl hr
  exact hr (some .null) σ H locs pc lsA ⟨⟨n, ht⟩, hd⟩ hq hP hD hS
end AXR
end
section
/-! links by their words -/
def fl_ok (own : String) (idx ci j : Nat) : Prop := ∃ (C : String) (T : u_T) (N : Nat), classes[ci]? = some (C, T, N) ∧ j < N ∧ (∀ w ∈ u_ws C T N, w ∈ lw_gd) ∧ ((Cond.fieldLink own idx (T j).1 (T j).2.1 (T j).2.2.1 ∈ lw_gd) ∨ (∃ host, Cond.fieldLinkNest own idx (T j).1 (T j).2.1 (T j).2.2.1 host ∈ lw_nw))
def fp_ok (own : String) (idx ci j : Nat) (ty : FieldType) : Prop := ∃ (C : String) (T : u_T) (N : Nat) (ty0 : Nat → FieldType), classes[ci]? = some (C, T, N) ∧ j < N ∧ (∀ w ∈ u_ws C T N, w ∈ lw_gd) ∧ ((Cond.fieldLink own idx (T j).1 (T j).2.1 (T j).2.2.1 ∈ lw_gd) ∨ (∃ host, Cond.fieldLinkNest own idx (T j).1 (T j).2.1 (T j).2.2.1 host ∈ lw_nw)) ∧ (∀ k, k < N → parseFieldDescriptor (T k).2.2.1 = some (ty0 k)) ∧ (∀ a, a < N → ∀ b, b < N → a ≠ b → (T a).2.1 ≠ (T b).2.1) ∧ (T j).2.2.2 = false ∧ parseFieldDescriptor (T j).2.2.1 = some ty
def ml_ok (own : String) (idx : Nat) (y : MethodName) : Prop := (Cond.methodLink own idx y ∈ lw_gd) ∨ ∃ host, Cond.methodLinkNest own idx y host ∈ lw_nw
def yl_ok (y : MethodName) (M : am_M) (n : Nat) : Prop := (y.cls ≠ "java/lang/invoke/MethodHandle" ∧ y.cls ≠ "java/lang/invoke/VarHandle" ∧ (parseMethodDescriptor y.desc).map (fun d => d.parameters.length) = some n) ∧ Cond.code y M.2.1 M.2.2.1 M.2.2.2 ∈ lw_gd ∧ Cond.initialized y.cls ∈ lw_gd
def yv_ok (y : MethodName) (ci : Nat) : Prop := Cond.instanceMethod y ∈ lw_gd ∧ ∃ (C : String) (T : u_T) (N : Nat), classes[ci]? = some (C, T, N) ∧ Cond.selects C y y ∈ lw_gd
section AXM
variable {G : ag_G} {M : am_M} {h k pc : Nat} {ls : List (Nat × Value)} {st : List Value} {σ : St} {Q : Option Value → St → Prop}
theorem AX.getf {idx ci j r : Nat} {fs : List (Option (Option Nat))} {f : Option (Option Nat)} (hd : decode M.2.1 pc = .ok (.getfield idx, 3)) (hf : fl_ok M.1 idx ci j) (ht : tw[r]? = some (.inl (ci, fs))) (hj : fs[j]? = some f) (kk : AX G M h k (pc + 3) ls (tw_fld G σ r j f :: st) σ Q) : AX G M h k pc ls (.ref (G.2.2.1 r) :: st) σ Q := by
  intro p l e R s m args below meth c H locs cells slots Z A lsA C hP hD hS hl hr
  obtain ⟨Cn, T, N, hc, hN, hin, hlk⟩ := hf
  have he := tw_at (G := G) (σ := σ) ht
  have hv : (fs.mapIdx (tw_fld G σ r))[j]? = some (tw_fld G σ r j f) := by rw [List.getElem?_mapIdx, hj]; rfl
  rcases hlk with hlk | ⟨host, hlk⟩
  · exact va_get C.1 C.2.1 C.2.2.2.2.1 hin C.2.2.2.1 C.2.2.2.2.2.2.1 hP r he hc j hN (C.2.2.2.2.1 _ hlk) (fun _ h9 => h9) hv hd (kk C hP hD hS hl hr)
  · exact va_getN C.1 C.2.1 C.2.2.2.2.1 hin C.2.2.2.1 C.2.2.2.2.2.2.1 hP r he hc j hN (va_Nw.use rfl (C.2.2.2.2.2.1 _ hlk)) (fun _ h9 => h9) hv hd (kk C hP hD hS hl hr)
theorem AX.getI {idx ci j r : Nat} {fs : List (Option (Option Nat))} (hd : decode M.2.1 pc = .ok (.getfield idx, 3)) (hf : fl_ok M.1 idx ci j) (ht : tw[r]? = some (.inl (ci, fs))) (hj : fs[j]? = some none) (kk : AX G M h k (pc + 3) ls (.int (σ.1 r j) :: st) σ Q) : AX G M h k pc ls (.ref (G.2.2.1 r) :: st) σ Q := AX.getf hd hf ht hj kk
theorem AX.getJ {idx ci j r : Nat} {fs : List (Option (Option Nat))} (hd : decode M.2.1 pc = .ok (.getfield idx, 3)) (hf : fl_ok M.1 idx ci j) (ht : tw[r]? = some (.inl (ci, fs))) (hj : fs[j]? = some (some none)) (kk : AX G M h k (pc + 3) ls (.long (σ.2 r j) :: st) σ Q) : AX G M h k pc ls (.ref (G.2.2.1 r) :: st) σ Q := AX.getf hd hf ht hj kk
theorem AX.getR {idx ci j r r' : Nat} {fs : List (Option (Option Nat))} (hd : decode M.2.1 pc = .ok (.getfield idx, 3)) (hf : fl_ok M.1 idx ci j) (ht : tw[r]? = some (.inl (ci, fs))) (hj : fs[j]? = some (some (some r'))) (kk : AX G M h k (pc + 3) ls (.ref (G.2.2.1 r') :: st) σ Q) : AX G M h k pc ls (.ref (G.2.2.1 r) :: st) σ Q := AX.getf hd hf ht hj kk
theorem AX.putf {idx ci j r : Nat} {fs : List (Option (Option Nat))} {ty : FieldType} {v : Value} {σ' : St} (hd : decode M.2.1 pc = .ok (.putfield idx, 3)) (hf : fp_ok M.1 idx ci j ty) (ht : tw[r]? = some (.inl (ci, fs))) (hj : j < fs.length) (hn : narrow ty v = v) (hfit : fits ty v = true)
    (he' : (fs.mapIdx (tw_fld G σ r)).set j v = fs.mapIdx (tw_fld G σ' r)) (ho : ∀ q d', q ≠ r → tw_cell G σ' q d' = tw_cell G σ q d') (kk : AX G M h k (pc + 3) ls st σ' Q) : AX G M h k pc ls (v :: .ref (G.2.2.1 r) :: st) σ Q := by
  intro p l e R s m args below meth c H locs cells slots Z A lsA C hP hD hS hl hr
  obtain ⟨Cn, T, N, ty0, hc, hN, hin, hlk, hty, hnm, hfin, hds⟩ := hf
  have he := tw_at (G := G) (σ := σ) ht
  have hlen : j < (fs.mapIdx (tw_fld G σ r)).length := by simpa using hj
  have hset : (tw_W G σ).set r (G.2.2.1 r, .inr (ci, (fs.mapIdx (tw_fld G σ r)).set j v)) = tw_W G σ' := tw_set ht (by rw [he']; rfl) ho
  rcases hlk with hlk | ⟨host, hlk⟩
  · refine va_put C.1 C.2.1 C.2.2.2.2.1 hin ty0 hty hnm C.2.2.2.1 C.2.2.2.2.2.2.1 hP hD hS r he hc j hN (C.2.2.2.2.1 _ hlk) (fun _ h9 => h9) hfin hds hn hfit hlen hd (fun H1 locs1 hP1 hD1 hS1 => ?_)
    rw [hset] at hP1 hD1
    exact kk C hP1 hD1 hS1 hl hr
  · refine va_putN C.1 C.2.1 C.2.2.2.2.1 hin ty0 hty hnm C.2.2.2.1 C.2.2.2.2.2.2.1 hP hD hS r he hc j hN (va_Nw.use rfl (C.2.2.2.2.2.1 _ hlk)) (fun _ h9 => h9) hfin hds hn hfit hlen hd (fun H1 locs1 hP1 hD1 hS1 => ?_)
    rw [hset] at hP1 hD1
    exact kk C hP1 hD1 hS1 hl hr
theorem AX.putI {idx ci j r : Nat} {fs : List (Option (Option Nat))} {ty : FieldType} {v : Int32} (hd : decode M.2.1 pc = .ok (.putfield idx, 3)) (hf : fp_ok M.1 idx ci j ty) (ht : tw[r]? = some (.inl (ci, fs))) (hj : fs[j]? = some none) (hn : narrow ty (.int v) = .int v) (hfit : fits ty (.int v) = true) (kk : AX G M h k (pc + 3) ls st (sI σ r j v) Q) : AX G M h k pc ls (.int v :: .ref (G.2.2.1 r) :: st) σ Q := by
  refine AX.putf hd hf ht (List.getElem?_eq_some_iff.mp hj).1 hn hfit ?_ (fun q d' hq => rI_cell q d' hq) kk
  apply List.ext_getElem?
  intro i
  by_cases hi : i = j
  · subst hi
    rw [List.getElem?_set_self (by simpa using (List.getElem?_eq_some_iff.mp hj).1), List.getElem?_mapIdx, hj]
    simp [tw_fld, sI, rI_own, upd]
  · rw [List.getElem?_set_ne (Ne.symm hi), List.getElem?_mapIdx, List.getElem?_mapIdx]
    cases fs[i]? with
    | none => rfl
    | some f => cases f with
      | none => simp [tw_fld, sI, rI_own, upd, hi]
      | some f => cases f <;> rfl
theorem AX.putJ {idx ci j r : Nat} {fs : List (Option (Option Nat))} {v : Int64} (hd : decode M.2.1 pc = .ok (.putfield idx, 3)) (hf : fp_ok M.1 idx ci j .long) (ht : tw[r]? = some (.inl (ci, fs))) (hj : fs[j]? = some (some none)) (kk : AX G M h k (pc + 3) ls st (sL σ r j v) Q) : AX G M h k pc ls (.long v :: .ref (G.2.2.1 r) :: st) σ Q := by
  refine AX.putf hd hf ht (List.getElem?_eq_some_iff.mp hj).1 rfl rfl ?_ (fun q d' hq => rL_cell q d' hq) kk
  apply List.ext_getElem?
  intro i
  by_cases hi : i = j
  · subst hi
    rw [List.getElem?_set_self (by simpa using (List.getElem?_eq_some_iff.mp hj).1), List.getElem?_mapIdx, hj]
    simp [tw_fld, sL, rL_own, vp_updL]
  · rw [List.getElem?_set_ne (Ne.symm hi), List.getElem?_mapIdx, List.getElem?_mapIdx]
    cases fs[i]? with
    | none => rfl
    | some f => cases f with
      | none => simp [tw_fld, sL, rL]
      | some f => cases f with
        | none => simp [tw_fld, sL, rL_own, vp_updL, hi]
        | some f => rfl
/-! arrays -/
def inb (i : Int32) (n : Nat) : Bool := decide (0 ≤ i) && decide (i.toNatClampNeg < n)
theorem inb_in {i : Int32} {n : Nat} (hi : inb i n = true) : vp_in i n := by
  unfold inb at hi
  simp only [Bool.and_eq_true, decide_eq_true_eq] at hi
  rintro (q | q)
  · exact absurd hi.1 (Int32.not_le.mpr q)
  · omega
def wi (r : Nat) : Option Nat := match tw[r]? with
  | some (.inr (0, n, _)) => some n
  | _ => none
def wj (r : Nat) : Option Nat := match tw[r]? with
  | some (.inr (1, n, _)) => some n
  | _ => none
theorem wi_tw {r n : Nat} (hr : wi r = some n) : ∃ rs, tw[r]? = some (.inr (0, n, rs)) := by
  unfold wi at hr
  split at hr
  · rename_i n' rs he
    cases hr
    exact ⟨rs, he⟩
  · cases hr
theorem wj_tw {r n : Nat} (hr : wj r = some n) : ∃ rs, tw[r]? = some (.inr (1, n, rs)) := by
  unfold wj at hr
  split at hr
  · rename_i n' rs he
    cases hr
    exact ⟨rs, he⟩
  · cases hr
def ri (r : Nat) : Option Nat := if r = 1000 then some 3 else if r = 1001 then some 9 else wi r
def rv (σ : St) (r i : Nat) : Int32 := if r = 1000 then xa_D.getD i 0 else if r = 1001 then xa_M.getD i 0 else σ.1 r i
theorem AX.iald {r n : Nat} {i : Int32} (hd : decode M.2.1 pc = .ok (.iaload, 1)) (hw : wi r = some n) (hi : inb i n = true) (kk : AX G M h k (pc + 1) ls (.int (σ.1 r i.toNatClampNeg) :: st) σ Q) : AX G M h k pc ls (.int i :: .ref (G.2.2.1 r) :: st) σ Q := by
  intro p l e R s m args below meth c H locs cells slots Z A lsA C hP hD hS hl hr
  obtain ⟨rs, ht⟩ := wi_tw hw
  exact va_iald C.1 C.2.1 C.2.2.2.2.2.2.1 hP r 0 (tw_at ht) rfl (inb_in hi) hd (kk C hP hD hS hl hr)
theorem AX.ialdR {r n : Nat} {i : Int32} (hd : decode M.2.1 pc = .ok (.iaload, 1)) (hw : ri r = some n) (hi : inb i n = true) (kk : AX G M h k (pc + 1) ls (.int (rv σ r i.toNatClampNeg) :: st) σ Q) : AX G M h k pc ls (.int i :: .ref (G.2.2.1 r) :: st) σ Q := by
  unfold ri at hw
  by_cases h0 : r = 1000
  · subst h0
    rw [if_pos rfl] at hw
    cases hw
    intro p l e R s m args below meth c H locs cells slots Z A lsA C hP hD hS hl hr
    exact va_ti C.1 C.2.1 C.2.2.2.2.2.2.2.1.2.1 hS (inb_in hi) rfl hd (kk C hP hD hS hl hr)
  · rw [if_neg h0] at hw
    by_cases h1 : r = 1001
    · subst h1
      rw [if_pos rfl] at hw
      cases hw
      intro p l e R s m args below meth c H locs cells slots Z A lsA C hP hD hS hl hr
      exact va_ti C.1 C.2.1 C.2.2.2.2.2.2.2.1.2.2.1 hS (inb_in hi) rfl hd (kk C hP hD hS hl hr)
    · rw [if_neg h1] at hw
      have e : rv σ r i.toNatClampNeg = σ.1 r i.toNatClampNeg := by unfold rv; rw [if_neg h0, if_neg h1]
      rw [e] at kk
      exact AX.iald hd hw hi kk
theorem AX.alenR {r n : Nat} (hd : decode M.2.1 pc = .ok (.arraylength, 1)) (hw : ri r = some n) (kk : AX G M h k (pc + 1) ls (.int (Int32.ofNat n) :: st) σ Q) : AX G M h k pc ls (.ref (G.2.2.1 r) :: st) σ Q := by
  unfold ri at hw
  by_cases h0 : r = 1000
  · subst h0
    rw [if_pos rfl] at hw
    cases hw
    intro p l e R s m args below meth c H locs cells slots Z A lsA C hP hD hS hl hr
    exact va_tlen C.1 C.2.1 C.2.2.2.2.2.2.2.1.2.1 hS rfl hd (kk C hP hD hS hl hr)
  · rw [if_neg h0] at hw
    by_cases h1 : r = 1001
    · subst h1
      rw [if_pos rfl] at hw
      cases hw
      intro p l e R s m args below meth c H locs cells slots Z A lsA C hP hD hS hl hr
      exact va_tlen C.1 C.2.1 C.2.2.2.2.2.2.2.1.2.2.1 hS rfl hd (kk C hP hD hS hl hr)
    · rw [if_neg h1] at hw
      intro p l e R s m args below meth c H locs cells slots Z A lsA C hP hD hS hl hr
      obtain ⟨rs, ht⟩ := wi_tw hw
      exact va_alen C.1 C.2.1 C.2.2.2.2.2.2.1 hP r 0 (tw_at ht) (ty := .int) rfl rfl hd (kk C hP hD hS hl hr)
theorem AX.alenJ {r n : Nat} (hd : decode M.2.1 pc = .ok (.arraylength, 1)) (hw : wj r = some n) (kk : AX G M h k (pc + 1) ls (.int (Int32.ofNat n) :: st) σ Q) : AX G M h k pc ls (.ref (G.2.2.1 r) :: st) σ Q := by
  intro p l e R s m args below meth c H locs cells slots Z A lsA C hP hD hS hl hr
  obtain ⟨rs, ht⟩ := wj_tw hw
  exact va_alen C.1 C.2.1 C.2.2.2.2.2.2.1 hP r 1 (tw_at ht) (ty := .long) rfl rfl hd (kk C hP hD hS hl hr)
theorem AX.alenS (hd : decode M.2.1 pc = .ok (.arraylength, 1)) (kk : AX G M h k (pc + 1) ls (.int 4 :: st) σ Q) : AX G M h k pc ls (.ref (G.2.2.1 35) :: st) σ Q := by
  intro p l e R s m args below meth c H locs cells slots Z A lsA C hP hD hS hl hr
  exact va_alen C.1 C.2.1 C.2.2.2.2.2.2.1 hP 35 3 (tw_at (k := 35) rfl) (ty := .object "OneTriangle$Sheet") rfl rfl hd (kk C hP hD hS hl hr)
theorem AX.alenX (hd : decode M.2.1 pc = .ok (.arraylength, 1)) (kk : AX G M h k (pc + 1) ls (.int (Int32.ofNat G.2.2.2.1) :: st) σ Q) : AX G M h k pc ls (.ref (G.2.2.1 1002) :: st) σ Q := by
  intro p l e R s m args below meth c H locs cells slots Z A lsA C hP hD hS hl hr
  exact va_tlen C.1 C.2.1 C.2.2.2.2.2.2.2.1.2.2.2 hS rfl hd (kk C hP hD hS hl hr)
theorem AX.ialdX {i : Int32} (hd : decode M.2.1 pc = .ok (.iaload, 1)) (hi : inb i G.2.2.2.1 = true) (kk : AX G M h k (pc + 1) ls (.int (G.2.2.2.2 i.toNatClampNeg) :: st) σ Q) : AX G M h k pc ls (.int i :: .ref (G.2.2.1 1002) :: st) σ Q := by
  intro p l e R s m args below meth c H locs cells slots Z A lsA C hP hD hS hl hr
  exact va_ti C.1 C.2.1 C.2.2.2.2.2.2.2.1.2.2.2 hS (inb_in hi) rfl hd (kk C hP hD hS hl hr)
theorem AX.lald {r n : Nat} {i : Int32} (hd : decode M.2.1 pc = .ok (.laload, 1)) (hw : wj r = some n) (hi : inb i n = true) (kk : AX G M h k (pc + 1) ls (.long (σ.2 r i.toNatClampNeg) :: st) σ Q) : AX G M h k pc ls (.int i :: .ref (G.2.2.1 r) :: st) σ Q := by
  intro p l e R s m args below meth c H locs cells slots Z A lsA C hP hD hS hl hr
  obtain ⟨rs, ht⟩ := wj_tw hw
  exact va_lald C.1 C.2.1 C.2.2.2.2.2.2.1 hP r 1 (tw_at ht) rfl (inb_in hi) hd (kk C hP hD hS hl hr)
theorem AX.iast {r n : Nat} {i x : Int32} (hd : decode M.2.1 pc = .ok (.iastore, 1)) (hw : wi r = some n) (hi : inb i n = true) (kk : AX G M h k (pc + 1) ls st (sI σ r i.toNatClampNeg x) Q) : AX G M h k pc ls (.int x :: .int i :: .ref (G.2.2.1 r) :: st) σ Q := by
  intro p l e R s m args below meth c H locs cells slots Z A lsA C hP hD hS hl hr
  obtain ⟨rs, ht⟩ := wi_tw hw
  have hset : (tw_W G σ).set r (G.2.2.1 r, .inl (G.2.1 0, n, .inl (upd (σ.1 r) i.toNatClampNeg x))) = tw_W G (sI σ r i.toNatClampNeg x) := tw_set ht (by show Sum.inl (_, _, Sum.inl ((rI σ r _).1 r)) = _; rw [rI_own]) (fun q d' hq => rI_cell q d' hq)
  refine va_iast C.1 C.2.1 C.2.2.2.2.2.2.1 hP hD hS r 0 (tw_at ht) rfl (inb_in hi) hd (fun H1 locs1 hP1 hD1 hS1 => ?_)
  rw [hset] at hP1 hD1
  exact kk C hP1 hD1 hS1 hl hr
theorem AX.last {r n : Nat} {i : Int32} {x : Int64} (hd : decode M.2.1 pc = .ok (.lastore, 1)) (hw : wj r = some n) (hi : inb i n = true) (kk : AX G M h k (pc + 1) ls st (sL σ r i.toNatClampNeg x) Q) : AX G M h k pc ls (.long x :: .int i :: .ref (G.2.2.1 r) :: st) σ Q := by
  intro p l e R s m args below meth c H locs cells slots Z A lsA C hP hD hS hl hr
  obtain ⟨rs, ht⟩ := wj_tw hw
  have hset : (tw_W G σ).set r (G.2.2.1 r, .inl (G.2.1 1, n, .inr (.inl (vp_updL (σ.2 r) i.toNatClampNeg x)))) = tw_W G (sL σ r i.toNatClampNeg x) := tw_set ht (by show Sum.inl (_, _, Sum.inr (Sum.inl ((rL σ r _).2 r))) = _; rw [rL_own]) (fun q d' hq => rL_cell q d' hq)
  refine va_last C.1 C.2.1 C.2.2.2.2.2.2.1 hP hD hS r 1 (tw_at ht) rfl (inb_in hi) hd (fun H1 locs1 hP1 hD1 hS1 => ?_)
  rw [hset] at hP1 hD1
  exact kk C hP1 hD1 hS1 hl hr
theorem AX.zald {r n : Nat} {rs : List Nat} {i : Int32} (hd : decode M.2.1 pc = .ok (.baload, 1)) (ht : tw[r]? = some (.inr (2, n, rs))) (hi : inb i n = true) (kk : AX G M h k (pc + 1) ls (.int (σ.1 r i.toNatClampNeg) :: st) σ Q) : AX G M h k pc ls (.int i :: .ref (G.2.2.1 r) :: st) σ Q := by
  intro p l e R s m args below meth c H locs cells slots Z A lsA C hP hD hS hl hr
  exact va_zald C.1 C.2.1 C.2.2.2.2.2.2.1 hP r 2 (tw_at ht) rfl (inb_in hi) hd (kk C hP hD hS hl hr)
theorem AX.zast {r n : Nat} {rs : List Nat} {i x : Int32} (hd : decode M.2.1 pc = .ok (.bastore, 1)) (ht : tw[r]? = some (.inr (2, n, rs))) (hi : inb i n = true) (hx : vp_nar .boolean x = x) (kk : AX G M h k (pc + 1) ls st (sI σ r i.toNatClampNeg x) Q) : AX G M h k pc ls (.int x :: .int i :: .ref (G.2.2.1 r) :: st) σ Q := by
  intro p l e R s m args below meth c H locs cells slots Z A lsA C hP hD hS hl hr
  have hset : (tw_W G σ).set r (G.2.2.1 r, .inl (G.2.1 2, n, .inl (upd (σ.1 r) i.toNatClampNeg (vp_nar .boolean x)))) = tw_W G (sI σ r i.toNatClampNeg x) := tw_set ht (by show Sum.inl (_, _, Sum.inl ((rI σ r _).1 r)) = _; rw [rI_own, hx]) (fun q d' hq => rI_cell q d' hq)
  refine va_zast C.1 C.2.1 C.2.2.2.2.2.2.1 hP hD hS r 2 (tw_at ht) rfl (inb_in hi) hd (fun H1 locs1 hP1 hD1 hS1 => ?_)
  rw [hset] at hP1 hD1
  exact kk C hP1 hD1 hS1 hl hr
theorem AX.sheetld {i : Int32} (hd : decode M.2.1 pc = .ok (.aaload, 1)) (hi : inb i 4 = true) (kk : AX G M h k (pc + 1) ls (.ref (G.2.2.1 (36 + 2 * i.toNatClampNeg)) :: st) σ Q) : AX G M h k pc ls (.int i :: .ref (G.2.2.1 35) :: st) σ Q := by
  intro p l e R s m args below meth c H locs cells slots Z A lsA C hP hD hS hl hr
  refine va_aldq C.1 C.2.1 C.2.2.2.2.2.2.1 hP 35 3 (tw_at (k := 35) rfl) rfl (inb_in hi) hd ?_
  have hlt : i.toNatClampNeg < 4 := by
    unfold inb at hi
    simp only [Bool.and_eq_true, decide_eq_true_eq] at hi
    exact hi.2
  generalize i.toNatClampNeg = q at kk hlt ⊢
  match q, hlt, kk with
  | 0, _, kk => exact kk C hP hD hS hl hr
  | 1, _, kk => exact kk C hP hD hS hl hr
  | 2, _, kk => exact kk C hP hD hS hl hr
  | 3, _, kk => exact kk C hP hD hS hl hr
theorem AX.getsD {idx : Nat} (hd : decode M.2.1 pc = .ok (.getstatic idx, 3)) (hlk : Cond.fieldLink M.1 idx "OneTriangle" "DIGEST_NUMBERS" "[I" ∈ lw_gd) (kk : AX G M h k (pc + 3) ls (.ref (G.2.2.1 1000) :: st) σ Q) : AX G M h k pc ls st σ Q := by
  intro p l e R s m args below meth c H locs cells slots Z A lsA C hP hD hS hl hr
  exact va_gets C.1 C.2.1 C.2.2.2.2.2.2.2.1.1.1 hS C.2.2.2.1 (C.2.2.2.2.1 _ hlk) (fun _ h9 => h9) hd (kk C hP hD hS hl hr)
theorem AX.getsM {idx : Nat} (hd : decode M.2.1 pc = .ok (.getstatic idx, 3)) (hlk : Cond.fieldLink M.1 idx "OneTriangle$Settings" "MOST" "[I" ∈ lw_gd) (kk : AX G M h k (pc + 3) ls (.ref (G.2.2.1 1001) :: st) σ Q) : AX G M h k pc ls st σ Q := by
  intro p l e R s m args below meth c H locs cells slots Z A lsA C hP hD hS hl hr
  exact va_gets C.1 C.2.1 C.2.2.2.2.2.2.2.1.1.2 hS C.2.2.2.1 (C.2.2.2.2.1 _ hlk) (fun _ h9 => h9) hd (kk C hP hD hS hl hr)
def cpk (sp dp n : Int32) (n0 n1 : Nat) : Bool := decide (0 ≤ sp) && (decide (0 ≤ dp) && (decide (0 ≤ n) && (decide (sp.toNatClampNeg + n.toNatClampNeg ≤ n0) && decide (dp.toNatClampNeg + n.toNatClampNeg ≤ n1))))
def ac_ok (own : String) (idx : Nat) : Prop := Cond.methodLink own idx arraycopyName ∈ lw_gd ∧ Cond.native arraycopyName ∈ lw_gd ∧ Cond.static arraycopyName ∈ lw_gd ∧ Cond.initialized "java/lang/System" ∈ lw_gd
theorem AX.copyI {idx r0 r1 n0 n1 : Nat} {sp dp n : Int32} (hd : decode M.2.1 pc = .ok (.invokestatic idx, 3)) (hac : ac_ok M.1 idx) (hw0 : wi r0 = some n0) (hw1 : wi r1 = some n1) (hc : cpk sp dp n n0 n1 = true) (hcat : (st.map fun v => v.category).sum ≤ 8) (hh : 1 ≤ h ∧ 8 + (nativeFrameWords "java/lang/System" "arraycopy" 5 + 11) ≤ k)
    (kk : AX G M h k (pc + 3) ls st (rI σ r1 (va_cpy (σ.1 r0) (σ.1 r1) sp.toNatClampNeg dp.toNatClampNeg n.toNatClampNeg)) Q) : AX G M h k pc ls (.int n :: .int dp :: .ref (G.2.2.1 r1) :: .int sp :: .ref (G.2.2.1 r0) :: st) σ Q := by
  intro p l e R s m args below meth c H locs cells slots Z A lsA C hP hD hS hl hr
  obtain ⟨rs0, ht0⟩ := wi_tw hw0
  obtain ⟨rs1, ht1⟩ := wi_tw hw1
  unfold cpk at hc
  simp only [Bool.and_eq_true, decide_eq_true_eq] at hc
  have hset : (tw_W G σ).set r1 (G.2.2.1 r1, .inl (G.2.1 0, n1, .inl (va_cpy (σ.1 r0) (σ.1 r1) sp.toNatClampNeg dp.toNatClampNeg n.toNatClampNeg))) = tw_W G (rI σ r1 (va_cpy (σ.1 r0) (σ.1 r1) sp.toNatClampNeg dp.toNatClampNeg n.toNatClampNeg)) := tw_set ht1 (by show Sum.inl (_, _, Sum.inl ((rI σ r1 _).1 r1)) = _; rw [rI_own]) (fun q d' hq => rI_cell q d' hq)
  have hR := C.2.2.2.2.2.2.2.2.2.1
  refine va_copyi C.1 C.2.1 (C.2.2.1.trans hl.1.symm) C.2.2.2.1 (C.2.2.2.2.1 _ hac.1) (C.2.2.2.2.1 _ hac.2.1) (C.2.2.2.2.1 _ hac.2.2.1) (C.2.2.2.2.1 _ hac.2.2.2) C.2.2.2.2.2.2.1 hP hD hS r0 r1 0 0 (tw_at ht0) (tw_at ht1) rfl rfl rfl (Int32.not_lt.mpr hc.1) (Int32.not_lt.mpr hc.2.1) (Int32.not_lt.mpr hc.2.2.1) hc.2.2.2.1 hc.2.2.2.2 (fun _ _ => rfl) (Nat.le_trans hh.1 hR.1) (Nat.le_trans (Nat.le_trans (Nat.add_le_add_right hcat _) hh.2) hR.2) hd (fun H1 locs1 hP1 hD1 hS1 => ?_)
  rw [hset] at hP1 hD1
  exact kk C hP1 hD1 hS1 hl hr
theorem AX.copyL {idx r0 r1 n0 n1 : Nat} {sp dp n : Int32} (hd : decode M.2.1 pc = .ok (.invokestatic idx, 3)) (hac : ac_ok M.1 idx) (hw0 : wj r0 = some n0) (hw1 : wj r1 = some n1) (hc : cpk sp dp n n0 n1 = true) (hcat : (st.map fun v => v.category).sum ≤ 8) (hh : 1 ≤ h ∧ 8 + (nativeFrameWords "java/lang/System" "arraycopy" 5 + 11) ≤ k)
    (kk : AX G M h k (pc + 3) ls st (rL σ r1 (va_cpy (σ.2 r0) (σ.2 r1) sp.toNatClampNeg dp.toNatClampNeg n.toNatClampNeg)) Q) : AX G M h k pc ls (.int n :: .int dp :: .ref (G.2.2.1 r1) :: .int sp :: .ref (G.2.2.1 r0) :: st) σ Q := by
  intro p l e R s m args below meth c H locs cells slots Z A lsA C hP hD hS hl hr
  obtain ⟨rs0, ht0⟩ := wj_tw hw0
  obtain ⟨rs1, ht1⟩ := wj_tw hw1
  unfold cpk at hc
  simp only [Bool.and_eq_true, decide_eq_true_eq] at hc
  have hset : (tw_W G σ).set r1 (G.2.2.1 r1, .inl (G.2.1 1, n1, .inr (.inl (va_cpy (σ.2 r0) (σ.2 r1) sp.toNatClampNeg dp.toNatClampNeg n.toNatClampNeg)))) = tw_W G (rL σ r1 (va_cpy (σ.2 r0) (σ.2 r1) sp.toNatClampNeg dp.toNatClampNeg n.toNatClampNeg)) := tw_set ht1 (by show Sum.inl (_, _, Sum.inr (Sum.inl ((rL σ r1 _).2 r1))) = _; rw [rL_own]) (fun q d' hq => rL_cell q d' hq)
  have hR := C.2.2.2.2.2.2.2.2.2.1
  refine va_copyl C.1 C.2.1 (C.2.2.1.trans hl.1.symm) C.2.2.2.1 (C.2.2.2.2.1 _ hac.1) (C.2.2.2.2.1 _ hac.2.1) (C.2.2.2.2.1 _ hac.2.2.1) (C.2.2.2.2.1 _ hac.2.2.2) C.2.2.2.2.2.2.1 hP hD hS r0 r1 1 1 (tw_at ht0) (tw_at ht1) rfl rfl rfl (Int32.not_lt.mpr hc.1) (Int32.not_lt.mpr hc.2.1) (Int32.not_lt.mpr hc.2.2.1) hc.2.2.2.1 hc.2.2.2.2 (fun _ _ => rfl) (Nat.le_trans hh.1 hR.1) (Nat.le_trans (Nat.le_trans (Nat.add_le_add_right hcat _) hh.2) hR.2) hd (fun H1 locs1 hP1 hD1 hS1 => ?_)
  rw [hset] at hP1 hD1
  exact kk C hP1 hD1 hS1 hl hr
end AXM
theorem lw_nw_same {w : Cond} (h : w ∈ lw_nw) {u U : State} (hv : u.vm = U.vm) (hZ : va_Nw w u) : va_Nw w U := by
  have hn := (List.mem_filter.mp h).2
  cases w <;> first | exact va_Nw.same rfl hv hZ | (exfalso; revert hn; simp [lw_isN])
theorem ax_blind {G : ag_G} {σ : St} {sz : Nat} {As : List Value} : FrameBlind (va_Pc As (ax_B G σ sz)) := by
  intro a U g mk q
  obtain ⟨q0, q1, qP, qK, qD, qN, qS⟩ := q
  exact ⟨q0, q1, qP, va_K.moved (u := U) (U := U.calling g mk a) (Vm.Alike.refl U.vm) qK, qD, fun w hw => lw_nw_same hw (u := U) (U := U.calling g mk a) rfl (qN w hw), ax_St.moved (u := U) (U := U.calling g mk a) (Vm.Alike.refl U.vm) qS⟩
theorem ax_pre {G : ag_G} {M : am_M} {h k : Nat} {p : Program} {R : Room} {s : State} {m : MethodId} {args : Array Value} {c : Code} {A : Nat → Prop} {cells slots : Nat} {σ : St} {H : Heap} {locs : List Loc} (C : ax_C G M h k p R s m args c A cells slots) (hP : va_P G.1 classes (tw_W G σ) H) (hD : va_D A (tw_W G σ)) (hS : va_S A s.heap H locs) {As : List Value} : ∀ U : State, U.heap = H → s.WarmedH U.vm → va_Pc As (ax_B G σ H.size) As.toArray U := by
  intro U hU hW
  have hF : ∀ q, va_A (tw_W G σ) H.size q → A q := by
    intro q hq
    rcases hq with ⟨j, e, hj⟩ | hq
    · exact hD.2 j (q, e) hj
    · exact C.2.2.2.2.2.2.2.2.1 q (Nat.le_trans hS.1 hq)
  exact ⟨rfl, by rw [hU], by rw [hU]; exact hP, va_K.moved hW.alike C.2.2.2.2.2.2.1, hD.weaken (fun _ _ _ _ => trivial), fun w hw => lw_nw_warm hw hW (C.2.2.2.2.2.1 w hw), by rw [hU]; exact ((C.2.2.2.2.2.2.2.1.kept hS.2.1).narrow hF).moved hW.alike⟩
theorem ax_post {G : ag_G} {M : am_M} {h k : Nat} {p : Program} {l : Launch} {e : Env} {R : Room} {s : State} {m : MethodId} {args : Array Value} {below : List Frame} {meth : Method} {c : Code} {A : Nat → Prop} {cells slots : Nat} {σ : St} {H : Heap} {locs : List Loc} {pc : Nat} {lsA : Array Slot} {ls : List (Nat × Value)} {st rest : List Value} {Q Q' : Option Value → St → Prop} {Z : State → Prop} {a : Array Value}
    (C : ax_C G M h k p R s m args c A cells slots) (hD : va_D A (tw_W G σ)) (hS : va_S A s.heap H locs) (hl : lv_has lsA M.2.2.1 ls)
    (hr : ∀ (v : Option Value) (σ' : St) (H' : Heap) (locs' : List Loc) (pc' : Nat) (lsB : Array Slot), ax_R M pc' v → Q v σ' → va_P G.1 classes (tw_W G σ') H' → va_D A (tw_W G σ') → va_S A s.heap H' locs' → W p l e R s m args below meth c H' locs' cells slots Z (F0 m pc' lsB v.toList))
    (run : va_Run p l e R s m args below meth c H locs cells slots 0 0 (F0 m pc lsA st) rest (ax_Q G σ H.size Q' a) (va_A (tw_W G σ) H.size)) (kk : ∀ v σ', Q' v σ' → AX G M h k (pc + 3) ls (v.toList ++ rest) σ' Q) : W p l e R s m args below meth c H locs cells slots Z (F0 m pc lsA st) := by
  have hF : ∀ q, va_A (tw_W G σ) H.size q → A q := by
    intro q hq
    rcases hq with ⟨j, e, hj⟩ | hq
    · exact hD.2 j (q, e) hj
    · exact C.2.2.2.2.2.2.2.2.1 q (Nat.le_trans hS.1 hq)
  intro T hT X
  obtain ⟨v, st₀, t, T', L, h0, X', hL, e1, e2, ⟨⟨v1, σ', hv, hq, hP', hD'⟩, hz, hk⟩, stp⟩ := run T hT X
  cases hv
  rw [h0] at hz hk
  have hST : va_S A s.heap T'.heap (locs ++ L) := ⟨Nat.le_trans hS.1 (by rw [e1]; exact hz), fun q h1 h2 => by rw [e1, hk q (Nat.lt_of_lt_of_le h1 hS.1) (fun z => h2 (hF q z))]; exact hS.2.1 q h1 h2, fun q hq => by
    rcases List.mem_append.mp hq with h | h
    · exact hS.2.2 q h
    · exact hF _ (hL q h)⟩
  obtain ⟨t2, a1, b1⟩ := kk v σ' hq C (by rw [e1]; exact hP') (hD'.weaken (fun _ q _ hx => hF q.1 hx)) hST hl hr T' rfl X'
  exact ⟨t2, stp t2 a1, b1⟩
section AXK
variable {G : ag_G} {M : am_M} {h k pc : Nat} {ls : List (Nat × Value)} {st : List Value} {σ : St} {Q : Option Value → St → Prop}
theorem yl_gi {y : MethodName} {M' : am_M} {n : Nat} (hy : yl_ok y M' n) : GoodIn lw_gd (Cond.code y M'.2.1 M'.2.2.1 M'.2.2.2 :: lw_gd) := by
  intro w hw
  rcases List.mem_cons.mp hw with rfl | hw
  · exact ⟨hy.2.1, lw_gd_good hy.2.1⟩
  · exact lw_gd_gi w hw
theorem AX.callV {idx n ci r : Nat} {y : MethodName} {M' : am_M} {h' k' : Nat} {As rest : List Value} {fs : List (Option (Option Nat))} {Q' : Option Value → St → Prop} (hd : decode M.2.1 pc = .ok (.invokevirtual idx, 3)) (hlk : ml_ok M.1 idx y) (hy : yl_ok y M' n) (hv : yv_ok y ci) (ht : tw[r]? = some (.inl (ci, fs))) (hst : st = As.reverse ++ .ref (G.2.2.1 r) :: rest) (hn : As.length = n) (hcat : (rest.map fun v => v.category).sum ≤ 8) (hh : h' + 1 ≤ h ∧ 8 + (M'.2.2.1 + 11) + k' ≤ k)
    (hc : AC G y M' h' k' (.ref (G.2.2.1 r) :: As) σ Q') (kk : ∀ v σ', Q' v σ' → AX G M h k (pc + 3) ls (v.toList ++ rest) σ' Q) : AX G M h k pc ls st σ Q := by
  intro p l e R s m args below meth c H locs cells slots Z A lsA C hP hD hS hl hr
  obtain ⟨hin, Cn, T, N, hcl, hsel⟩ := hv
  have hR := C.2.2.2.2.2.2.2.2.2.1
  have hR' : h' + 1 ≤ R.frames ∧ 8 + (M'.2.2.1 + 11) + k' ≤ R.locals := ⟨Nat.le_trans hh.1 hR.1, Nat.le_trans hh.2 hR.2⟩
  have hf : cells + 0 ≤ R.cells ∧ slots + 0 ≤ R.slots := C.2.2.2.2.2.2.2.2.2.2
  have hrec := va_recv C.2.2.2.2.2.2.1 hP hcl (tw_at (G := G) (σ := σ) ht)
  have pre : PreV s H Cn (G.2.2.1 r) (va_Pc (.ref (G.2.2.1 r) :: As) (ax_B G σ H.size)) As := ⟨ax_blind, hrec, ax_pre C hP hD hS⟩
  rcases hlk with hlk | ⟨host, hlk⟩
  · refine ax_post C hD hS hl hr (va_runV (As := As) (rest := rest) (Ts := lw_gd) ⟨C.1, C.2.1, C.2.2.1, C.2.2.2.1, C.2.2.2.2.1⟩ (hc l H.size) ⟨callB_of n C.2.2.2.2.1 (yl_gi hy) rfl rfl rfl (C.2.2.2.2.1 _ hy.2.2) (C.2.2.2.2.1 _ hlk) hy.1 hR', C.2.2.2.2.1 _ hin, C.2.2.2.2.1 _ hsel⟩ pre rfl hn hl.1 hst (lv_room hcat) hd hf) kk
  · refine ax_post C hD hS hl hr (va_runVN (As := As) (rest := rest) (Ts := lw_gd) ⟨C.1, C.2.1, C.2.2.1, C.2.2.2.1, C.2.2.2.2.1⟩ (hc l H.size) ⟨va_cnB n C.2.2.2.2.1 (yl_gi hy) rfl rfl rfl (C.2.2.2.2.2.1 _ hlk) (C.2.2.2.2.1 _ hy.2.2) hy.1 hR', C.2.2.2.2.1 _ hin, C.2.2.2.2.1 _ hsel⟩ pre rfl hn hl.1 hst (lv_room hcat) hd hf) kk
theorem AX.callS {idx n : Nat} {y : MethodName} {M' : am_M} {h' k' : Nat} {As rest : List Value} {Q' : Option Value → St → Prop} (hd : decode M.2.1 pc = .ok (.invokestatic idx, 3)) (hlk : ml_ok M.1 idx y) (hy : yl_ok y M' n) (hs : Cond.static y ∈ lw_gd) (hst : st = As.reverse ++ rest) (hn : As.length = n) (hcat : (rest.map fun v => v.category).sum ≤ 8) (hh : h' + 1 ≤ h ∧ 8 + (M'.2.2.1 + 11) + k' ≤ k)
    (hc : AC G y M' h' k' As σ Q') (kk : ∀ v σ', Q' v σ' → AX G M h k (pc + 3) ls (v.toList ++ rest) σ' Q) : AX G M h k pc ls st σ Q := by
  intro p l e R s m args below meth c H locs cells slots Z A lsA C hP hD hS hl hr
  have hR := C.2.2.2.2.2.2.2.2.2.1
  have hR' : h' + 1 ≤ R.frames ∧ 8 + (M'.2.2.1 + 11) + k' ≤ R.locals := ⟨Nat.le_trans hh.1 hR.1, Nat.le_trans hh.2 hR.2⟩
  have hf : cells + 0 ≤ R.cells ∧ slots + 0 ≤ R.slots := C.2.2.2.2.2.2.2.2.2.2
  have pre : PreS s H (va_Pc As (ax_B G σ H.size)) As := ⟨ax_blind, ax_pre C hP hD hS⟩
  rcases hlk with hlk | ⟨host, hlk⟩
  · refine ax_post C hD hS hl hr (va_runS (As := As) (rest := rest) (Ts := lw_gd) ⟨C.1, C.2.1, C.2.2.1, C.2.2.2.1, C.2.2.2.2.1⟩ (hc l H.size) ⟨callB_of n C.2.2.2.2.1 (yl_gi hy) rfl rfl rfl (C.2.2.2.2.1 _ hy.2.2) (C.2.2.2.2.1 _ hlk) hy.1 hR', C.2.2.2.2.1 _ hs⟩ pre rfl hn hl.1 hst (lv_room hcat) hd hf) kk
  · refine ax_post C hD hS hl hr (va_runSN (As := As) (rest := rest) (Ts := lw_gd) ⟨C.1, C.2.1, C.2.2.1, C.2.2.2.1, C.2.2.2.2.1⟩ (hc l H.size) ⟨va_cnB n C.2.2.2.2.1 (yl_gi hy) rfl rfl rfl (C.2.2.2.2.2.1 _ hlk) (C.2.2.2.2.1 _ hy.2.2) hy.1 hR', C.2.2.2.2.1 _ hs, trivial⟩ pre rfl hn hl.1 hst (lv_room hcat) hd hf) kk
end AXK
end
section
theorem tb1 {w : Cond} (h : w ∈ tables_1_1) : w ∈ tables_1 := List.mem_append_left _ h
theorem gd1 {i : Nat} {w : Cond} (h : tables_1_1[i]? = some w) (hg : goodWord w = true) : w ∈ lw_gd := List.mem_filter.mpr ⟨List.mem_append_right _ (tb1 (List.mem_of_getElem? h)), hg⟩
theorem nw1 {i : Nat} {w : Cond} (h : tables_1_1[i]? = some w) (hg : lw_isN w = true) : w ∈ lw_nw := List.mem_filter.mpr ⟨List.mem_append_right _ (tb1 (List.mem_of_getElem? h)), hg⟩
theorem tb2 {w : Cond} (h : w ∈ tables_1_2) : w ∈ tables_1 := List.mem_append_right _ (List.mem_append_left _ h)
theorem gd2 {i : Nat} {w : Cond} (h : tables_1_2[i]? = some w) (hg : goodWord w = true) : w ∈ lw_gd := List.mem_filter.mpr ⟨List.mem_append_right _ (tb2 (List.mem_of_getElem? h)), hg⟩
theorem nw2 {i : Nat} {w : Cond} (h : tables_1_2[i]? = some w) (hg : lw_isN w = true) : w ∈ lw_nw := List.mem_filter.mpr ⟨List.mem_append_right _ (tb2 (List.mem_of_getElem? h)), hg⟩
theorem tb3 {w : Cond} (h : w ∈ tables_1_3) : w ∈ tables_1 := List.mem_append_right _ (List.mem_append_right _ (List.mem_append_left _ h))
theorem gd3 {i : Nat} {w : Cond} (h : tables_1_3[i]? = some w) (hg : goodWord w = true) : w ∈ lw_gd := List.mem_filter.mpr ⟨List.mem_append_right _ (tb3 (List.mem_of_getElem? h)), hg⟩
theorem nw3 {i : Nat} {w : Cond} (h : tables_1_3[i]? = some w) (hg : lw_isN w = true) : w ∈ lw_nw := List.mem_filter.mpr ⟨List.mem_append_right _ (tb3 (List.mem_of_getElem? h)), hg⟩
theorem tb4 {w : Cond} (h : w ∈ tables_1_4) : w ∈ tables_1 := List.mem_append_right _ (List.mem_append_right _ (List.mem_append_right _ (List.mem_append_left _ h)))
theorem gd4 {i : Nat} {w : Cond} (h : tables_1_4[i]? = some w) (hg : goodWord w = true) : w ∈ lw_gd := List.mem_filter.mpr ⟨List.mem_append_right _ (tb4 (List.mem_of_getElem? h)), hg⟩
theorem nw4 {i : Nat} {w : Cond} (h : tables_1_4[i]? = some w) (hg : lw_isN w = true) : w ∈ lw_nw := List.mem_filter.mpr ⟨List.mem_append_right _ (tb4 (List.mem_of_getElem? h)), hg⟩
theorem tb5 {w : Cond} (h : w ∈ tables_1_5) : w ∈ tables_1 := List.mem_append_right _ (List.mem_append_right _ (List.mem_append_right _ (List.mem_append_right _ (List.mem_append_left _ h))))
theorem gd5 {i : Nat} {w : Cond} (h : tables_1_5[i]? = some w) (hg : goodWord w = true) : w ∈ lw_gd := List.mem_filter.mpr ⟨List.mem_append_right _ (tb5 (List.mem_of_getElem? h)), hg⟩
theorem nw5 {i : Nat} {w : Cond} (h : tables_1_5[i]? = some w) (hg : lw_isN w = true) : w ∈ lw_nw := List.mem_filter.mpr ⟨List.mem_append_right _ (tb5 (List.mem_of_getElem? h)), hg⟩
theorem tb6 {w : Cond} (h : w ∈ tables_1_6) : w ∈ tables_1 := List.mem_append_right _ (List.mem_append_right _ (List.mem_append_right _ (List.mem_append_right _ (List.mem_append_right _ (h)))))
theorem gd6 {i : Nat} {w : Cond} (h : tables_1_6[i]? = some w) (hg : goodWord w = true) : w ∈ lw_gd := List.mem_filter.mpr ⟨List.mem_append_right _ (tb6 (List.mem_of_getElem? h)), hg⟩
theorem nw6 {i : Nat} {w : Cond} (h : tables_1_6[i]? = some w) (hg : lw_isN w = true) : w ∈ lw_nw := List.mem_filter.mpr ⟨List.mem_append_right _ (tb6 (List.mem_of_getElem? h)), hg⟩
abbrev mX0_init : am_M := (RX0, cX0_init, 1, none)
abbrev mX0_clear : am_M := (RX0, cX0_clear, 1, none)
set_option maxRecDepth 100000 in
theorem ylX0_clear : yl_ok yX0_clear mX0_clear 0 := ⟨⟨by decide, by decide, by decide +kernel⟩, gd2 (i := 173) rfl rfl, gd1 (i := 9) rfl rfl⟩
set_option maxRecDepth 100000 in
theorem yvX0_clear : yv_ok yX0_clear 0 := ⟨gd2 (i := 171) rfl rfl, RX0, TX0, 3, rfl, gd2 (i := 172) rfl rfl⟩
abbrev mX0_append : am_M := (RX0, cX0_append, 2, (some .boolean))
set_option maxRecDepth 100000 in
theorem ylX0_append : yl_ok yX0_append mX0_append 1 := ⟨⟨by decide, by decide, by decide +kernel⟩, gd2 (i := 185) rfl rfl, gd1 (i := 9) rfl rfl⟩
set_option maxRecDepth 100000 in
theorem yvX0_append : yv_ok yX0_append 0 := ⟨gd2 (i := 183) rfl rfl, RX0, TX0, 3, rfl, gd2 (i := 184) rfl rfl⟩
abbrev mX0_firstWrong : am_M := (RX0, cX0_firstWrong, 2, (some .int))
set_option maxRecDepth 100000 in
theorem ylX0_firstWrong : yl_ok yX0_firstWrong mX0_firstWrong 0 := ⟨⟨by decide, by decide, by decide +kernel⟩, gd3 (i := 201) rfl rfl, gd1 (i := 9) rfl rfl⟩
set_option maxRecDepth 100000 in
theorem yvX0_firstWrong : yv_ok yX0_firstWrong 0 := ⟨gd3 (i := 199) rfl rfl, RX0, TX0, 3, rfl, gd3 (i := 200) rfl rfl⟩
abbrev mX0_allWrong : am_M := (RX0, cX0_allWrong, 3, (some .int))
set_option maxRecDepth 100000 in
theorem ylX0_allWrong : yl_ok yX0_allWrong mX0_allWrong 0 := ⟨⟨by decide, by decide, by decide +kernel⟩, gd3 (i := 210) rfl rfl, gd1 (i := 9) rfl rfl⟩
set_option maxRecDepth 100000 in
theorem yvX0_allWrong : yv_ok yX0_allWrong 0 := ⟨gd3 (i := 208) rfl rfl, RX0, TX0, 3, rfl, gd3 (i := 209) rfl rfl⟩
abbrev mX0_isWrong : am_M := (RX0, cX0_isWrong, 3, (some .boolean))
set_option maxRecDepth 100000 in
theorem ylX0_isWrong : yl_ok yX0_isWrong mX0_isWrong 1 := ⟨⟨by decide, by decide, by decide +kernel⟩, gd3 (i := 205) rfl rfl, gd1 (i := 9) rfl rfl⟩
set_option maxRecDepth 100000 in
theorem yvX0_isWrong : yv_ok yX0_isWrong 0 := ⟨gd3 (i := 204) rfl rfl, RX0, TX0, 3, rfl, lw_gd_p (i := 20) rfl rfl⟩
abbrev mX1_init : am_M := (RX1, cX1_init, 1, none)
abbrev mX1_draw : am_M := (RX1, cX1_draw, 1, (some .int))
set_option maxRecDepth 100000 in
theorem ylX1_draw : yl_ok yX1_draw mX1_draw 0 := ⟨⟨by decide, by decide, by decide +kernel⟩, gd3 (i := 227) rfl rfl, gd1 (i := 10) rfl rfl⟩
set_option maxRecDepth 100000 in
theorem yvX1_draw : yv_ok yX1_draw 1 := ⟨gd3 (i := 225) rfl rfl, RX1, TX1, 1, rfl, gd3 (i := 226) rfl rfl⟩
abbrev mX2_init : am_M := (RX2, cX2_init, 1, none)
abbrev mX2_append : am_M := (RX2, cX2_append, 4, (some .boolean))
set_option maxRecDepth 100000 in
theorem ylX2_append : yl_ok yX2_append mX2_append 3 := ⟨⟨by decide, by decide, by decide +kernel⟩, gd2 (i := 197) rfl rfl, gd1 (i := 5) rfl rfl⟩
set_option maxRecDepth 100000 in
theorem yvX2_append : yv_ok yX2_append 2 := ⟨gd2 (i := 195) rfl rfl, RX2, TX2, 4, rfl, gd2 (i := 196) rfl rfl⟩
abbrev mX2_weigh : am_M := (RX2, cX2_weigh, 9, (some .long))
set_option maxRecDepth 100000 in
theorem ylX2_weigh : yl_ok yX2_weigh mX2_weigh 4 := ⟨⟨by decide, by decide, by decide +kernel⟩, gd3 (i := 3) rfl rfl, gd1 (i := 5) rfl rfl⟩
set_option maxRecDepth 100000 in
theorem yvX2_weigh : yv_ok yX2_weigh 2 := ⟨gd3 (i := 1) rfl rfl, RX2, TX2, 4, rfl, gd3 (i := 2) rfl rfl⟩
abbrev mX3_init : am_M := (RX3, cX3_init, 1, none)
abbrev mX3_missedOf : am_M := (RX3, cX3_missedOf, 2, (some .int))
set_option maxRecDepth 100000 in
theorem ylX3_missedOf : yl_ok yX3_missedOf mX3_missedOf 1 := ⟨⟨by decide, by decide, by decide +kernel⟩, gd2 (i := 130) rfl rfl, gd1 (i := 4) rfl rfl⟩
set_option maxRecDepth 100000 in
theorem yvX3_missedOf : yv_ok yX3_missedOf 3 := ⟨gd2 (i := 128) rfl rfl, RX3, TX3, 2, rfl, gd2 (i := 129) rfl rfl⟩
abbrev mX3_doubledOf : am_M := (RX3, cX3_doubledOf, 2, (some .int))
set_option maxRecDepth 100000 in
theorem ylX3_doubledOf : yl_ok yX3_doubledOf mX3_doubledOf 1 := ⟨⟨by decide, by decide, by decide +kernel⟩, gd2 (i := 135) rfl rfl, gd1 (i := 4) rfl rfl⟩
set_option maxRecDepth 100000 in
theorem yvX3_doubledOf : yv_ok yX3_doubledOf 3 := ⟨gd2 (i := 133) rfl rfl, RX3, TX3, 2, rfl, gd2 (i := 134) rfl rfl⟩
abbrev mX3_become : am_M := (RX3, cX3_become, 4, none)
set_option maxRecDepth 100000 in
theorem ylX3_become : yl_ok yX3_become mX3_become 3 := ⟨⟨by decide, by decide, by decide +kernel⟩, gd2 (i := 139) rfl rfl, gd1 (i := 4) rfl rfl⟩
set_option maxRecDepth 100000 in
theorem yvX3_become : yv_ok yX3_become 3 := ⟨gd2 (i := 137) rfl rfl, RX3, TX3, 2, rfl, gd2 (i := 138) rfl rfl⟩
abbrev mX4_init : am_M := (RX4, cX4_init, 1, none)
abbrev mX4_append : am_M := (RX4, cX4_append, 2, (some .boolean))
set_option maxRecDepth 100000 in
theorem ylX4_append : yl_ok yX4_append mX4_append 1 := ⟨⟨by decide, by decide, by decide +kernel⟩, gd2 (i := 46) rfl rfl, gd1 (i := 2) rfl rfl⟩
set_option maxRecDepth 100000 in
theorem yvX4_append : yv_ok yX4_append 4 := ⟨gd2 (i := 44) rfl rfl, RX4, TX4, 10, rfl, gd2 (i := 45) rfl rfl⟩
abbrev mX4_shorten : am_M := (RX4, cX4_shorten, 2, none)
set_option maxRecDepth 100000 in
theorem ylX4_shorten : yl_ok yX4_shorten mX4_shorten 1 := ⟨⟨by decide, by decide, by decide +kernel⟩, gd2 (i := 93) rfl rfl, gd1 (i := 2) rfl rfl⟩
set_option maxRecDepth 100000 in
theorem yvX4_shorten : yv_ok yX4_shorten 4 := ⟨gd2 (i := 91) rfl rfl, RX4, TX4, 10, rfl, gd2 (i := 92) rfl rfl⟩
abbrev mX4_hasBar : am_M := (RX4, cX4_hasBar, 2, (some .boolean))
set_option maxRecDepth 100000 in
theorem ylX4_hasBar : yl_ok yX4_hasBar mX4_hasBar 1 := ⟨⟨by decide, by decide, by decide +kernel⟩, gd2 (i := 109) rfl rfl, gd1 (i := 2) rfl rfl⟩
set_option maxRecDepth 100000 in
theorem yvX4_hasBar : yv_ok yX4_hasBar 4 := ⟨gd2 (i := 107) rfl rfl, RX4, TX4, 10, rfl, gd2 (i := 108) rfl rfl⟩
abbrev mX4_isLoose : am_M := (RX4, cX4_isLoose, 2, (some .boolean))
set_option maxRecDepth 100000 in
theorem ylX4_isLoose : yl_ok yX4_isLoose mX4_isLoose 1 := ⟨⟨by decide, by decide, by decide +kernel⟩, gd3 (i := 8) rfl rfl, gd1 (i := 2) rfl rfl⟩
set_option maxRecDepth 100000 in
theorem yvX4_isLoose : yv_ok yX4_isLoose 4 := ⟨gd3 (i := 6) rfl rfl, RX4, TX4, 10, rfl, gd3 (i := 7) rfl rfl⟩
abbrev mX4_kindOf : am_M := (RX4, cX4_kindOf, 2, (some .int))
set_option maxRecDepth 100000 in
theorem ylX4_kindOf : yl_ok yX4_kindOf mX4_kindOf 1 := ⟨⟨by decide, by decide, by decide +kernel⟩, gd2 (i := 113) rfl rfl, gd1 (i := 2) rfl rfl⟩
set_option maxRecDepth 100000 in
theorem yvX4_kindOf : yv_ok yX4_kindOf 4 := ⟨gd2 (i := 111) rfl rfl, RX4, TX4, 10, rfl, gd2 (i := 112) rfl rfl⟩
abbrev mX4_cueIn : am_M := (RX4, cX4_cueIn, 2, (some .int))
set_option maxRecDepth 100000 in
theorem ylX4_cueIn : yl_ok yX4_cueIn mX4_cueIn 1 := ⟨⟨by decide, by decide, by decide +kernel⟩, gd2 (i := 122) rfl rfl, gd1 (i := 2) rfl rfl⟩
set_option maxRecDepth 100000 in
theorem yvX4_cueIn : yv_ok yX4_cueIn 4 := ⟨gd2 (i := 120) rfl rfl, RX4, TX4, 10, rfl, gd2 (i := 121) rfl rfl⟩
abbrev mX4_tuneOf : am_M := (RX4, cX4_tuneOf, 2, (some .int))
set_option maxRecDepth 100000 in
theorem ylX4_tuneOf : yl_ok yX4_tuneOf mX4_tuneOf 1 := ⟨⟨by decide, by decide, by decide +kernel⟩, gd2 (i := 117) rfl rfl, gd1 (i := 2) rfl rfl⟩
set_option maxRecDepth 100000 in
theorem yvX4_tuneOf : yv_ok yX4_tuneOf 4 := ⟨gd2 (i := 115) rfl rfl, RX4, TX4, 10, rfl, gd2 (i := 116) rfl rfl⟩
abbrev mX4_barOf : am_M := (RX4, cX4_barOf, 2, (some .int))
set_option maxRecDepth 100000 in
theorem ylX4_barOf : yl_ok yX4_barOf mX4_barOf 1 := ⟨⟨by decide, by decide, by decide +kernel⟩, gd3 (i := 125) rfl rfl, gd1 (i := 2) rfl rfl⟩
set_option maxRecDepth 100000 in
theorem yvX4_barOf : yv_ok yX4_barOf 4 := ⟨gd3 (i := 123) rfl rfl, RX4, TX4, 10, rfl, gd3 (i := 124) rfl rfl⟩
abbrev mX4_understand : am_M := (RX4, cX4_understand, 4, none)
set_option maxRecDepth 100000 in
theorem ylX4_understand : yl_ok yX4_understand mX4_understand 0 := ⟨⟨by decide, by decide, by decide +kernel⟩, gd2 (i := 50) rfl rfl, gd1 (i := 2) rfl rfl⟩
set_option maxRecDepth 100000 in
theorem yvX4_understand : yv_ok yX4_understand 4 := ⟨gd2 (i := 49) rfl rfl, RX4, TX4, 10, rfl, lw_gd_p (i := 0) rfl rfl⟩
abbrev mX4_byteAt : am_M := (RX4, cX4_byteAt, 2, (some .int))
set_option maxRecDepth 100000 in
theorem ylX4_byteAt : yl_ok yX4_byteAt mX4_byteAt 1 := ⟨⟨by decide, by decide, by decide +kernel⟩, gd2 (i := 54) rfl rfl, gd1 (i := 2) rfl rfl⟩
set_option maxRecDepth 100000 in
theorem yvX4_byteAt : yv_ok yX4_byteAt 4 := ⟨gd2 (i := 53) rfl rfl, RX4, TX4, 10, rfl, lw_gd_p (i := 1) rfl rfl⟩
abbrev mX4_passed : am_M := (RX4, cX4_passed, 2, (some .int))
set_option maxRecDepth 100000 in
theorem ylX4_passed : yl_ok yX4_passed mX4_passed 1 := ⟨⟨by decide, by decide, by decide +kernel⟩, gd2 (i := 61) rfl rfl, gd1 (i := 2) rfl rfl⟩
set_option maxRecDepth 100000 in
theorem yvX4_passed : yv_ok yX4_passed 4 := ⟨gd2 (i := 60) rfl rfl, RX4, TX4, 10, rfl, lw_gd_p (i := 2) rfl rfl⟩
abbrev mX4_passedPlain : am_M := (RX4, cX4_passedPlain, 4, (some .int))
set_option maxRecDepth 100000 in
theorem ylX4_passedPlain : yl_ok yX4_passedPlain mX4_passedPlain 1 := ⟨⟨by decide, by decide, by decide +kernel⟩, gd2 (i := 65) rfl rfl, gd1 (i := 2) rfl rfl⟩
set_option maxRecDepth 100000 in
theorem yvX4_passedPlain : yv_ok yX4_passedPlain 4 := ⟨gd2 (i := 64) rfl rfl, RX4, TX4, 10, rfl, lw_gd_p (i := 3) rfl rfl⟩
abbrev mX4_passedLoose : am_M := (RX4, cX4_passedLoose, 3, (some .int))
set_option maxRecDepth 100000 in
theorem ylX4_passedLoose : yl_ok yX4_passedLoose mX4_passedLoose 2 := ⟨⟨by decide, by decide, by decide +kernel⟩, gd2 (i := 81) rfl rfl, gd1 (i := 2) rfl rfl⟩
set_option maxRecDepth 100000 in
theorem yvX4_passedLoose : yv_ok yX4_passedLoose 4 := ⟨gd2 (i := 80) rfl rfl, RX4, TX4, 10, rfl, lw_gd_p (i := 6) rfl rfl⟩
abbrev mX4_passedCue : am_M := (RX4, cX4_passedCue, 4, (some .int))
set_option maxRecDepth 100000 in
theorem ylX4_passedCue : yl_ok yX4_passedCue mX4_passedCue 1 := ⟨⟨by decide, by decide, by decide +kernel⟩, gd2 (i := 85) rfl rfl, gd1 (i := 2) rfl rfl⟩
set_option maxRecDepth 100000 in
theorem yvX4_passedCue : yv_ok yX4_passedCue 4 := ⟨gd2 (i := 84) rfl rfl, RX4, TX4, 10, rfl, lw_gd_p (i := 7) rfl rfl⟩
abbrev mX4_addBars : am_M := (RX4, cX4_addBars, 4, (some .boolean))
set_option maxRecDepth 100000 in
theorem ylX4_addBars : yl_ok yX4_addBars mX4_addBars 2 := ⟨⟨by decide, by decide, by decide +kernel⟩, gd2 (i := 74) rfl rfl, gd1 (i := 2) rfl rfl⟩
set_option maxRecDepth 100000 in
theorem yvX4_addBars : yv_ok yX4_addBars 4 := ⟨gd2 (i := 73) rfl rfl, RX4, TX4, 10, rfl, lw_gd_p (i := 5) rfl rfl⟩
abbrev mX4_faultAt : am_M := (RX4, cX4_faultAt, 2, (some .int))
set_option maxRecDepth 100000 in
theorem ylX4_faultAt : yl_ok yX4_faultAt mX4_faultAt 1 := ⟨⟨by decide, by decide, by decide +kernel⟩, gd2 (i := 70) rfl rfl, gd1 (i := 2) rfl rfl⟩
set_option maxRecDepth 100000 in
theorem yvX4_faultAt : yv_ok yX4_faultAt 4 := ⟨gd2 (i := 69) rfl rfl, RX4, TX4, 10, rfl, lw_gd_p (i := 4) rfl rfl⟩
abbrev mX5_init : am_M := (RX5, cX5_init, 1, none)
abbrev mX5_append : am_M := (RX5, cX5_append, 5, (some .boolean))
set_option maxRecDepth 100000 in
theorem ylX5_append : yl_ok yX5_append mX5_append 2 := ⟨⟨by decide, by decide, by decide +kernel⟩, gd3 (i := 154) rfl rfl, gd1 (i := 8) rfl rfl⟩
set_option maxRecDepth 100000 in
theorem yvX5_append : yv_ok yX5_append 5 := ⟨gd3 (i := 152) rfl rfl, RX5, TX5, 5, rfl, gd3 (i := 153) rfl rfl⟩
abbrev mX5_bestBits : am_M := (RX5, cX5_bestBits, 5, (some .int))
set_option maxRecDepth 100000 in
theorem ylX5_bestBits : yl_ok yX5_bestBits mX5_bestBits 0 := ⟨⟨by decide, by decide, by decide +kernel⟩, gd3 (i := 167) rfl rfl, gd1 (i := 8) rfl rfl⟩
set_option maxRecDepth 100000 in
theorem yvX5_bestBits : yv_ok yX5_bestBits 5 := ⟨gd3 (i := 165) rfl rfl, RX5, TX5, 5, rfl, gd3 (i := 166) rfl rfl⟩
abbrev mX5_plan : am_M := (RX5, cX5_plan, 7, (some .int))
set_option maxRecDepth 100000 in
theorem ylX5_plan : yl_ok yX5_plan mX5_plan 1 := ⟨⟨by decide, by decide, by decide +kernel⟩, gd3 (i := 171) rfl rfl, gd1 (i := 8) rfl rfl⟩
set_option maxRecDepth 100000 in
theorem yvX5_plan : yv_ok yX5_plan 5 := ⟨gd3 (i := 169) rfl rfl, RX5, TX5, 5, rfl, gd3 (i := 170) rfl rfl⟩
abbrev mX5_lookedAtIn : am_M := (RX5, cX5_lookedAtIn, 3, (some .int))
set_option maxRecDepth 100000 in
theorem ylX5_lookedAtIn : yl_ok yX5_lookedAtIn mX5_lookedAtIn 1 := ⟨⟨by decide, by decide, by decide +kernel⟩, gd3 (i := 185) rfl rfl, gd1 (i := 8) rfl rfl⟩
set_option maxRecDepth 100000 in
theorem yvX5_lookedAtIn : yv_ok yX5_lookedAtIn 5 := ⟨gd3 (i := 183) rfl rfl, RX5, TX5, 5, rfl, gd3 (i := 184) rfl rfl⟩
abbrev mX6_init : am_M := (RX6, cX6_init, 1, none)
abbrev mX6_most : am_M := (RX6, cX6_most, 1, (some .int))
set_option maxRecDepth 100000 in
theorem ylX6_most : yl_ok yX6_most mX6_most 1 := ⟨⟨by decide, by decide, by decide +kernel⟩, gd2 (i := 146) rfl rfl, gd1 (i := 3) rfl rfl⟩
set_option maxRecDepth 100000 in
theorem ysX6_most : Cond.static yX6_most ∈ lw_gd := gd2 (i := 145) rfl rfl
abbrev mX6_valueOf : am_M := (RX6, cX6_valueOf, 2, (some .int))
set_option maxRecDepth 100000 in
theorem ylX6_valueOf : yl_ok yX6_valueOf mX6_valueOf 1 := ⟨⟨by decide, by decide, by decide +kernel⟩, gd2 (i := 153) rfl rfl, gd1 (i := 3) rfl rfl⟩
set_option maxRecDepth 100000 in
theorem yvX6_valueOf : yv_ok yX6_valueOf 6 := ⟨gd2 (i := 151) rfl rfl, RX6, TX6, 1, rfl, gd2 (i := 152) rfl rfl⟩
abbrev mX6_become : am_M := (RX6, cX6_become, 3, none)
set_option maxRecDepth 100000 in
theorem ylX6_become : yl_ok yX6_become mX6_become 2 := ⟨⟨by decide, by decide, by decide +kernel⟩, gd2 (i := 157) rfl rfl, gd1 (i := 3) rfl rfl⟩
set_option maxRecDepth 100000 in
theorem yvX6_become : yv_ok yX6_become 6 := ⟨gd2 (i := 155) rfl rfl, RX6, TX6, 1, rfl, gd2 (i := 156) rfl rfl⟩
abbrev mX7_init : am_M := (RX7, cX7_init, 1, none)
abbrev mX7_renew : am_M := (RX7, cX7_renew, 3, none)
set_option maxRecDepth 100000 in
theorem ylX7_renew : yl_ok yX7_renew mX7_renew 2 := ⟨⟨by decide, by decide, by decide +kernel⟩, gd3 (i := 236) rfl rfl, gd1 (i := 11) rfl rfl⟩
set_option maxRecDepth 100000 in
theorem yvX7_renew : yv_ok yX7_renew 7 := ⟨gd3 (i := 234) rfl rfl, RX7, TX7, 4, rfl, gd3 (i := 235) rfl rfl⟩
abbrev mX7_findingAt : am_M := (RX7, cX7_findingAt, 3, (some .int))
set_option maxRecDepth 100000 in
theorem ylX7_findingAt : yl_ok yX7_findingAt mX7_findingAt 2 := ⟨⟨by decide, by decide, by decide +kernel⟩, gd4 (i := 9) rfl rfl, gd1 (i := 11) rfl rfl⟩
set_option maxRecDepth 100000 in
theorem yvX7_findingAt : yv_ok yX7_findingAt 7 := ⟨gd4 (i := 7) rfl rfl, RX7, TX7, 4, rfl, gd4 (i := 8) rfl rfl⟩
abbrev mX7_hasItems : am_M := (RX7, cX7_hasItems, 3, (some .boolean))
set_option maxRecDepth 100000 in
theorem ylX7_hasItems : yl_ok yX7_hasItems mX7_hasItems 2 := ⟨⟨by decide, by decide, by decide +kernel⟩, gd4 (i := 13) rfl rfl, gd1 (i := 11) rfl rfl⟩
set_option maxRecDepth 100000 in
theorem yvX7_hasItems : yv_ok yX7_hasItems 7 := ⟨gd4 (i := 11) rfl rfl, RX7, TX7, 4, rfl, gd4 (i := 12) rfl rfl⟩
abbrev mX7_itemOf : am_M := (RX7, cX7_itemOf, 2, (some .int))
set_option maxRecDepth 100000 in
theorem ylX7_itemOf : yl_ok yX7_itemOf mX7_itemOf 1 := ⟨⟨by decide, by decide, by decide +kernel⟩, gd2 (i := 177) rfl rfl, gd1 (i := 11) rfl rfl⟩
set_option maxRecDepth 100000 in
theorem yvX7_itemOf : yv_ok yX7_itemOf 7 := ⟨gd2 (i := 175) rfl rfl, RX7, TX7, 4, rfl, gd2 (i := 176) rfl rfl⟩
abbrev mX7_become : am_M := (RX7, cX7_become, 3, none)
set_option maxRecDepth 100000 in
theorem ylX7_become : yl_ok yX7_become mX7_become 2 := ⟨⟨by decide, by decide, by decide +kernel⟩, gd4 (i := 17) rfl rfl, gd1 (i := 11) rfl rfl⟩
set_option maxRecDepth 100000 in
theorem yvX7_become : yv_ok yX7_become 7 := ⟨gd4 (i := 15) rfl rfl, RX7, TX7, 4, rfl, gd4 (i := 16) rfl rfl⟩
abbrev mX8_init : am_M := (RX8, cX8_init, 2, none)
abbrev mX8_chanceOf : am_M := (RX8, cX8_chanceOf, 2, (some .long))
set_option maxRecDepth 100000 in
theorem ylX8_chanceOf : yl_ok yX8_chanceOf mX8_chanceOf 1 := ⟨⟨by decide, by decide, by decide +kernel⟩, gd3 (i := 91) rfl rfl, gd1 (i := 7) rfl rfl⟩
set_option maxRecDepth 100000 in
theorem yvX8_chanceOf : yv_ok yX8_chanceOf 8 := ⟨gd3 (i := 89) rfl rfl, RX8, TX8, 3, rfl, gd3 (i := 90) rfl rfl⟩
abbrev mX8_walk : am_M := (RX8, cX8_walk, 8, none)
set_option maxRecDepth 100000 in
theorem ylX8_walk : yl_ok yX8_walk mX8_walk 4 := ⟨⟨by decide, by decide, by decide +kernel⟩, gd3 (i := 65) rfl rfl, gd1 (i := 7) rfl rfl⟩
set_option maxRecDepth 100000 in
theorem yvX8_walk : yv_ok yX8_walk 8 := ⟨gd3 (i := 63) rfl rfl, RX8, TX8, 3, rfl, gd3 (i := 64) rfl rfl⟩
abbrev mX8_drift : am_M := (RX8, cX8_drift, 6, none)
set_option maxRecDepth 100000 in
theorem ylX8_drift : yl_ok yX8_drift mX8_drift 3 := ⟨⟨by decide, by decide, by decide +kernel⟩, gd3 (i := 77) rfl rfl, gd1 (i := 7) rfl rfl⟩
set_option maxRecDepth 100000 in
theorem yvX8_drift : yv_ok yX8_drift 8 := ⟨gd3 (i := 76) rfl rfl, RX8, TX8, 3, rfl, lw_gd_p (i := 15) rfl rfl⟩
abbrev mX8_gather : am_M := (RX8, cX8_gather, 3, none)
set_option maxRecDepth 100000 in
theorem ylX8_gather : yl_ok yX8_gather mX8_gather 1 := ⟨⟨by decide, by decide, by decide +kernel⟩, gd3 (i := 86) rfl rfl, gd1 (i := 7) rfl rfl⟩
set_option maxRecDepth 100000 in
theorem yvX8_gather : yv_ok yX8_gather 8 := ⟨gd3 (i := 85) rfl rfl, RX8, TX8, 3, rfl, lw_gd_p (i := 16) rfl rfl⟩
abbrev mX9_init : am_M := (RX9, cX9_init, 5, none)
abbrev mX9_ofAll : am_M := (RX9, cX9_ofAll, 2, (some .long))
set_option maxRecDepth 100000 in
theorem ylX9_ofAll : yl_ok yX9_ofAll mX9_ofAll 1 := ⟨⟨by decide, by decide, by decide +kernel⟩, gd3 (i := 27) rfl rfl, gd1 (i := 6) rfl rfl⟩
set_option maxRecDepth 100000 in
theorem yvX9_ofAll : yv_ok yX9_ofAll 9 := ⟨gd3 (i := 25) rfl rfl, RX9, TX9, 8, rfl, gd3 (i := 26) rfl rfl⟩
abbrev mX9_saidIn : am_M := (RX9, cX9_saidIn, 4, (some .long))
set_option maxRecDepth 100000 in
theorem ylX9_saidIn : yl_ok yX9_saidIn mX9_saidIn 2 := ⟨⟨by decide, by decide, by decide +kernel⟩, gd3 (i := 31) rfl rfl, gd1 (i := 6) rfl rfl⟩
set_option maxRecDepth 100000 in
theorem yvX9_saidIn : yv_ok yX9_saidIn 9 := ⟨gd3 (i := 29) rfl rfl, RX9, TX9, 8, rfl, gd3 (i := 30) rfl rfl⟩
abbrev mX9_find : am_M := (RX9, cX9_find, 4, none)
set_option maxRecDepth 100000 in
theorem ylX9_find : yl_ok yX9_find mX9_find 0 := ⟨⟨by decide, by decide, by decide +kernel⟩, gd2 (i := 224) rfl rfl, gd1 (i := 6) rfl rfl⟩
set_option maxRecDepth 100000 in
theorem yvX9_find : yv_ok yX9_find 9 := ⟨gd2 (i := 222) rfl rfl, RX9, TX9, 8, rfl, gd2 (i := 223) rfl rfl⟩
abbrev mX9_pass : am_M := (RX9, cX9_pass, 20, none)
set_option maxRecDepth 100000 in
theorem ylX9_pass : yl_ok yX9_pass mX9_pass 2 := ⟨⟨by decide, by decide, by decide +kernel⟩, gd2 (i := 238) rfl rfl, gd1 (i := 6) rfl rfl⟩
set_option maxRecDepth 100000 in
theorem yvX9_pass : yv_ok yX9_pass 9 := ⟨gd2 (i := 237) rfl rfl, RX9, TX9, 8, rfl, lw_gd_p (i := 12) rfl rfl⟩
abbrev mX9_addSaid : am_M := (RX9, cX9_addSaid, 5, none)
set_option maxRecDepth 100000 in
theorem ylX9_addSaid : yl_ok yX9_addSaid mX9_addSaid 3 := ⟨⟨by decide, by decide, by decide +kernel⟩, gd3 (i := 12) rfl rfl, gd1 (i := 6) rfl rfl⟩
set_option maxRecDepth 100000 in
theorem yvX9_addSaid : yv_ok yX9_addSaid 9 := ⟨gd3 (i := 11) rfl rfl, RX9, TX9, 8, rfl, lw_gd_p (i := 13) rfl rfl⟩
abbrev mX10_init : am_M := (RX10, cX10_init, 2, none)
abbrev mX10_type : am_M := (RX10, cX10_type, 2, (some .int))
set_option maxRecDepth 100000 in
theorem ylX10_type : yl_ok yX10_type mX10_type 1 := ⟨⟨by decide, by decide, by decide +kernel⟩, gd2 (i := 39) rfl rfl, gd1 (i := 1) rfl rfl⟩
set_option maxRecDepth 100000 in
theorem yvX10_type : yv_ok yX10_type 10 := ⟨gd2 (i := 37) rfl rfl, RX10, TX10, 13, rfl, gd2 (i := 38) rfl rfl⟩
abbrev mX10_wipe : am_M := (RX10, cX10_wipe, 2, (some .int))
set_option maxRecDepth 100000 in
theorem ylX10_wipe : yl_ok yX10_wipe mX10_wipe 0 := ⟨⟨by decide, by decide, by decide +kernel⟩, gd2 (i := 89) rfl rfl, gd1 (i := 1) rfl rfl⟩
set_option maxRecDepth 100000 in
theorem yvX10_wipe : yv_ok yX10_wipe 10 := ⟨gd2 (i := 87) rfl rfl, RX10, TX10, 13, rfl, gd2 (i := 88) rfl rfl⟩
abbrev mX10_undo : am_M := (RX10, cX10_undo, 1, (some .int))
set_option maxRecDepth 100000 in
theorem ylX10_undo : yl_ok yX10_undo mX10_undo 0 := ⟨⟨by decide, by decide, by decide +kernel⟩, gd2 (i := 97) rfl rfl, gd1 (i := 1) rfl rfl⟩
set_option maxRecDepth 100000 in
theorem yvX10_undo : yv_ok yX10_undo 10 := ⟨gd2 (i := 95) rfl rfl, RX10, TX10, 13, rfl, gd2 (i := 96) rfl rfl⟩
abbrev mX10_fault : am_M := (RX10, cX10_fault, 1, (some .int))
set_option maxRecDepth 100000 in
theorem ylX10_fault : yl_ok yX10_fault mX10_fault 0 := ⟨⟨by decide, by decide, by decide +kernel⟩, gd2 (i := 101) rfl rfl, gd1 (i := 1) rfl rfl⟩
set_option maxRecDepth 100000 in
theorem yvX10_fault : yv_ok yX10_fault 10 := ⟨gd2 (i := 99) rfl rfl, RX10, TX10, 13, rfl, gd2 (i := 100) rfl rfl⟩
abbrev mX10_bar : am_M := (RX10, cX10_bar, 3, (some .int))
set_option maxRecDepth 100000 in
theorem ylX10_bar : yl_ok yX10_bar mX10_bar 2 := ⟨⟨by decide, by decide, by decide +kernel⟩, gd2 (i := 105) rfl rfl, gd1 (i := 1) rfl rfl⟩
set_option maxRecDepth 100000 in
theorem yvX10_bar : yv_ok yX10_bar 10 := ⟨gd2 (i := 103) rfl rfl, RX10, TX10, 13, rfl, gd2 (i := 104) rfl rfl⟩
abbrev mX10_odds : am_M := (RX10, cX10_odds, 5, (some .int))
set_option maxRecDepth 100000 in
theorem ylX10_odds : yl_ok yX10_odds mX10_odds 3 := ⟨⟨by decide, by decide, by decide +kernel⟩, gd2 (i := 126) rfl rfl, gd1 (i := 1) rfl rfl⟩
set_option maxRecDepth 100000 in
theorem yvX10_odds : yv_ok yX10_odds 10 := ⟨gd2 (i := 124) rfl rfl, RX10, TX10, 13, rfl, gd2 (i := 125) rfl rfl⟩
abbrev mX10_set : am_M := (RX10, cX10_set, 4, (some .int))
set_option maxRecDepth 100000 in
theorem ylX10_set : yl_ok yX10_set mX10_set 2 := ⟨⟨by decide, by decide, by decide +kernel⟩, gd2 (i := 143) rfl rfl, gd1 (i := 1) rfl rfl⟩
set_option maxRecDepth 100000 in
theorem yvX10_set : yv_ok yX10_set 10 := ⟨gd2 (i := 141) rfl rfl, RX10, TX10, 13, rfl, gd2 (i := 142) rfl rfl⟩
abbrev mX10_read : am_M := (RX10, cX10_read, 6, (some .int))
set_option maxRecDepth 100000 in
theorem ylX10_read : yl_ok yX10_read mX10_read 1 := ⟨⟨by decide, by decide, by decide +kernel⟩, gd2 (i := 161) rfl rfl, gd1 (i := 1) rfl rfl⟩
set_option maxRecDepth 100000 in
theorem yvX10_read : yv_ok yX10_read 10 := ⟨gd2 (i := 159) rfl rfl, RX10, TX10, 13, rfl, gd2 (i := 160) rfl rfl⟩
abbrev mX10_hear : am_M := (RX10, cX10_hear, 3, (some .int))
set_option maxRecDepth 100000 in
theorem ylX10_hear : yl_ok yX10_hear mX10_hear 2 := ⟨⟨by decide, by decide, by decide +kernel⟩, gd2 (i := 189) rfl rfl, gd1 (i := 1) rfl rfl⟩
set_option maxRecDepth 100000 in
theorem yvX10_hear : yv_ok yX10_hear 10 := ⟨gd2 (i := 187) rfl rfl, RX10, TX10, 13, rfl, gd2 (i := 188) rfl rfl⟩
abbrev mX10_shown : am_M := (RX10, cX10_shown, 3, (some .int))
set_option maxRecDepth 100000 in
theorem ylX10_shown : yl_ok yX10_shown mX10_shown 2 := ⟨⟨by decide, by decide, by decide +kernel⟩, gd2 (i := 201) rfl rfl, gd1 (i := 1) rfl rfl⟩
set_option maxRecDepth 100000 in
theorem yvX10_shown : yv_ok yX10_shown 10 := ⟨gd2 (i := 199) rfl rfl, RX10, TX10, 13, rfl, gd2 (i := 200) rfl rfl⟩
abbrev mX10_forget : am_M := (RX10, cX10_forget, 2, (some .int))
set_option maxRecDepth 100000 in
theorem ylX10_forget : yl_ok yX10_forget mX10_forget 0 := ⟨⟨by decide, by decide, by decide +kernel⟩, gd2 (i := 205) rfl rfl, gd1 (i := 1) rfl rfl⟩
set_option maxRecDepth 100000 in
theorem yvX10_forget : yv_ok yX10_forget 10 := ⟨gd2 (i := 203) rfl rfl, RX10, TX10, 13, rfl, gd2 (i := 204) rfl rfl⟩
abbrev mX10_where : am_M := (RX10, cX10_where, 6, (some .long))
set_option maxRecDepth 100000 in
theorem ylX10_where : yl_ok yX10_where mX10_where 3 := ⟨⟨by decide, by decide, by decide +kernel⟩, gd2 (i := 209) rfl rfl, gd1 (i := 1) rfl rfl⟩
set_option maxRecDepth 100000 in
theorem yvX10_where : yv_ok yX10_where 10 := ⟨gd2 (i := 207) rfl rfl, RX10, TX10, 13, rfl, gd2 (i := 208) rfl rfl⟩
abbrev mX10_likeliest : am_M := (RX10, cX10_likeliest, 8, (some .int))
set_option maxRecDepth 100000 in
theorem ylX10_likeliest : yl_ok yX10_likeliest mX10_likeliest 1 := ⟨⟨by decide, by decide, by decide +kernel⟩, gd3 (i := 42) rfl rfl, gd1 (i := 1) rfl rfl⟩
set_option maxRecDepth 100000 in
theorem yvX10_likeliest : yv_ok yX10_likeliest 10 := ⟨gd3 (i := 40) rfl rfl, RX10, TX10, 13, rfl, gd3 (i := 41) rfl rfl⟩
abbrev mX10_strike : am_M := (RX10, cX10_strike, 5, (some .long))
set_option maxRecDepth 100000 in
theorem ylX10_strike : yl_ok yX10_strike mX10_strike 2 := ⟨⟨by decide, by decide, by decide +kernel⟩, gd3 (i := 46) rfl rfl, gd1 (i := 1) rfl rfl⟩
set_option maxRecDepth 100000 in
theorem yvX10_strike : yv_ok yX10_strike 10 := ⟨gd3 (i := 44) rfl rfl, RX10, TX10, 13, rfl, gd3 (i := 45) rfl rfl⟩
abbrev mX10_line : am_M := (RX10, cX10_line, 9, (some .int))
set_option maxRecDepth 100000 in
theorem ylX10_line : yl_ok yX10_line mX10_line 0 := ⟨⟨by decide, by decide, by decide +kernel⟩, gd3 (i := 54) rfl rfl, gd1 (i := 1) rfl rfl⟩
set_option maxRecDepth 100000 in
theorem yvX10_line : yv_ok yX10_line 10 := ⟨gd3 (i := 52) rfl rfl, RX10, TX10, 13, rfl, gd3 (i := 53) rfl rfl⟩
abbrev mX10_slips : am_M := (RX10, cX10_slips, 4, (some .long))
set_option maxRecDepth 100000 in
theorem ylX10_slips : yl_ok yX10_slips mX10_slips 3 := ⟨⟨by decide, by decide, by decide +kernel⟩, gd3 (i := 61) rfl rfl, gd1 (i := 1) rfl rfl⟩
set_option maxRecDepth 100000 in
theorem yvX10_slips : yv_ok yX10_slips 10 := ⟨gd3 (i := 59) rfl rfl, RX10, TX10, 13, rfl, gd3 (i := 60) rfl rfl⟩
abbrev mX10_safe : am_M := (RX10, cX10_safe, 4, (some .long))
set_option maxRecDepth 100000 in
theorem ylX10_safe : yl_ok yX10_safe mX10_safe 2 := ⟨⟨by decide, by decide, by decide +kernel⟩, gd3 (i := 96) rfl rfl, gd1 (i := 1) rfl rfl⟩
set_option maxRecDepth 100000 in
theorem yvX10_safe : yv_ok yX10_safe 10 := ⟨gd3 (i := 94) rfl rfl, RX10, TX10, 13, rfl, gd3 (i := 95) rfl rfl⟩
abbrev mX10_write : am_M := (RX10, cX10_write, 8, (some .int))
set_option maxRecDepth 100000 in
theorem ylX10_write : yl_ok yX10_write mX10_write 1 := ⟨⟨by decide, by decide, by decide +kernel⟩, gd3 (i := 110) rfl rfl, gd1 (i := 1) rfl rfl⟩
set_option maxRecDepth 100000 in
theorem yvX10_write : yv_ok yX10_write 10 := ⟨gd3 (i := 108) rfl rfl, RX10, TX10, 13, rfl, gd3 (i := 109) rfl rfl⟩
abbrev mX10_few : am_M := (RX10, cX10_few, 6, (some .int))
set_option maxRecDepth 100000 in
theorem ylX10_few : yl_ok yX10_few mX10_few 1 := ⟨⟨by decide, by decide, by decide +kernel⟩, gd3 (i := 116) rfl rfl, gd1 (i := 1) rfl rfl⟩
set_option maxRecDepth 100000 in
theorem yvX10_few : yv_ok yX10_few 10 := ⟨gd3 (i := 114) rfl rfl, RX10, TX10, 13, rfl, gd3 (i := 115) rfl rfl⟩
abbrev mX10_anew : am_M := (RX10, cX10_anew, 9, (some .int))
set_option maxRecDepth 100000 in
theorem ylX10_anew : yl_ok yX10_anew mX10_anew 1 := ⟨⟨by decide, by decide, by decide +kernel⟩, gd3 (i := 121) rfl rfl, gd1 (i := 1) rfl rfl⟩
set_option maxRecDepth 100000 in
theorem yvX10_anew : yv_ok yX10_anew 10 := ⟨gd3 (i := 119) rfl rfl, RX10, TX10, 13, rfl, gd3 (i := 120) rfl rfl⟩
abbrev mX10_joint : am_M := (RX10, cX10_joint, 6, (some .long))
set_option maxRecDepth 100000 in
theorem ylX10_joint : yl_ok yX10_joint mX10_joint 3 := ⟨⟨by decide, by decide, by decide +kernel⟩, gd3 (i := 129) rfl rfl, gd1 (i := 1) rfl rfl⟩
set_option maxRecDepth 100000 in
theorem yvX10_joint : yv_ok yX10_joint 10 := ⟨gd3 (i := 127) rfl rfl, RX10, TX10, 13, rfl, gd3 (i := 128) rfl rfl⟩
abbrev mX10_evening : am_M := (RX10, cX10_evening, 3, (some .long))
set_option maxRecDepth 100000 in
theorem ylX10_evening : yl_ok yX10_evening mX10_evening 2 := ⟨⟨by decide, by decide, by decide +kernel⟩, gd3 (i := 133) rfl rfl, gd1 (i := 1) rfl rfl⟩
set_option maxRecDepth 100000 in
theorem yvX10_evening : yv_ok yX10_evening 10 := ⟨gd3 (i := 131) rfl rfl, RX10, TX10, 13, rfl, gd3 (i := 132) rfl rfl⟩
abbrev mX10_prime : am_M := (RX10, cX10_prime, 9, (some .int))
set_option maxRecDepth 100000 in
theorem ylX10_prime : yl_ok yX10_prime mX10_prime 1 := ⟨⟨by decide, by decide, by decide +kernel⟩, gd3 (i := 146) rfl rfl, gd1 (i := 1) rfl rfl⟩
set_option maxRecDepth 100000 in
theorem yvX10_prime : yv_ok yX10_prime 10 := ⟨gd3 (i := 144) rfl rfl, RX10, TX10, 13, rfl, gd3 (i := 145) rfl rfl⟩
abbrev mX10_player : am_M := (RX10, cX10_player, 3, (some .int))
set_option maxRecDepth 100000 in
theorem ylX10_player : yl_ok yX10_player mX10_player 2 := ⟨⟨by decide, by decide, by decide +kernel⟩, gd3 (i := 150) rfl rfl, gd1 (i := 1) rfl rfl⟩
set_option maxRecDepth 100000 in
theorem yvX10_player : yv_ok yX10_player 10 := ⟨gd3 (i := 148) rfl rfl, RX10, TX10, 13, rfl, gd3 (i := 149) rfl rfl⟩
abbrev mX10_leave : am_M := (RX10, cX10_leave, 2, (some .int))
set_option maxRecDepth 100000 in
theorem ylX10_leave : yl_ok yX10_leave mX10_leave 0 := ⟨⟨by decide, by decide, by decide +kernel⟩, gd3 (i := 159) rfl rfl, gd1 (i := 1) rfl rfl⟩
set_option maxRecDepth 100000 in
theorem yvX10_leave : yv_ok yX10_leave 10 := ⟨gd3 (i := 157) rfl rfl, RX10, TX10, 13, rfl, gd3 (i := 158) rfl rfl⟩
abbrev mX10_worth : am_M := (RX10, cX10_worth, 3, (some .int))
set_option maxRecDepth 100000 in
theorem ylX10_worth : yl_ok yX10_worth mX10_worth 1 := ⟨⟨by decide, by decide, by decide +kernel⟩, gd3 (i := 163) rfl rfl, gd1 (i := 1) rfl rfl⟩
set_option maxRecDepth 100000 in
theorem yvX10_worth : yv_ok yX10_worth 10 := ⟨gd3 (i := 161) rfl rfl, RX10, TX10, 13, rfl, gd3 (i := 162) rfl rfl⟩
abbrev mX10_look : am_M := (RX10, cX10_look, 2, (some .int))
set_option maxRecDepth 100000 in
theorem ylX10_look : yl_ok yX10_look mX10_look 1 := ⟨⟨by decide, by decide, by decide +kernel⟩, gd3 (i := 181) rfl rfl, gd1 (i := 1) rfl rfl⟩
set_option maxRecDepth 100000 in
theorem yvX10_look : yv_ok yX10_look 10 := ⟨gd3 (i := 179) rfl rfl, RX10, TX10, 13, rfl, gd3 (i := 180) rfl rfl⟩
abbrev mX10_from : am_M := (RX10, cX10_from, 3, (some .int))
set_option maxRecDepth 100000 in
theorem ylX10_from : yl_ok yX10_from mX10_from 1 := ⟨⟨by decide, by decide, by decide +kernel⟩, gd3 (i := 189) rfl rfl, gd1 (i := 1) rfl rfl⟩
set_option maxRecDepth 100000 in
theorem yvX10_from : yv_ok yX10_from 10 := ⟨gd3 (i := 187) rfl rfl, RX10, TX10, 13, rfl, gd3 (i := 188) rfl rfl⟩
abbrev mX10_said : am_M := (RX10, cX10_said, 2, (some .int))
set_option maxRecDepth 100000 in
theorem ylX10_said : yl_ok yX10_said mX10_said 1 := ⟨⟨by decide, by decide, by decide +kernel⟩, gd3 (i := 193) rfl rfl, gd1 (i := 1) rfl rfl⟩
set_option maxRecDepth 100000 in
theorem yvX10_said : yv_ok yX10_said 10 := ⟨gd3 (i := 191) rfl rfl, RX10, TX10, 13, rfl, gd3 (i := 192) rfl rfl⟩
abbrev mX10_wrong : am_M := (RX10, cX10_wrong, 2, (some .int))
set_option maxRecDepth 100000 in
theorem ylX10_wrong : yl_ok yX10_wrong mX10_wrong 1 := ⟨⟨by decide, by decide, by decide +kernel⟩, gd3 (i := 197) rfl rfl, gd1 (i := 1) rfl rfl⟩
set_option maxRecDepth 100000 in
theorem yvX10_wrong : yv_ok yX10_wrong 10 := ⟨gd3 (i := 195) rfl rfl, RX10, TX10, 13, rfl, gd3 (i := 196) rfl rfl⟩
abbrev mX10_blame : am_M := (RX10, cX10_blame, 3, (some .int))
set_option maxRecDepth 100000 in
theorem ylX10_blame : yl_ok yX10_blame mX10_blame 0 := ⟨⟨by decide, by decide, by decide +kernel⟩, gd3 (i := 214) rfl rfl, gd1 (i := 1) rfl rfl⟩
set_option maxRecDepth 100000 in
theorem yvX10_blame : yv_ok yX10_blame 10 := ⟨gd3 (i := 212) rfl rfl, RX10, TX10, 13, rfl, gd3 (i := 213) rfl rfl⟩
abbrev mX10_night : am_M := (RX10, cX10_night, 5, (some .int))
set_option maxRecDepth 100000 in
theorem ylX10_night : yl_ok yX10_night mX10_night 2 := ⟨⟨by decide, by decide, by decide +kernel⟩, gd3 (i := 219) rfl rfl, gd1 (i := 1) rfl rfl⟩
set_option maxRecDepth 100000 in
theorem yvX10_night : yv_ok yX10_night 10 := ⟨gd3 (i := 217) rfl rfl, RX10, TX10, 13, rfl, gd3 (i := 218) rfl rfl⟩
abbrev mX10_sheet : am_M := (RX10, cX10_sheet, 5, (some .int))
set_option maxRecDepth 100000 in
theorem ylX10_sheet : yl_ok yX10_sheet mX10_sheet 3 := ⟨⟨by decide, by decide, by decide +kernel⟩, gd3 (i := 232) rfl rfl, gd1 (i := 1) rfl rfl⟩
set_option maxRecDepth 100000 in
theorem yvX10_sheet : yv_ok yX10_sheet 10 := ⟨gd3 (i := 230) rfl rfl, RX10, TX10, 13, rfl, gd3 (i := 231) rfl rfl⟩
abbrev mX10_lose : am_M := (RX10, cX10_lose, 3, (some .int))
set_option maxRecDepth 100000 in
theorem ylX10_lose : yl_ok yX10_lose mX10_lose 1 := ⟨⟨by decide, by decide, by decide +kernel⟩, gd4 (i := 1) rfl rfl, gd1 (i := 1) rfl rfl⟩
set_option maxRecDepth 100000 in
theorem yvX10_lose : yv_ok yX10_lose 10 := ⟨gd3 (i := 239) rfl rfl, RX10, TX10, 13, rfl, gd4 (i := 0) rfl rfl⟩
abbrev mX10_put : am_M := (RX10, cX10_put, 7, (some .int))
set_option maxRecDepth 100000 in
theorem ylX10_put : yl_ok yX10_put mX10_put 4 := ⟨⟨by decide, by decide, by decide +kernel⟩, gd4 (i := 5) rfl rfl, gd1 (i := 1) rfl rfl⟩
set_option maxRecDepth 100000 in
theorem yvX10_put : yv_ok yX10_put 10 := ⟨gd4 (i := 3) rfl rfl, RX10, TX10, 13, rfl, gd4 (i := 4) rfl rfl⟩
abbrev mX10_get : am_M := (RX10, cX10_get, 6, (some .int))
set_option maxRecDepth 100000 in
theorem ylX10_get : yl_ok yX10_get mX10_get 3 := ⟨⟨by decide, by decide, by decide +kernel⟩, gd4 (i := 21) rfl rfl, gd1 (i := 1) rfl rfl⟩
set_option maxRecDepth 100000 in
theorem yvX10_get : yv_ok yX10_get 10 := ⟨gd4 (i := 19) rfl rfl, RX10, TX10, 13, rfl, gd4 (i := 20) rfl rfl⟩
abbrev mX10_copy : am_M := (RX10, cX10_copy, 8, (some .int))
set_option maxRecDepth 100000 in
theorem ylX10_copy : yl_ok yX10_copy mX10_copy 5 := ⟨⟨by decide, by decide, by decide +kernel⟩, gd4 (i := 26) rfl rfl, gd1 (i := 1) rfl rfl⟩
set_option maxRecDepth 100000 in
theorem yvX10_copy : yv_ok yX10_copy 10 := ⟨gd4 (i := 24) rfl rfl, RX10, TX10, 13, rfl, gd4 (i := 25) rfl rfl⟩
abbrev mX10_tell : am_M := (RX10, cX10_tell, 5, (some .int))
set_option maxRecDepth 100000 in
theorem ylX10_tell : yl_ok yX10_tell mX10_tell 1 := ⟨⟨by decide, by decide, by decide +kernel⟩, gd4 (i := 32) rfl rfl, gd1 (i := 1) rfl rfl⟩
set_option maxRecDepth 100000 in
theorem yvX10_tell : yv_ok yX10_tell 10 := ⟨gd4 (i := 30) rfl rfl, RX10, TX10, 13, rfl, gd4 (i := 31) rfl rfl⟩
abbrev mX10_count : am_M := (RX10, cX10_count, 2, (some .int))
set_option maxRecDepth 100000 in
theorem ylX10_count : yl_ok yX10_count mX10_count 1 := ⟨⟨by decide, by decide, by decide +kernel⟩, gd4 (i := 36) rfl rfl, gd1 (i := 1) rfl rfl⟩
set_option maxRecDepth 100000 in
theorem yvX10_count : yv_ok yX10_count 10 := ⟨gd4 (i := 34) rfl rfl, RX10, TX10, 13, rfl, gd4 (i := 35) rfl rfl⟩
abbrev mX10_digest : am_M := (RX10, cX10_digest, 5, (some .long))
set_option maxRecDepth 100000 in
theorem ylX10_digest : yl_ok yX10_digest mX10_digest 0 := ⟨⟨by decide, by decide, by decide +kernel⟩, gd4 (i := 40) rfl rfl, gd1 (i := 1) rfl rfl⟩
set_option maxRecDepth 100000 in
theorem yvX10_digest : yv_ok yX10_digest 10 := ⟨gd4 (i := 38) rfl rfl, RX10, TX10, 13, rfl, gd4 (i := 39) rfl rfl⟩
abbrev mX10_within : am_M := (RX10, cX10_within, 3, (some .boolean))
set_option maxRecDepth 100000 in
theorem ylX10_within : yl_ok yX10_within mX10_within 3 := ⟨⟨by decide, by decide, by decide +kernel⟩, gd2 (i := 42) rfl rfl, gd1 (i := 1) rfl rfl⟩
set_option maxRecDepth 100000 in
theorem ysX10_within : Cond.static yX10_within ∈ lw_gd := gd2 (i := 41) rfl rfl
abbrev mX10_isNumber : am_M := (RX10, cX10_isNumber, 1, (some .boolean))
set_option maxRecDepth 100000 in
theorem ylX10_isNumber : yl_ok yX10_isNumber mX10_isNumber 1 := ⟨⟨by decide, by decide, by decide +kernel⟩, gd2 (i := 181) rfl rfl, gd1 (i := 1) rfl rfl⟩
set_option maxRecDepth 100000 in
theorem ysX10_isNumber : Cond.static yX10_isNumber ∈ lw_gd := gd2 (i := 180) rfl rfl
abbrev mX10_isPart : am_M := (RX10, cX10_isPart, 1, (some .boolean))
set_option maxRecDepth 100000 in
theorem ylX10_isPart : yl_ok yX10_isPart mX10_isPart 1 := ⟨⟨by decide, by decide, by decide +kernel⟩, gd2 (i := 212) rfl rfl, gd1 (i := 1) rfl rfl⟩
set_option maxRecDepth 100000 in
theorem ysX10_isPart : Cond.static yX10_isPart ∈ lw_gd := gd2 (i := 211) rfl rfl
abbrev mX10_refusal : am_M := (RX10, cX10_refusal, 1, (some .long))
set_option maxRecDepth 100000 in
theorem ylX10_refusal : yl_ok yX10_refusal mX10_refusal 1 := ⟨⟨by decide, by decide, by decide +kernel⟩, gd2 (i := 215) rfl rfl, gd1 (i := 1) rfl rfl⟩
set_option maxRecDepth 100000 in
theorem ysX10_refusal : Cond.static yX10_refusal ∈ lw_gd := gd2 (i := 214) rfl rfl
abbrev mX10_found : am_M := (RX10, cX10_found, 2, (some .int))
set_option maxRecDepth 100000 in
theorem ylX10_found : yl_ok yX10_found mX10_found 1 := ⟨⟨by decide, by decide, by decide +kernel⟩, gd2 (i := 169) rfl rfl, gd1 (i := 1) rfl rfl⟩
set_option maxRecDepth 100000 in
theorem yvX10_found : yv_ok yX10_found 10 := ⟨gd2 (i := 168) rfl rfl, RX10, TX10, 13, rfl, lw_gd_p (i := 9) rfl rfl⟩
abbrev mX10_sheetAt : am_M := (RX10, cX10_sheetAt, 2, (some (.object "OneTriangle$Sheet")))
set_option maxRecDepth 100000 in
theorem ylX10_sheetAt : yl_ok yX10_sheetAt mX10_sheetAt 1 := ⟨⟨by decide, by decide, by decide +kernel⟩, gd2 (i := 165) rfl rfl, gd1 (i := 1) rfl rfl⟩
set_option maxRecDepth 100000 in
theorem yvX10_sheetAt : yv_ok yX10_sheetAt 10 := ⟨gd2 (i := 164) rfl rfl, RX10, TX10, 13, rfl, lw_gd_p (i := 8) rfl rfl⟩
abbrev mX10_addNote : am_M := (RX10, cX10_addNote, 4, (some .int))
set_option maxRecDepth 100000 in
theorem ylX10_addNote : yl_ok yX10_addNote mX10_addNote 3 := ⟨⟨by decide, by decide, by decide +kernel⟩, gd2 (i := 193) rfl rfl, gd1 (i := 1) rfl rfl⟩
set_option maxRecDepth 100000 in
theorem yvX10_addNote : yv_ok yX10_addNote 10 := ⟨gd2 (i := 192) rfl rfl, RX10, TX10, 13, rfl, lw_gd_p (i := 10) rfl rfl⟩
abbrev mX10_refreshWays : am_M := (RX10, cX10_refreshWays, 1, none)
set_option maxRecDepth 100000 in
theorem ylX10_refreshWays : yl_ok yX10_refreshWays mX10_refreshWays 0 := ⟨⟨by decide, by decide, by decide +kernel⟩, gd2 (i := 220) rfl rfl, gd1 (i := 1) rfl rfl⟩
set_option maxRecDepth 100000 in
theorem yvX10_refreshWays : yv_ok yX10_refreshWays 10 := ⟨gd2 (i := 219) rfl rfl, RX10, TX10, 13, rfl, lw_gd_p (i := 11) rfl rfl⟩
abbrev mX10_costAbove : am_M := (RX10, cX10_costAbove, 4, (some .long))
set_option maxRecDepth 100000 in
theorem ylX10_costAbove : yl_ok yX10_costAbove mX10_costAbove 1 := ⟨⟨by decide, by decide, by decide +kernel⟩, gd3 (i := 50) rfl rfl, gd1 (i := 1) rfl rfl⟩
set_option maxRecDepth 100000 in
theorem yvX10_costAbove : yv_ok yX10_costAbove 10 := ⟨gd3 (i := 49) rfl rfl, RX10, TX10, 13, rfl, lw_gd_p (i := 14) rfl rfl⟩
abbrev mX10_safety : am_M := (RX10, cX10_safety, 2, (some .long))
set_option maxRecDepth 100000 in
theorem ylX10_safety : yl_ok yX10_safety mX10_safety 1 := ⟨⟨by decide, by decide, by decide +kernel⟩, gd3 (i := 106) rfl rfl, gd1 (i := 1) rfl rfl⟩
set_option maxRecDepth 100000 in
theorem yvX10_safety : yv_ok yX10_safety 10 := ⟨gd3 (i := 105) rfl rfl, RX10, TX10, 13, rfl, lw_gd_p (i := 17) rfl rfl⟩
abbrev mX10_comeTo : am_M := (RX10, cX10_comeTo, 8, (some .boolean))
set_option maxRecDepth 100000 in
theorem ylX10_comeTo : yl_ok yX10_comeTo mX10_comeTo 1 := ⟨⟨by decide, by decide, by decide +kernel⟩, gd3 (i := 137) rfl rfl, gd1 (i := 1) rfl rfl⟩
set_option maxRecDepth 100000 in
theorem yvX10_comeTo : yv_ok yX10_comeTo 10 := ⟨gd3 (i := 136) rfl rfl, RX10, TX10, 13, rfl, lw_gd_p (i := 18) rfl rfl⟩
abbrev mX10_trueLater : am_M := (RX10, cX10_trueLater, 1, (some .long))
set_option maxRecDepth 100000 in
theorem ylX10_trueLater : yl_ok yX10_trueLater mX10_trueLater 0 := ⟨⟨by decide, by decide, by decide +kernel⟩, gd3 (i := 142) rfl rfl, gd1 (i := 1) rfl rfl⟩
set_option maxRecDepth 100000 in
theorem yvX10_trueLater : yv_ok yX10_trueLater 10 := ⟨gd3 (i := 141) rfl rfl, RX10, TX10, 13, rfl, lw_gd_p (i := 19) rfl rfl⟩
abbrev mX10_slipOfNight : am_M := (RX10, cX10_slipOfNight, 6, (some .int))
set_option maxRecDepth 100000 in
theorem ylX10_slipOfNight : yl_ok yX10_slipOfNight mX10_slipOfNight 0 := ⟨⟨by decide, by decide, by decide +kernel⟩, gd3 (i := 223) rfl rfl, gd1 (i := 1) rfl rfl⟩
set_option maxRecDepth 100000 in
theorem yvX10_slipOfNight : yv_ok yX10_slipOfNight 10 := ⟨gd3 (i := 222) rfl rfl, RX10, TX10, 13, rfl, lw_gd_p (i := 21) rfl rfl⟩
abbrev mX10_mixed : am_M := (RX10, cX10_mixed, 4, (some .long))
set_option maxRecDepth 100000 in
theorem ylX10_mixed : yl_ok yX10_mixed mX10_mixed 2 := ⟨⟨by decide, by decide, by decide +kernel⟩, gd4 (i := 45) rfl rfl, gd1 (i := 1) rfl rfl⟩
set_option maxRecDepth 100000 in
theorem ysX10_mixed : Cond.static yX10_mixed ∈ lw_gd := gd4 (i := 44) rfl rfl
abbrev mX10_told : am_M := (RX10, cX10_told, 9, (some .long))
set_option maxRecDepth 100000 in
theorem ylX10_told : yl_ok yX10_told mX10_told 3 := ⟨⟨by decide, by decide, by decide +kernel⟩, gd3 (i := 35) rfl rfl, gd1 (i := 1) rfl rfl⟩
set_option maxRecDepth 100000 in
theorem ysX10_told : Cond.static yX10_told ∈ lw_gd := gd3 (i := 34) rfl rfl
abbrev mX10_greatestCommon : am_M := (RX10, cX10_greatestCommon, 11, (some .long))
set_option maxRecDepth 100000 in
theorem ylX10_greatestCommon : yl_ok yX10_greatestCommon mX10_greatestCommon 2 := ⟨⟨by decide, by decide, by decide +kernel⟩, gd3 (i := 38) rfl rfl, gd1 (i := 1) rfl rfl⟩
set_option maxRecDepth 100000 in
theorem ysX10_greatestCommon : Cond.static yX10_greatestCommon ∈ lw_gd := gd3 (i := 37) rfl rfl
abbrev mX10_isLess : am_M := (RX10, cX10_isLess, 25, (some .boolean))
set_option maxRecDepth 100000 in
theorem ylX10_isLess : yl_ok yX10_isLess mX10_isLess 4 := ⟨⟨by decide, by decide, by decide +kernel⟩, gd3 (i := 57) rfl rfl, gd1 (i := 1) rfl rfl⟩
set_option maxRecDepth 100000 in
theorem ysX10_isLess : Cond.static yX10_isLess ∈ lw_gd := gd3 (i := 56) rfl rfl
abbrev mX10_itemAt : am_M := (RX10, cX10_itemAt, 2, (some .int))
set_option maxRecDepth 100000 in
theorem ylX10_itemAt : yl_ok yX10_itemAt mX10_itemAt 2 := ⟨⟨by decide, by decide, by decide +kernel⟩, gd2 (i := 57) rfl rfl, gd1 (i := 1) rfl rfl⟩
set_option maxRecDepth 100000 in
theorem ysX10_itemAt : Cond.static yX10_itemAt ∈ lw_gd := gd2 (i := 56) rfl rfl
abbrev mX10_longAt : am_M := (RX10, cX10_longAt, 2, (some .long))
set_option maxRecDepth 100000 in
theorem ylX10_longAt : yl_ok yX10_longAt mX10_longAt 2 := ⟨⟨by decide, by decide, by decide +kernel⟩, gd2 (i := 234) rfl rfl, gd1 (i := 1) rfl rfl⟩
set_option maxRecDepth 100000 in
theorem ysX10_longAt : Cond.static yX10_longAt ∈ lw_gd := gd2 (i := 233) rfl rfl
abbrev mX10_addTo : am_M := (RX10, cX10_addTo, 4, none)
set_option maxRecDepth 100000 in
theorem ylX10_addTo : yl_ok yX10_addTo mX10_addTo 3 := ⟨⟨by decide, by decide, by decide +kernel⟩, gd2 (i := 231) rfl rfl, gd1 (i := 1) rfl rfl⟩
set_option maxRecDepth 100000 in
theorem ysX10_addTo : Cond.static yX10_addTo ∈ lw_gd := gd2 (i := 230) rfl rfl
abbrev mX11_init : am_M := (RX11, cX11_init, 1, none)
abbrev mX11_in : am_M := (RX11, cX11_in, 3, (some .boolean))
set_option maxRecDepth 100000 in
theorem ylX11_in : yl_ok yX11_in mX11_in 3 := ⟨⟨by decide, by decide, by decide +kernel⟩, gd4 (i := 189) rfl rfl, gd1 (i := 12) rfl rfl⟩
set_option maxRecDepth 100000 in
theorem ysX11_in : Cond.static yX11_in ∈ lw_gd := gd4 (i := 188) rfl rfl
abbrev mX11_isIn : am_M := (RX11, cX11_isIn, 2, (some .boolean))
set_option maxRecDepth 100000 in
theorem ylX11_isIn : yl_ok yX11_isIn mX11_isIn 2 := ⟨⟨by decide, by decide, by decide +kernel⟩, gd5 (i := 109) rfl rfl, gd1 (i := 12) rfl rfl⟩
set_option maxRecDepth 100000 in
theorem ysX11_isIn : Cond.static yX11_isIn ∈ lw_gd := gd5 (i := 108) rfl rfl
abbrev mX11_ones : am_M := (RX11, cX11_ones, 3, (some .int))
set_option maxRecDepth 100000 in
theorem ylX11_ones : yl_ok yX11_ones mX11_ones 1 := ⟨⟨by decide, by decide, by decide +kernel⟩, gd5 (i := 120) rfl rfl, gd1 (i := 12) rfl rfl⟩
set_option maxRecDepth 100000 in
theorem ysX11_ones : Cond.static yX11_ones ∈ lw_gd := gd5 (i := 119) rfl rfl
abbrev mX11_no : am_M := (RX11, cX11_no, 1, (some .long))
set_option maxRecDepth 100000 in
theorem ylX11_no : yl_ok yX11_no mX11_no 1 := ⟨⟨by decide, by decide, by decide +kernel⟩, gd5 (i := 55) rfl rfl, gd1 (i := 12) rfl rfl⟩
set_option maxRecDepth 100000 in
theorem ysX11_no : Cond.static yX11_no ∈ lw_gd := gd5 (i := 54) rfl rfl
abbrev mX11_lowest : am_M := (RX11, cX11_lowest, 11, (some .long))
set_option maxRecDepth 100000 in
theorem ylX11_lowest : yl_ok yX11_lowest mX11_lowest 3 := ⟨⟨by decide, by decide, by decide +kernel⟩, gd5 (i := 59) rfl rfl, gd1 (i := 12) rfl rfl⟩
set_option maxRecDepth 100000 in
theorem ysX11_lowest : Cond.static yX11_lowest ∈ lw_gd := gd5 (i := 58) rfl rfl
abbrev mX11_type : am_M := (RX11, cX11_type, 2, (some .int))
set_option maxRecDepth 100000 in
theorem ylX11_type : yl_ok yX11_type mX11_type 1 := ⟨⟨by decide, by decide, by decide +kernel⟩, gd4 (i := 186) rfl rfl, gd1 (i := 12) rfl rfl⟩
set_option maxRecDepth 100000 in
theorem yvX11_type : yv_ok yX11_type 11 := ⟨gd4 (i := 184) rfl rfl, RX11, TX11, 36, rfl, gd4 (i := 185) rfl rfl⟩
abbrev mX11_wipe : am_M := (RX11, cX11_wipe, 2, (some .int))
set_option maxRecDepth 100000 in
theorem ylX11_wipe : yl_ok yX11_wipe mX11_wipe 0 := ⟨⟨by decide, by decide, by decide +kernel⟩, gd4 (i := 193) rfl rfl, gd1 (i := 12) rfl rfl⟩
set_option maxRecDepth 100000 in
theorem yvX11_wipe : yv_ok yX11_wipe 11 := ⟨gd4 (i := 191) rfl rfl, RX11, TX11, 36, rfl, gd4 (i := 192) rfl rfl⟩
abbrev mX11_undo : am_M := (RX11, cX11_undo, 1, (some .int))
set_option maxRecDepth 100000 in
theorem ylX11_undo : yl_ok yX11_undo mX11_undo 0 := ⟨⟨by decide, by decide, by decide +kernel⟩, gd4 (i := 197) rfl rfl, gd1 (i := 12) rfl rfl⟩
set_option maxRecDepth 100000 in
theorem yvX11_undo : yv_ok yX11_undo 11 := ⟨gd4 (i := 195) rfl rfl, RX11, TX11, 36, rfl, gd4 (i := 196) rfl rfl⟩
abbrev mX11_adds : am_M := (RX11, cX11_adds, 3, none)
set_option maxRecDepth 100000 in
theorem ylX11_adds : yl_ok yX11_adds mX11_adds 2 := ⟨⟨by decide, by decide, by decide +kernel⟩, gd4 (i := 217) rfl rfl, gd1 (i := 12) rfl rfl⟩
set_option maxRecDepth 100000 in
theorem yvX11_adds : yv_ok yX11_adds 11 := ⟨gd4 (i := 216) rfl rfl, RX11, TX11, 36, rfl, lw_gd_p (i := 25) rfl rfl⟩
abbrev mX11_figureAt : am_M := (RX11, cX11_figureAt, 3, (some .int))
set_option maxRecDepth 100000 in
theorem ylX11_figureAt : yl_ok yX11_figureAt mX11_figureAt 1 := ⟨⟨by decide, by decide, by decide +kernel⟩, gd4 (i := 213) rfl rfl, gd1 (i := 12) rfl rfl⟩
set_option maxRecDepth 100000 in
theorem yvX11_figureAt : yv_ok yX11_figureAt 11 := ⟨gd4 (i := 212) rfl rfl, RX11, TX11, 36, rfl, lw_gd_p (i := 24) rfl rfl⟩
abbrev mX11_readsPiece : am_M := (RX11, cX11_readsPiece, 9, (some .int))
set_option maxRecDepth 100000 in
theorem ylX11_readsPiece : yl_ok yX11_readsPiece mX11_readsPiece 0 := ⟨⟨by decide, by decide, by decide +kernel⟩, gd4 (i := 209) rfl rfl, gd1 (i := 12) rfl rfl⟩
set_option maxRecDepth 100000 in
theorem yvX11_readsPiece : yv_ok yX11_readsPiece 11 := ⟨gd4 (i := 208) rfl rfl, RX11, TX11, 36, rfl, lw_gd_p (i := 23) rfl rfl⟩
abbrev mX11_faultNow : am_M := (RX11, cX11_faultNow, 2, (some .int))
set_option maxRecDepth 100000 in
theorem ylX11_faultNow : yl_ok yX11_faultNow mX11_faultNow 0 := ⟨⟨by decide, by decide, by decide +kernel⟩, gd4 (i := 205) rfl rfl, gd1 (i := 12) rfl rfl⟩
set_option maxRecDepth 100000 in
theorem yvX11_faultNow : yv_ok yX11_faultNow 11 := ⟨gd4 (i := 204) rfl rfl, RX11, TX11, 36, rfl, lw_gd_p (i := 22) rfl rfl⟩
abbrev mX11_fault : am_M := (RX11, cX11_fault, 1, (some .int))
set_option maxRecDepth 100000 in
theorem ylX11_fault : yl_ok yX11_fault mX11_fault 0 := ⟨⟨by decide, by decide, by decide +kernel⟩, gd4 (i := 201) rfl rfl, gd1 (i := 12) rfl rfl⟩
set_option maxRecDepth 100000 in
theorem yvX11_fault : yv_ok yX11_fault 11 := ⟨gd4 (i := 199) rfl rfl, RX11, TX11, 36, rfl, gd4 (i := 200) rfl rfl⟩
abbrev mX11_reads : am_M := (RX11, cX11_reads, 2, none)
set_option maxRecDepth 100000 in
theorem ylX11_reads : yl_ok yX11_reads mX11_reads 0 := ⟨⟨by decide, by decide, by decide +kernel⟩, gd4 (i := 229) rfl rfl, gd1 (i := 12) rfl rfl⟩
set_option maxRecDepth 100000 in
theorem yvX11_reads : yv_ok yX11_reads 11 := ⟨gd4 (i := 228) rfl rfl, RX11, TX11, 36, rfl, lw_gd_p (i := 27) rfl rfl⟩
abbrev mX11_isBar : am_M := (RX11, cX11_isBar, 2, (some .boolean))
set_option maxRecDepth 100000 in
theorem ylX11_isBar : yl_ok yX11_isBar mX11_isBar 1 := ⟨⟨by decide, by decide, by decide +kernel⟩, gd4 (i := 225) rfl rfl, gd1 (i := 12) rfl rfl⟩
set_option maxRecDepth 100000 in
theorem yvX11_isBar : yv_ok yX11_isBar 11 := ⟨gd4 (i := 224) rfl rfl, RX11, TX11, 36, rfl, lw_gd_p (i := 26) rfl rfl⟩
abbrev mX11_barOf : am_M := (RX11, cX11_barOf, 3, (some .int))
set_option maxRecDepth 100000 in
theorem ylX11_barOf : yl_ok yX11_barOf mX11_barOf 2 := ⟨⟨by decide, by decide, by decide +kernel⟩, gd4 (i := 233) rfl rfl, gd1 (i := 12) rfl rfl⟩
set_option maxRecDepth 100000 in
theorem yvX11_barOf : yv_ok yX11_barOf 11 := ⟨gd4 (i := 232) rfl rfl, RX11, TX11, 36, rfl, lw_gd_p (i := 28) rfl rfl⟩
abbrev mX11_bar : am_M := (RX11, cX11_bar, 3, (some .int))
set_option maxRecDepth 100000 in
theorem ylX11_bar : yl_ok yX11_bar mX11_bar 2 := ⟨⟨by decide, by decide, by decide +kernel⟩, gd4 (i := 221) rfl rfl, gd1 (i := 12) rfl rfl⟩
set_option maxRecDepth 100000 in
theorem yvX11_bar : yv_ok yX11_bar 11 := ⟨gd4 (i := 219) rfl rfl, RX11, TX11, 36, rfl, gd4 (i := 220) rfl rfl⟩
abbrev mX11_odds : am_M := (RX11, cX11_odds, 5, (some .int))
set_option maxRecDepth 100000 in
theorem ylX11_odds : yl_ok yX11_odds mX11_odds 3 := ⟨⟨by decide, by decide, by decide +kernel⟩, gd4 (i := 237) rfl rfl, gd1 (i := 12) rfl rfl⟩
set_option maxRecDepth 100000 in
theorem yvX11_odds : yv_ok yX11_odds 11 := ⟨gd4 (i := 235) rfl rfl, RX11, TX11, 36, rfl, gd4 (i := 236) rfl rfl⟩
abbrev mX11_set : am_M := (RX11, cX11_set, 5, (some .int))
set_option maxRecDepth 100000 in
theorem ylX11_set : yl_ok yX11_set mX11_set 2 := ⟨⟨by decide, by decide, by decide +kernel⟩, gd5 (i := 1) rfl rfl, gd1 (i := 12) rfl rfl⟩
set_option maxRecDepth 100000 in
theorem yvX11_set : yv_ok yX11_set 11 := ⟨gd4 (i := 239) rfl rfl, RX11, TX11, 36, rfl, gd5 (i := 0) rfl rfl⟩
abbrev mX11_isNumber : am_M := (RX11, cX11_isNumber, 1, (some .boolean))
set_option maxRecDepth 100000 in
theorem ylX11_isNumber : yl_ok yX11_isNumber mX11_isNumber 1 := ⟨⟨by decide, by decide, by decide +kernel⟩, gd5 (i := 15) rfl rfl, gd1 (i := 12) rfl rfl⟩
set_option maxRecDepth 100000 in
theorem ysX11_isNumber : Cond.static yX11_isNumber ∈ lw_gd := gd5 (i := 14) rfl rfl
abbrev mX11_read : am_M := (RX11, cX11_read, 3, (some .int))
set_option maxRecDepth 100000 in
theorem ylX11_read : yl_ok yX11_read mX11_read 1 := ⟨⟨by decide, by decide, by decide +kernel⟩, gd5 (i := 5) rfl rfl, gd1 (i := 12) rfl rfl⟩
set_option maxRecDepth 100000 in
theorem yvX11_read : yv_ok yX11_read 11 := ⟨gd5 (i := 3) rfl rfl, RX11, TX11, 36, rfl, gd5 (i := 4) rfl rfl⟩
abbrev mX11_notesMore : am_M := (RX11, cX11_notesMore, 4, (some .int))
set_option maxRecDepth 100000 in
theorem ylX11_notesMore : yl_ok yX11_notesMore mX11_notesMore 3 := ⟨⟨by decide, by decide, by decide +kernel⟩, gd5 (i := 23) rfl rfl, gd1 (i := 12) rfl rfl⟩
set_option maxRecDepth 100000 in
theorem yvX11_notesMore : yv_ok yX11_notesMore 11 := ⟨gd5 (i := 22) rfl rfl, RX11, TX11, 36, rfl, lw_gd_p (i := 30) rfl rfl⟩
abbrev mX11_hear : am_M := (RX11, cX11_hear, 3, (some .int))
set_option maxRecDepth 100000 in
theorem ylX11_hear : yl_ok yX11_hear mX11_hear 2 := ⟨⟨by decide, by decide, by decide +kernel⟩, gd5 (i := 19) rfl rfl, gd1 (i := 12) rfl rfl⟩
set_option maxRecDepth 100000 in
theorem yvX11_hear : yv_ok yX11_hear 11 := ⟨gd5 (i := 17) rfl rfl, RX11, TX11, 36, rfl, gd5 (i := 18) rfl rfl⟩
abbrev mX11_shown : am_M := (RX11, cX11_shown, 3, (some .int))
set_option maxRecDepth 100000 in
theorem ylX11_shown : yl_ok yX11_shown mX11_shown 2 := ⟨⟨by decide, by decide, by decide +kernel⟩, gd5 (i := 27) rfl rfl, gd1 (i := 12) rfl rfl⟩
set_option maxRecDepth 100000 in
theorem yvX11_shown : yv_ok yX11_shown 11 := ⟨gd5 (i := 25) rfl rfl, RX11, TX11, 36, rfl, gd5 (i := 26) rfl rfl⟩
abbrev mX11_forget : am_M := (RX11, cX11_forget, 2, (some .int))
set_option maxRecDepth 100000 in
theorem ylX11_forget : yl_ok yX11_forget mX11_forget 0 := ⟨⟨by decide, by decide, by decide +kernel⟩, gd5 (i := 31) rfl rfl, gd1 (i := 12) rfl rfl⟩
set_option maxRecDepth 100000 in
theorem yvX11_forget : yv_ok yX11_forget 11 := ⟨gd5 (i := 29) rfl rfl, RX11, TX11, 36, rfl, gd5 (i := 30) rfl rfl⟩
abbrev mX11_notesWeigh : am_M := (RX11, cX11_notesWeigh, 6, (some .long))
set_option maxRecDepth 100000 in
theorem ylX11_notesWeigh : yl_ok yX11_notesWeigh mX11_notesWeigh 2 := ⟨⟨by decide, by decide, by decide +kernel⟩, gd5 (i := 52) rfl rfl, gd1 (i := 12) rfl rfl⟩
set_option maxRecDepth 100000 in
theorem yvX11_notesWeigh : yv_ok yX11_notesWeigh 11 := ⟨gd5 (i := 51) rfl rfl, RX11, TX11, 36, rfl, lw_gd_p (i := 34) rfl rfl⟩
abbrev mX11_saysOdds : am_M := (RX11, cX11_saysOdds, 4, (some .int))
set_option maxRecDepth 100000 in
theorem ylX11_saysOdds : yl_ok yX11_saysOdds mX11_saysOdds 2 := ⟨⟨by decide, by decide, by decide +kernel⟩, gd5 (i := 48) rfl rfl, gd1 (i := 12) rfl rfl⟩
set_option maxRecDepth 100000 in
theorem yvX11_saysOdds : yv_ok yX11_saysOdds 11 := ⟨gd5 (i := 47) rfl rfl, RX11, TX11, 36, rfl, lw_gd_p (i := 33) rfl rfl⟩
abbrev mX11_findsWhere : am_M := (RX11, cX11_findsWhere, 10, none)
set_option maxRecDepth 100000 in
theorem ylX11_findsWhere : yl_ok yX11_findsWhere mX11_findsWhere 1 := ⟨⟨by decide, by decide, by decide +kernel⟩, gd5 (i := 43) rfl rfl, gd1 (i := 12) rfl rfl⟩
set_option maxRecDepth 100000 in
theorem yvX11_findsWhere : yv_ok yX11_findsWhere 11 := ⟨gd5 (i := 42) rfl rfl, RX11, TX11, 36, rfl, lw_gd_p (i := 32) rfl rfl⟩
abbrev mX11_whereOf : am_M := (RX11, cX11_whereOf, 4, (some .long))
set_option maxRecDepth 100000 in
theorem ylX11_whereOf : yl_ok yX11_whereOf mX11_whereOf 3 := ⟨⟨by decide, by decide, by decide +kernel⟩, gd5 (i := 39) rfl rfl, gd1 (i := 12) rfl rfl⟩
set_option maxRecDepth 100000 in
theorem yvX11_whereOf : yv_ok yX11_whereOf 11 := ⟨gd5 (i := 38) rfl rfl, RX11, TX11, 36, rfl, lw_gd_p (i := 31) rfl rfl⟩
abbrev mX11_where : am_M := (RX11, cX11_where, 4, (some .long))
set_option maxRecDepth 100000 in
theorem ylX11_where : yl_ok yX11_where mX11_where 3 := ⟨⟨by decide, by decide, by decide +kernel⟩, gd5 (i := 35) rfl rfl, gd1 (i := 12) rfl rfl⟩
set_option maxRecDepth 100000 in
theorem yvX11_where : yv_ok yX11_where 11 := ⟨gd5 (i := 33) rfl rfl, RX11, TX11, 36, rfl, gd5 (i := 34) rfl rfl⟩
abbrev mX11_likeliestOf : am_M := (RX11, cX11_likeliestOf, 4, (some .int))
set_option maxRecDepth 100000 in
theorem ylX11_likeliestOf : yl_ok yX11_likeliestOf mX11_likeliestOf 1 := ⟨⟨by decide, by decide, by decide +kernel⟩, gd5 (i := 67) rfl rfl, gd1 (i := 12) rfl rfl⟩
set_option maxRecDepth 100000 in
theorem yvX11_likeliestOf : yv_ok yX11_likeliestOf 11 := ⟨gd5 (i := 66) rfl rfl, RX11, TX11, 36, rfl, lw_gd_p (i := 35) rfl rfl⟩
abbrev mX11_likeliest : am_M := (RX11, cX11_likeliest, 2, (some .int))
set_option maxRecDepth 100000 in
theorem ylX11_likeliest : yl_ok yX11_likeliest mX11_likeliest 1 := ⟨⟨by decide, by decide, by decide +kernel⟩, gd5 (i := 63) rfl rfl, gd1 (i := 12) rfl rfl⟩
set_option maxRecDepth 100000 in
theorem yvX11_likeliest : yv_ok yX11_likeliest 11 := ⟨gd5 (i := 61) rfl rfl, RX11, TX11, 36, rfl, gd5 (i := 62) rfl rfl⟩
abbrev mX11_strikeOf : am_M := (RX11, cX11_strikeOf, 3, (some .long))
set_option maxRecDepth 100000 in
theorem ylX11_strikeOf : yl_ok yX11_strikeOf mX11_strikeOf 2 := ⟨⟨by decide, by decide, by decide +kernel⟩, gd5 (i := 75) rfl rfl, gd1 (i := 12) rfl rfl⟩
set_option maxRecDepth 100000 in
theorem yvX11_strikeOf : yv_ok yX11_strikeOf 11 := ⟨gd5 (i := 74) rfl rfl, RX11, TX11, 36, rfl, lw_gd_p (i := 36) rfl rfl⟩
abbrev mX11_strike : am_M := (RX11, cX11_strike, 3, (some .long))
set_option maxRecDepth 100000 in
theorem ylX11_strike : yl_ok yX11_strike mX11_strike 2 := ⟨⟨by decide, by decide, by decide +kernel⟩, gd5 (i := 71) rfl rfl, gd1 (i := 12) rfl rfl⟩
set_option maxRecDepth 100000 in
theorem yvX11_strike : yv_ok yX11_strike 11 := ⟨gd5 (i := 69) rfl rfl, RX11, TX11, 36, rfl, gd5 (i := 70) rfl rfl⟩
abbrev mX11_isLess : am_M := (RX11, cX11_isLess, 23, (some .boolean))
set_option maxRecDepth 100000 in
theorem ylX11_isLess : yl_ok yX11_isLess mX11_isLess 4 := ⟨⟨by decide, by decide, by decide +kernel⟩, gd5 (i := 86) rfl rfl, gd1 (i := 12) rfl rfl⟩
set_option maxRecDepth 100000 in
theorem ysX11_isLess : Cond.static yX11_isLess ∈ lw_gd := gd5 (i := 85) rfl rfl
abbrev mX11_lineNow : am_M := (RX11, cX11_lineNow, 9, (some .int))
set_option maxRecDepth 100000 in
theorem ylX11_lineNow : yl_ok yX11_lineNow mX11_lineNow 0 := ⟨⟨by decide, by decide, by decide +kernel⟩, gd5 (i := 83) rfl rfl, gd1 (i := 12) rfl rfl⟩
set_option maxRecDepth 100000 in
theorem yvX11_lineNow : yv_ok yX11_lineNow 11 := ⟨gd5 (i := 82) rfl rfl, RX11, TX11, 36, rfl, lw_gd_p (i := 37) rfl rfl⟩
abbrev mX11_line : am_M := (RX11, cX11_line, 1, (some .int))
set_option maxRecDepth 100000 in
theorem ylX11_line : yl_ok yX11_line mX11_line 0 := ⟨⟨by decide, by decide, by decide +kernel⟩, gd5 (i := 79) rfl rfl, gd1 (i := 12) rfl rfl⟩
set_option maxRecDepth 100000 in
theorem yvX11_line : yv_ok yX11_line 11 := ⟨gd5 (i := 77) rfl rfl, RX11, TX11, 36, rfl, gd5 (i := 78) rfl rfl⟩
abbrev mX11_findsSlips : am_M := (RX11, cX11_findsSlips, 6, none)
set_option maxRecDepth 100000 in
theorem ylX11_findsSlips : yl_ok yX11_findsSlips mX11_findsSlips 3 := ⟨⟨by decide, by decide, by decide +kernel⟩, gd5 (i := 98) rfl rfl, gd1 (i := 12) rfl rfl⟩
set_option maxRecDepth 100000 in
theorem yvX11_findsSlips : yv_ok yX11_findsSlips 11 := ⟨gd5 (i := 97) rfl rfl, RX11, TX11, 36, rfl, lw_gd_p (i := 39) rfl rfl⟩
abbrev mX11_missedIn : am_M := (RX11, cX11_missedIn, 5, (some .int))
set_option maxRecDepth 100000 in
theorem ylX11_missedIn : yl_ok yX11_missedIn mX11_missedIn 2 := ⟨⟨by decide, by decide, by decide +kernel⟩, gd5 (i := 106) rfl rfl, gd1 (i := 12) rfl rfl⟩
set_option maxRecDepth 100000 in
theorem yvX11_missedIn : yv_ok yX11_missedIn 11 := ⟨gd5 (i := 105) rfl rfl, RX11, TX11, 36, rfl, lw_gd_p (i := 41) rfl rfl⟩
abbrev mX11_slipLoose : am_M := (RX11, cX11_slipLoose, 10, none)
set_option maxRecDepth 100000 in
theorem ylX11_slipLoose : yl_ok yX11_slipLoose mX11_slipLoose 2 := ⟨⟨by decide, by decide, by decide +kernel⟩, gd5 (i := 102) rfl rfl, gd1 (i := 12) rfl rfl⟩
set_option maxRecDepth 100000 in
theorem yvX11_slipLoose : yv_ok yX11_slipLoose 11 := ⟨gd5 (i := 101) rfl rfl, RX11, TX11, 36, rfl, lw_gd_p (i := 40) rfl rfl⟩
abbrev mX11_slipsOf : am_M := (RX11, cX11_slipsOf, 4, (some .long))
set_option maxRecDepth 100000 in
theorem ylX11_slipsOf : yl_ok yX11_slipsOf mX11_slipsOf 3 := ⟨⟨by decide, by decide, by decide +kernel⟩, gd5 (i := 94) rfl rfl, gd1 (i := 12) rfl rfl⟩
set_option maxRecDepth 100000 in
theorem yvX11_slipsOf : yv_ok yX11_slipsOf 11 := ⟨gd5 (i := 93) rfl rfl, RX11, TX11, 36, rfl, lw_gd_p (i := 38) rfl rfl⟩
abbrev mX11_slips : am_M := (RX11, cX11_slips, 4, (some .long))
set_option maxRecDepth 100000 in
theorem ylX11_slips : yl_ok yX11_slips mX11_slips 3 := ⟨⟨by decide, by decide, by decide +kernel⟩, gd5 (i := 90) rfl rfl, gd1 (i := 12) rfl rfl⟩
set_option maxRecDepth 100000 in
theorem yvX11_slips : yv_ok yX11_slips 11 := ⟨gd5 (i := 88) rfl rfl, RX11, TX11, 36, rfl, gd5 (i := 89) rfl rfl⟩
abbrev mX11_isSome : am_M := (RX11, cX11_isSome, 2, (some .boolean))
set_option maxRecDepth 100000 in
theorem ylX11_isSome : yl_ok yX11_isSome mX11_isSome 1 := ⟨⟨by decide, by decide, by decide +kernel⟩, gd5 (i := 117) rfl rfl, gd1 (i := 12) rfl rfl⟩
set_option maxRecDepth 100000 in
theorem yvX11_isSome : yv_ok yX11_isSome 11 := ⟨gd5 (i := 116) rfl rfl, RX11, TX11, 36, rfl, lw_gd_p (i := 42) rfl rfl⟩
abbrev mX11_safeBy : am_M := (RX11, cX11_safeBy, 2, (some .long))
set_option maxRecDepth 100000 in
theorem ylX11_safeBy : yl_ok yX11_safeBy mX11_safeBy 1 := ⟨⟨by decide, by decide, by decide +kernel⟩, gd5 (i := 128) rfl rfl, gd1 (i := 12) rfl rfl⟩
set_option maxRecDepth 100000 in
theorem yvX11_safeBy : yv_ok yX11_safeBy 11 := ⟨gd5 (i := 127) rfl rfl, RX11, TX11, 36, rfl, lw_gd_p (i := 44) rfl rfl⟩
abbrev mX11_safeOf : am_M := (RX11, cX11_safeOf, 5, (some .long))
set_option maxRecDepth 100000 in
theorem ylX11_safeOf : yl_ok yX11_safeOf mX11_safeOf 2 := ⟨⟨by decide, by decide, by decide +kernel⟩, gd5 (i := 124) rfl rfl, gd1 (i := 12) rfl rfl⟩
set_option maxRecDepth 100000 in
theorem yvX11_safeOf : yv_ok yX11_safeOf 11 := ⟨gd5 (i := 123) rfl rfl, RX11, TX11, 36, rfl, lw_gd_p (i := 43) rfl rfl⟩
abbrev mX11_safe : am_M := (RX11, cX11_safe, 3, (some .long))
set_option maxRecDepth 100000 in
theorem ylX11_safe : yl_ok yX11_safe mX11_safe 2 := ⟨⟨by decide, by decide, by decide +kernel⟩, gd5 (i := 113) rfl rfl, gd1 (i := 12) rfl rfl⟩
set_option maxRecDepth 100000 in
theorem yvX11_safe : yv_ok yX11_safe 11 := ⟨gd5 (i := 111) rfl rfl, RX11, TX11, 36, rfl, gd5 (i := 112) rfl rfl⟩
abbrev mX11_writeOf : am_M := (RX11, cX11_writeOf, 8, (some .int))
set_option maxRecDepth 100000 in
theorem ylX11_writeOf : yl_ok yX11_writeOf mX11_writeOf 1 := ⟨⟨by decide, by decide, by decide +kernel⟩, gd5 (i := 140) rfl rfl, gd1 (i := 12) rfl rfl⟩
set_option maxRecDepth 100000 in
theorem yvX11_writeOf : yv_ok yX11_writeOf 11 := ⟨gd5 (i := 139) rfl rfl, RX11, TX11, 36, rfl, lw_gd_p (i := 46) rfl rfl⟩
abbrev mX11_cuesNow : am_M := (RX11, cX11_cuesNow, 1, (some .int))
set_option maxRecDepth 100000 in
theorem ylX11_cuesNow : yl_ok yX11_cuesNow mX11_cuesNow 0 := ⟨⟨by decide, by decide, by decide +kernel⟩, gd5 (i := 136) rfl rfl, gd1 (i := 12) rfl rfl⟩
set_option maxRecDepth 100000 in
theorem yvX11_cuesNow : yv_ok yX11_cuesNow 11 := ⟨gd5 (i := 135) rfl rfl, RX11, TX11, 36, rfl, lw_gd_p (i := 45) rfl rfl⟩
abbrev mX11_write : am_M := (RX11, cX11_write, 3, (some .int))
set_option maxRecDepth 100000 in
theorem ylX11_write : yl_ok yX11_write mX11_write 1 := ⟨⟨by decide, by decide, by decide +kernel⟩, gd5 (i := 132) rfl rfl, gd1 (i := 12) rfl rfl⟩
set_option maxRecDepth 100000 in
theorem yvX11_write : yv_ok yX11_write 11 := ⟨gd5 (i := 130) rfl rfl, RX11, TX11, 36, rfl, gd5 (i := 131) rfl rfl⟩
abbrev mX11_fewOf : am_M := (RX11, cX11_fewOf, 6, (some .int))
set_option maxRecDepth 100000 in
theorem ylX11_fewOf : yl_ok yX11_fewOf mX11_fewOf 1 := ⟨⟨by decide, by decide, by decide +kernel⟩, gd5 (i := 149) rfl rfl, gd1 (i := 12) rfl rfl⟩
set_option maxRecDepth 100000 in
theorem yvX11_fewOf : yv_ok yX11_fewOf 11 := ⟨gd5 (i := 148) rfl rfl, RX11, TX11, 36, rfl, lw_gd_p (i := 47) rfl rfl⟩
abbrev mX11_few : am_M := (RX11, cX11_few, 2, (some .int))
set_option maxRecDepth 100000 in
theorem ylX11_few : yl_ok yX11_few mX11_few 1 := ⟨⟨by decide, by decide, by decide +kernel⟩, gd5 (i := 145) rfl rfl, gd1 (i := 12) rfl rfl⟩
set_option maxRecDepth 100000 in
theorem yvX11_few : yv_ok yX11_few 11 := ⟨gd5 (i := 143) rfl rfl, RX11, TX11, 36, rfl, gd5 (i := 144) rfl rfl⟩
abbrev mX11_anewOf : am_M := (RX11, cX11_anewOf, 5, (some .int))
set_option maxRecDepth 100000 in
theorem ylX11_anewOf : yl_ok yX11_anewOf mX11_anewOf 1 := ⟨⟨by decide, by decide, by decide +kernel⟩, gd5 (i := 157) rfl rfl, gd1 (i := 12) rfl rfl⟩
set_option maxRecDepth 100000 in
theorem yvX11_anewOf : yv_ok yX11_anewOf 11 := ⟨gd5 (i := 156) rfl rfl, RX11, TX11, 36, rfl, lw_gd_p (i := 48) rfl rfl⟩
abbrev mX11_anew : am_M := (RX11, cX11_anew, 2, (some .int))
set_option maxRecDepth 100000 in
theorem ylX11_anew : yl_ok yX11_anew mX11_anew 1 := ⟨⟨by decide, by decide, by decide +kernel⟩, gd5 (i := 153) rfl rfl, gd1 (i := 12) rfl rfl⟩
set_option maxRecDepth 100000 in
theorem yvX11_anew : yv_ok yX11_anew 11 := ⟨gd5 (i := 151) rfl rfl, RX11, TX11, 36, rfl, gd5 (i := 152) rfl rfl⟩
abbrev mX11_joint : am_M := (RX11, cX11_joint, 6, (some .long))
set_option maxRecDepth 100000 in
theorem ylX11_joint : yl_ok yX11_joint mX11_joint 3 := ⟨⟨by decide, by decide, by decide +kernel⟩, gd5 (i := 161) rfl rfl, gd1 (i := 12) rfl rfl⟩
set_option maxRecDepth 100000 in
theorem yvX11_joint : yv_ok yX11_joint 11 := ⟨gd5 (i := 159) rfl rfl, RX11, TX11, 36, rfl, gd5 (i := 160) rfl rfl⟩
abbrev mX11_eveningBy : am_M := (RX11, cX11_eveningBy, 2, (some .long))
set_option maxRecDepth 100000 in
theorem ylX11_eveningBy : yl_ok yX11_eveningBy mX11_eveningBy 1 := ⟨⟨by decide, by decide, by decide +kernel⟩, gd5 (i := 173) rfl rfl, gd1 (i := 12) rfl rfl⟩
set_option maxRecDepth 100000 in
theorem yvX11_eveningBy : yv_ok yX11_eveningBy 11 := ⟨gd5 (i := 172) rfl rfl, RX11, TX11, 36, rfl, lw_gd_p (i := 50) rfl rfl⟩
abbrev mX11_eveningOf : am_M := (RX11, cX11_eveningOf, 5, (some .long))
set_option maxRecDepth 100000 in
theorem ylX11_eveningOf : yl_ok yX11_eveningOf mX11_eveningOf 2 := ⟨⟨by decide, by decide, by decide +kernel⟩, gd5 (i := 169) rfl rfl, gd1 (i := 12) rfl rfl⟩
set_option maxRecDepth 100000 in
theorem yvX11_eveningOf : yv_ok yX11_eveningOf 11 := ⟨gd5 (i := 168) rfl rfl, RX11, TX11, 36, rfl, lw_gd_p (i := 49) rfl rfl⟩
abbrev mX11_evening : am_M := (RX11, cX11_evening, 3, (some .long))
set_option maxRecDepth 100000 in
theorem ylX11_evening : yl_ok yX11_evening mX11_evening 2 := ⟨⟨by decide, by decide, by decide +kernel⟩, gd5 (i := 165) rfl rfl, gd1 (i := 12) rfl rfl⟩
set_option maxRecDepth 100000 in
theorem yvX11_evening : yv_ok yX11_evening 11 := ⟨gd5 (i := 163) rfl rfl, RX11, TX11, 36, rfl, gd5 (i := 164) rfl rfl⟩
abbrev mX11_primeOf : am_M := (RX11, cX11_primeOf, 4, (some .int))
set_option maxRecDepth 100000 in
theorem ylX11_primeOf : yl_ok yX11_primeOf mX11_primeOf 1 := ⟨⟨by decide, by decide, by decide +kernel⟩, gd5 (i := 181) rfl rfl, gd1 (i := 12) rfl rfl⟩
set_option maxRecDepth 100000 in
theorem yvX11_primeOf : yv_ok yX11_primeOf 11 := ⟨gd5 (i := 180) rfl rfl, RX11, TX11, 36, rfl, lw_gd_p (i := 51) rfl rfl⟩
abbrev mX11_prime : am_M := (RX11, cX11_prime, 2, (some .int))
set_option maxRecDepth 100000 in
theorem ylX11_prime : yl_ok yX11_prime mX11_prime 1 := ⟨⟨by decide, by decide, by decide +kernel⟩, gd5 (i := 177) rfl rfl, gd1 (i := 12) rfl rfl⟩
set_option maxRecDepth 100000 in
theorem yvX11_prime : yv_ok yX11_prime 11 := ⟨gd5 (i := 175) rfl rfl, RX11, TX11, 36, rfl, gd5 (i := 176) rfl rfl⟩
abbrev mX11_player : am_M := (RX11, cX11_player, 3, (some .int))
set_option maxRecDepth 100000 in
theorem ylX11_player : yl_ok yX11_player mX11_player 2 := ⟨⟨by decide, by decide, by decide +kernel⟩, gd5 (i := 185) rfl rfl, gd1 (i := 12) rfl rfl⟩
set_option maxRecDepth 100000 in
theorem yvX11_player : yv_ok yX11_player 11 := ⟨gd5 (i := 183) rfl rfl, RX11, TX11, 36, rfl, gd5 (i := 184) rfl rfl⟩
abbrev mX11_leave : am_M := (RX11, cX11_leave, 2, (some .int))
set_option maxRecDepth 100000 in
theorem ylX11_leave : yl_ok yX11_leave mX11_leave 0 := ⟨⟨by decide, by decide, by decide +kernel⟩, gd5 (i := 189) rfl rfl, gd1 (i := 12) rfl rfl⟩
set_option maxRecDepth 100000 in
theorem yvX11_leave : yv_ok yX11_leave 11 := ⟨gd5 (i := 187) rfl rfl, RX11, TX11, 36, rfl, gd5 (i := 188) rfl rfl⟩
abbrev mX11_looksBy : am_M := (RX11, cX11_looksBy, 7, (some .int))
set_option maxRecDepth 100000 in
theorem ylX11_looksBy : yl_ok yX11_looksBy mX11_looksBy 1 := ⟨⟨by decide, by decide, by decide +kernel⟩, gd5 (i := 201) rfl rfl, gd1 (i := 12) rfl rfl⟩
set_option maxRecDepth 100000 in
theorem yvX11_looksBy : yv_ok yX11_looksBy 11 := ⟨gd5 (i := 200) rfl rfl, RX11, TX11, 36, rfl, lw_gd_p (i := 53) rfl rfl⟩
abbrev mX11_worthOf : am_M := (RX11, cX11_worthOf, 7, (some .int))
set_option maxRecDepth 100000 in
theorem ylX11_worthOf : yl_ok yX11_worthOf mX11_worthOf 1 := ⟨⟨by decide, by decide, by decide +kernel⟩, gd5 (i := 197) rfl rfl, gd1 (i := 12) rfl rfl⟩
set_option maxRecDepth 100000 in
theorem yvX11_worthOf : yv_ok yX11_worthOf 11 := ⟨gd5 (i := 196) rfl rfl, RX11, TX11, 36, rfl, lw_gd_p (i := 52) rfl rfl⟩
abbrev mX11_worth : am_M := (RX11, cX11_worth, 2, (some .int))
set_option maxRecDepth 100000 in
theorem ylX11_worth : yl_ok yX11_worth mX11_worth 1 := ⟨⟨by decide, by decide, by decide +kernel⟩, gd5 (i := 193) rfl rfl, gd1 (i := 12) rfl rfl⟩
set_option maxRecDepth 100000 in
theorem yvX11_worth : yv_ok yX11_worth 11 := ⟨gd5 (i := 191) rfl rfl, RX11, TX11, 36, rfl, gd5 (i := 192) rfl rfl⟩
abbrev mX11_lookOf : am_M := (RX11, cX11_lookOf, 3, (some .int))
set_option maxRecDepth 100000 in
theorem ylX11_lookOf : yl_ok yX11_lookOf mX11_lookOf 1 := ⟨⟨by decide, by decide, by decide +kernel⟩, gd5 (i := 209) rfl rfl, gd1 (i := 12) rfl rfl⟩
set_option maxRecDepth 100000 in
theorem yvX11_lookOf : yv_ok yX11_lookOf 11 := ⟨gd5 (i := 208) rfl rfl, RX11, TX11, 36, rfl, lw_gd_p (i := 54) rfl rfl⟩
abbrev mX11_look : am_M := (RX11, cX11_look, 2, (some .int))
set_option maxRecDepth 100000 in
theorem ylX11_look : yl_ok yX11_look mX11_look 1 := ⟨⟨by decide, by decide, by decide +kernel⟩, gd5 (i := 205) rfl rfl, gd1 (i := 12) rfl rfl⟩
set_option maxRecDepth 100000 in
theorem yvX11_look : yv_ok yX11_look 11 := ⟨gd5 (i := 203) rfl rfl, RX11, TX11, 36, rfl, gd5 (i := 204) rfl rfl⟩
abbrev mX11_from : am_M := (RX11, cX11_from, 3, (some .int))
set_option maxRecDepth 100000 in
theorem ylX11_from : yl_ok yX11_from mX11_from 1 := ⟨⟨by decide, by decide, by decide +kernel⟩, gd5 (i := 213) rfl rfl, gd1 (i := 12) rfl rfl⟩
set_option maxRecDepth 100000 in
theorem yvX11_from : yv_ok yX11_from 11 := ⟨gd5 (i := 211) rfl rfl, RX11, TX11, 36, rfl, gd5 (i := 212) rfl rfl⟩
abbrev mX11_said : am_M := (RX11, cX11_said, 2, (some .int))
set_option maxRecDepth 100000 in
theorem ylX11_said : yl_ok yX11_said mX11_said 1 := ⟨⟨by decide, by decide, by decide +kernel⟩, gd5 (i := 217) rfl rfl, gd1 (i := 12) rfl rfl⟩
set_option maxRecDepth 100000 in
theorem yvX11_said : yv_ok yX11_said 11 := ⟨gd5 (i := 215) rfl rfl, RX11, TX11, 36, rfl, gd5 (i := 216) rfl rfl⟩
abbrev mX11_wrongOf : am_M := (RX11, cX11_wrongOf, 6, (some .int))
set_option maxRecDepth 100000 in
theorem ylX11_wrongOf : yl_ok yX11_wrongOf mX11_wrongOf 1 := ⟨⟨by decide, by decide, by decide +kernel⟩, gd5 (i := 225) rfl rfl, gd1 (i := 12) rfl rfl⟩
set_option maxRecDepth 100000 in
theorem yvX11_wrongOf : yv_ok yX11_wrongOf 11 := ⟨gd5 (i := 224) rfl rfl, RX11, TX11, 36, rfl, lw_gd_p (i := 55) rfl rfl⟩
abbrev mX11_wrong : am_M := (RX11, cX11_wrong, 2, (some .int))
set_option maxRecDepth 100000 in
theorem ylX11_wrong : yl_ok yX11_wrong mX11_wrong 1 := ⟨⟨by decide, by decide, by decide +kernel⟩, gd5 (i := 221) rfl rfl, gd1 (i := 12) rfl rfl⟩
set_option maxRecDepth 100000 in
theorem yvX11_wrong : yv_ok yX11_wrong 11 := ⟨gd5 (i := 219) rfl rfl, RX11, TX11, 36, rfl, gd5 (i := 220) rfl rfl⟩
abbrev mX11_blameNow : am_M := (RX11, cX11_blameNow, 3, (some .int))
set_option maxRecDepth 100000 in
theorem ylX11_blameNow : yl_ok yX11_blameNow mX11_blameNow 0 := ⟨⟨by decide, by decide, by decide +kernel⟩, gd5 (i := 233) rfl rfl, gd1 (i := 12) rfl rfl⟩
set_option maxRecDepth 100000 in
theorem yvX11_blameNow : yv_ok yX11_blameNow 11 := ⟨gd5 (i := 232) rfl rfl, RX11, TX11, 36, rfl, lw_gd_p (i := 56) rfl rfl⟩
abbrev mX11_blame : am_M := (RX11, cX11_blame, 1, (some .int))
set_option maxRecDepth 100000 in
theorem ylX11_blame : yl_ok yX11_blame mX11_blame 0 := ⟨⟨by decide, by decide, by decide +kernel⟩, gd5 (i := 229) rfl rfl, gd1 (i := 12) rfl rfl⟩
set_option maxRecDepth 100000 in
theorem yvX11_blame : yv_ok yX11_blame 11 := ⟨gd5 (i := 227) rfl rfl, RX11, TX11, 36, rfl, gd5 (i := 228) rfl rfl⟩
abbrev mX11_nightOf : am_M := (RX11, cX11_nightOf, 10, (some .int))
set_option maxRecDepth 100000 in
theorem ylX11_nightOf : yl_ok yX11_nightOf mX11_nightOf 2 := ⟨⟨by decide, by decide, by decide +kernel⟩, gd6 (i := 1) rfl rfl, gd1 (i := 12) rfl rfl⟩
set_option maxRecDepth 100000 in
theorem yvX11_nightOf : yv_ok yX11_nightOf 11 := ⟨gd6 (i := 0) rfl rfl, RX11, TX11, 36, rfl, lw_gd_p (i := 57) rfl rfl⟩
abbrev mX11_night : am_M := (RX11, cX11_night, 3, (some .int))
set_option maxRecDepth 100000 in
theorem ylX11_night : yl_ok yX11_night mX11_night 2 := ⟨⟨by decide, by decide, by decide +kernel⟩, gd5 (i := 237) rfl rfl, gd1 (i := 12) rfl rfl⟩
set_option maxRecDepth 100000 in
theorem yvX11_night : yv_ok yX11_night 11 := ⟨gd5 (i := 235) rfl rfl, RX11, TX11, 36, rfl, gd5 (i := 236) rfl rfl⟩
abbrev mX11_meets : am_M := (RX11, cX11_meets, 2, (some .int))
set_option maxRecDepth 100000 in
theorem ylX11_meets : yl_ok yX11_meets mX11_meets 1 := ⟨⟨by decide, by decide, by decide +kernel⟩, gd5 (i := 12) rfl rfl, gd1 (i := 12) rfl rfl⟩
set_option maxRecDepth 100000 in
theorem yvX11_meets : yv_ok yX11_meets 11 := ⟨gd5 (i := 11) rfl rfl, RX11, TX11, 36, rfl, lw_gd_p (i := 29) rfl rfl⟩
abbrev mX11_isSheet : am_M := (RX11, cX11_isSheet, 1, (some .boolean))
set_option maxRecDepth 100000 in
theorem ylX11_isSheet : yl_ok yX11_isSheet mX11_isSheet 1 := ⟨⟨by decide, by decide, by decide +kernel⟩, gd5 (i := 8) rfl rfl, gd1 (i := 12) rfl rfl⟩
set_option maxRecDepth 100000 in
theorem ysX11_isSheet : Cond.static yX11_isSheet ∈ lw_gd := gd5 (i := 7) rfl rfl
abbrev mX11_sheet : am_M := (RX11, cX11_sheet, 5, (some .int))
set_option maxRecDepth 100000 in
theorem ylX11_sheet : yl_ok yX11_sheet mX11_sheet 3 := ⟨⟨by decide, by decide, by decide +kernel⟩, gd6 (i := 6) rfl rfl, gd1 (i := 12) rfl rfl⟩
set_option maxRecDepth 100000 in
theorem yvX11_sheet : yv_ok yX11_sheet 11 := ⟨gd6 (i := 4) rfl rfl, RX11, TX11, 36, rfl, gd6 (i := 5) rfl rfl⟩
abbrev mX11_lose : am_M := (RX11, cX11_lose, 2, (some .int))
set_option maxRecDepth 100000 in
theorem ylX11_lose : yl_ok yX11_lose mX11_lose 1 := ⟨⟨by decide, by decide, by decide +kernel⟩, gd6 (i := 10) rfl rfl, gd1 (i := 12) rfl rfl⟩
set_option maxRecDepth 100000 in
theorem yvX11_lose : yv_ok yX11_lose 11 := ⟨gd6 (i := 8) rfl rfl, RX11, TX11, 36, rfl, gd6 (i := 9) rfl rfl⟩
abbrev mX11_lacks : am_M := (RX11, cX11_lacks, 4, (some .int))
set_option maxRecDepth 100000 in
theorem ylX11_lacks : yl_ok yX11_lacks mX11_lacks 3 := ⟨⟨by decide, by decide, by decide +kernel⟩, gd6 (i := 18) rfl rfl, gd1 (i := 12) rfl rfl⟩
set_option maxRecDepth 100000 in
theorem yvX11_lacks : yv_ok yX11_lacks 11 := ⟨gd6 (i := 17) rfl rfl, RX11, TX11, 36, rfl, lw_gd_p (i := 58) rfl rfl⟩
abbrev mX11_keep : am_M := (RX11, cX11_keep, 4, none)
set_option maxRecDepth 100000 in
theorem ylX11_keep : yl_ok yX11_keep mX11_keep 3 := ⟨⟨by decide, by decide, by decide +kernel⟩, gd6 (i := 22) rfl rfl, gd1 (i := 12) rfl rfl⟩
set_option maxRecDepth 100000 in
theorem yvX11_keep : yv_ok yX11_keep 11 := ⟨gd6 (i := 21) rfl rfl, RX11, TX11, 36, rfl, lw_gd_p (i := 59) rfl rfl⟩
abbrev mX11_put : am_M := (RX11, cX11_put, 6, (some .int))
set_option maxRecDepth 100000 in
theorem ylX11_put : yl_ok yX11_put mX11_put 4 := ⟨⟨by decide, by decide, by decide +kernel⟩, gd6 (i := 14) rfl rfl, gd1 (i := 12) rfl rfl⟩
set_option maxRecDepth 100000 in
theorem yvX11_put : yv_ok yX11_put 11 := ⟨gd6 (i := 12) rfl rfl, RX11, TX11, 36, rfl, gd6 (i := 13) rfl rfl⟩
abbrev mX11_get : am_M := (RX11, cX11_get, 5, (some .int))
set_option maxRecDepth 100000 in
theorem ylX11_get : yl_ok yX11_get mX11_get 3 := ⟨⟨by decide, by decide, by decide +kernel⟩, gd6 (i := 26) rfl rfl, gd1 (i := 12) rfl rfl⟩
set_option maxRecDepth 100000 in
theorem yvX11_get : yv_ok yX11_get 11 := ⟨gd6 (i := 24) rfl rfl, RX11, TX11, 36, rfl, gd6 (i := 25) rfl rfl⟩
abbrev mX11_copy : am_M := (RX11, cX11_copy, 7, (some .int))
set_option maxRecDepth 100000 in
theorem ylX11_copy : yl_ok yX11_copy mX11_copy 5 := ⟨⟨by decide, by decide, by decide +kernel⟩, gd6 (i := 31) rfl rfl, gd1 (i := 12) rfl rfl⟩
set_option maxRecDepth 100000 in
theorem yvX11_copy : yv_ok yX11_copy 11 := ⟨gd6 (i := 29) rfl rfl, RX11, TX11, 36, rfl, gd6 (i := 30) rfl rfl⟩
abbrev mX11_tell : am_M := (RX11, cX11_tell, 3, (some .int))
set_option maxRecDepth 100000 in
theorem ylX11_tell : yl_ok yX11_tell mX11_tell 1 := ⟨⟨by decide, by decide, by decide +kernel⟩, gd6 (i := 35) rfl rfl, gd1 (i := 12) rfl rfl⟩
set_option maxRecDepth 100000 in
theorem yvX11_tell : yv_ok yX11_tell 11 := ⟨gd6 (i := 33) rfl rfl, RX11, TX11, 36, rfl, gd6 (i := 34) rfl rfl⟩
abbrev mX11_readsMany : am_M := (RX11, cX11_readsMany, 2, (some .int))
set_option maxRecDepth 100000 in
theorem ylX11_readsMany : yl_ok yX11_readsMany mX11_readsMany 1 := ⟨⟨by decide, by decide, by decide +kernel⟩, gd6 (i := 43) rfl rfl, gd1 (i := 12) rfl rfl⟩
set_option maxRecDepth 100000 in
theorem yvX11_readsMany : yv_ok yX11_readsMany 11 := ⟨gd6 (i := 42) rfl rfl, RX11, TX11, 36, rfl, lw_gd_p (i := 60) rfl rfl⟩
abbrev mX11_count : am_M := (RX11, cX11_count, 2, (some .int))
set_option maxRecDepth 100000 in
theorem ylX11_count : yl_ok yX11_count mX11_count 1 := ⟨⟨by decide, by decide, by decide +kernel⟩, gd6 (i := 39) rfl rfl, gd1 (i := 12) rfl rfl⟩
set_option maxRecDepth 100000 in
theorem yvX11_count : yv_ok yX11_count 11 := ⟨gd6 (i := 37) rfl rfl, RX11, TX11, 36, rfl, gd6 (i := 38) rfl rfl⟩
abbrev mX11_numberDigest : am_M := (RX11, cX11_numberDigest, 6, (some .long))
set_option maxRecDepth 100000 in
theorem ylX11_numberDigest : yl_ok yX11_numberDigest mX11_numberDigest 2 := ⟨⟨by decide, by decide, by decide +kernel⟩, gd6 (i := 54) rfl rfl, gd1 (i := 12) rfl rfl⟩
set_option maxRecDepth 100000 in
theorem yvX11_numberDigest : yv_ok yX11_numberDigest 11 := ⟨gd6 (i := 53) rfl rfl, RX11, TX11, 36, rfl, lw_gd_p (i := 61) rfl rfl⟩
abbrev mX11_digest : am_M := (RX11, cX11_digest, 4, (some .long))
set_option maxRecDepth 100000 in
theorem ylX11_digest : yl_ok yX11_digest mX11_digest 0 := ⟨⟨by decide, by decide, by decide +kernel⟩, gd6 (i := 47) rfl rfl, gd1 (i := 12) rfl rfl⟩
set_option maxRecDepth 100000 in
theorem yvX11_digest : yv_ok yX11_digest 11 := ⟨gd6 (i := 45) rfl rfl, RX11, TX11, 36, rfl, gd6 (i := 46) rfl rfl⟩
abbrev mJ6_bitCount_0f7a4 : am_M := (RJ6, cJ6_bitCount_0f7a4, 1, (some .int))
set_option maxRecDepth 100000 in
theorem ylJ6_bitCount_0f7a4 : yl_ok yJ6_bitCount_0f7a4 mJ6_bitCount_0f7a4 1 := ⟨⟨by decide, by decide, by decide +kernel⟩, gd3 (i := 99) rfl rfl, gd1 (i := 16) rfl rfl⟩
set_option maxRecDepth 100000 in
theorem ysJ6_bitCount_0f7a4 : Cond.static yJ6_bitCount_0f7a4 ∈ lw_gd := gd3 (i := 98) rfl rfl
abbrev mJ9_max_7cf53 : am_M := (RJ9, cJ9_max_7cf53, 2, (some .int))
set_option maxRecDepth 100000 in
theorem ylJ9_max_7cf53 : yl_ok yJ9_max_7cf53 mJ9_max_7cf53 2 := ⟨⟨by decide, by decide, by decide +kernel⟩, gd2 (i := 77) rfl rfl, gd1 (i := 13) rfl rfl⟩
set_option maxRecDepth 100000 in
theorem ysJ9_max_7cf53 : Cond.static yJ9_max_7cf53 ∈ lw_gd := gd2 (i := 76) rfl rfl
abbrev mJ9_min_7cf53 : am_M := (RJ9, cJ9_min_7cf53, 2, (some .int))
set_option maxRecDepth 100000 in
theorem ylJ9_min_7cf53 : yl_ok yJ9_min_7cf53 mJ9_min_7cf53 2 := ⟨⟨by decide, by decide, by decide +kernel⟩, gd3 (i := 23) rfl rfl, gd1 (i := 13) rfl rfl⟩
set_option maxRecDepth 100000 in
theorem ysJ9_min_7cf53 : Cond.static yJ9_min_7cf53 ∈ lw_gd := gd3 (i := 22) rfl rfl
abbrev mJ7_fill_d0a16 : am_M := (RJ7, cJ7_fill_d0a16, 5, none)
set_option maxRecDepth 100000 in
theorem ylJ7_fill_d0a16 : yl_ok yJ7_fill_d0a16 mJ7_fill_d0a16 2 := ⟨⟨by decide, by decide, by decide +kernel⟩, gd2 (i := 227) rfl rfl, gd1 (i := 14) rfl rfl⟩
set_option maxRecDepth 100000 in
theorem ysJ7_fill_d0a16 : Cond.static yJ7_fill_d0a16 ∈ lw_gd := gd2 (i := 226) rfl rfl
abbrev mJ7_fill_53178 : am_M := (RJ7, cJ7_fill_53178, 4, none)
set_option maxRecDepth 100000 in
theorem ylJ7_fill_53178 : yl_ok yJ7_fill_53178 mJ7_fill_53178 2 := ⟨⟨by decide, by decide, by decide +kernel⟩, gd3 (i := 174) rfl rfl, gd1 (i := 14) rfl rfl⟩
set_option maxRecDepth 100000 in
theorem ysJ7_fill_53178 : Cond.static yJ7_fill_53178 ∈ lw_gd := gd3 (i := 173) rfl rfl
set_option maxRecDepth 100000 in
theorem flRX4_11 : fl_ok RX4 11 4 0 := ⟨RX4, TX4, 10, rfl, by decide, giX4, Or.inl (gd1 (i := 31) rfl rfl)⟩
set_option maxRecDepth 100000 in
theorem flRX4_15 : fl_ok RX4 15 4 1 := ⟨RX4, TX4, 10, rfl, by decide, giX4, Or.inl (gd1 (i := 32) rfl rfl)⟩
set_option maxRecDepth 100000 in
theorem flRX4_18 : fl_ok RX4 18 4 2 := ⟨RX4, TX4, 10, rfl, by decide, giX4, Or.inl (gd1 (i := 33) rfl rfl)⟩
set_option maxRecDepth 100000 in
theorem flRX4_21 : fl_ok RX4 21 4 3 := ⟨RX4, TX4, 10, rfl, by decide, giX4, Or.inl (gd1 (i := 34) rfl rfl)⟩
set_option maxRecDepth 100000 in
theorem flRX4_24 : fl_ok RX4 24 4 4 := ⟨RX4, TX4, 10, rfl, by decide, giX4, Or.inl (gd1 (i := 35) rfl rfl)⟩
set_option maxRecDepth 100000 in
theorem flRX4_27 : fl_ok RX4 27 4 5 := ⟨RX4, TX4, 10, rfl, by decide, giX4, Or.inl (gd1 (i := 36) rfl rfl)⟩
set_option maxRecDepth 100000 in
theorem fpRX4_27 : fp_ok RX4 27 4 5 .int := ⟨RX4, TX4, 10, tyX4, rfl, by decide, giX4, Or.inl (gd1 (i := 36) rfl rfl), tyX4_ok, nmX4, rfl, by decide +kernel⟩
set_option maxRecDepth 100000 in
theorem flRX10_102 : fl_ok RX10 102 4 5 := ⟨RX4, TX4, 10, rfl, by decide, giX4, Or.inr ⟨"OneTriangle", nw1 (i := 37) rfl rfl⟩⟩
set_option maxRecDepth 100000 in
theorem fpRX10_102 : fp_ok RX10 102 4 5 .int := ⟨RX4, TX4, 10, tyX4, rfl, by decide, giX4, Or.inr ⟨"OneTriangle", nw1 (i := 37) rfl rfl⟩, tyX4_ok, nmX4, rfl, by decide +kernel⟩
set_option maxRecDepth 100000 in
theorem flRX4_31 : fl_ok RX4 31 4 6 := ⟨RX4, TX4, 10, rfl, by decide, giX4, Or.inl (gd1 (i := 38) rfl rfl)⟩
set_option maxRecDepth 100000 in
theorem fpRX4_31 : fp_ok RX4 31 4 6 .int := ⟨RX4, TX4, 10, tyX4, rfl, by decide, giX4, Or.inl (gd1 (i := 38) rfl rfl), tyX4_ok, nmX4, rfl, by decide +kernel⟩
set_option maxRecDepth 100000 in
theorem flRX9_66 : fl_ok RX9 66 4 6 := ⟨RX4, TX4, 10, rfl, by decide, giX4, Or.inr ⟨"OneTriangle", nw1 (i := 39) rfl rfl⟩⟩
set_option maxRecDepth 100000 in
theorem fpRX9_66 : fp_ok RX9 66 4 6 .int := ⟨RX4, TX4, 10, tyX4, rfl, by decide, giX4, Or.inr ⟨"OneTriangle", nw1 (i := 39) rfl rfl⟩, tyX4_ok, nmX4, rfl, by decide +kernel⟩
set_option maxRecDepth 100000 in
theorem flRX10_192 : fl_ok RX10 192 4 6 := ⟨RX4, TX4, 10, rfl, by decide, giX4, Or.inr ⟨"OneTriangle", nw1 (i := 40) rfl rfl⟩⟩
set_option maxRecDepth 100000 in
theorem fpRX10_192 : fp_ok RX10 192 4 6 .int := ⟨RX4, TX4, 10, tyX4, rfl, by decide, giX4, Or.inr ⟨"OneTriangle", nw1 (i := 40) rfl rfl⟩, tyX4_ok, nmX4, rfl, by decide +kernel⟩
set_option maxRecDepth 100000 in
theorem flRX4_34 : fl_ok RX4 34 4 7 := ⟨RX4, TX4, 10, rfl, by decide, giX4, Or.inl (gd1 (i := 41) rfl rfl)⟩
set_option maxRecDepth 100000 in
theorem fpRX4_34 : fp_ok RX4 34 4 7 .int := ⟨RX4, TX4, 10, tyX4, rfl, by decide, giX4, Or.inl (gd1 (i := 41) rfl rfl), tyX4_ok, nmX4, rfl, by decide +kernel⟩
set_option maxRecDepth 100000 in
theorem flRX10_298 : fl_ok RX10 298 4 7 := ⟨RX4, TX4, 10, rfl, by decide, giX4, Or.inr ⟨"OneTriangle", nw1 (i := 42) rfl rfl⟩⟩
set_option maxRecDepth 100000 in
theorem fpRX10_298 : fp_ok RX10 298 4 7 .int := ⟨RX4, TX4, 10, tyX4, rfl, by decide, giX4, Or.inr ⟨"OneTriangle", nw1 (i := 42) rfl rfl⟩, tyX4_ok, nmX4, rfl, by decide +kernel⟩
set_option maxRecDepth 100000 in
theorem flRX4_37 : fl_ok RX4 37 4 8 := ⟨RX4, TX4, 10, rfl, by decide, giX4, Or.inl (gd1 (i := 43) rfl rfl)⟩
set_option maxRecDepth 100000 in
theorem fpRX4_37 : fp_ok RX4 37 4 8 .int := ⟨RX4, TX4, 10, tyX4, rfl, by decide, giX4, Or.inl (gd1 (i := 43) rfl rfl), tyX4_ok, nmX4, rfl, by decide +kernel⟩
set_option maxRecDepth 100000 in
theorem flRX10_211 : fl_ok RX10 211 4 8 := ⟨RX4, TX4, 10, rfl, by decide, giX4, Or.inr ⟨"OneTriangle", nw1 (i := 44) rfl rfl⟩⟩
set_option maxRecDepth 100000 in
theorem fpRX10_211 : fp_ok RX10 211 4 8 .int := ⟨RX4, TX4, 10, tyX4, rfl, by decide, giX4, Or.inr ⟨"OneTriangle", nw1 (i := 44) rfl rfl⟩, tyX4_ok, nmX4, rfl, by decide +kernel⟩
set_option maxRecDepth 100000 in
theorem flRX4_40 : fl_ok RX4 40 4 9 := ⟨RX4, TX4, 10, rfl, by decide, giX4, Or.inl (gd1 (i := 45) rfl rfl)⟩
set_option maxRecDepth 100000 in
theorem fpRX4_40 : fp_ok RX4 40 4 9 .int := ⟨RX4, TX4, 10, tyX4, rfl, by decide, giX4, Or.inl (gd1 (i := 45) rfl rfl), tyX4_ok, nmX4, rfl, by decide +kernel⟩
set_option maxRecDepth 100000 in
theorem flRX10_109 : fl_ok RX10 109 4 9 := ⟨RX4, TX4, 10, rfl, by decide, giX4, Or.inr ⟨"OneTriangle", nw1 (i := 46) rfl rfl⟩⟩
set_option maxRecDepth 100000 in
theorem fpRX10_109 : fp_ok RX10 109 4 9 .int := ⟨RX4, TX4, 10, tyX4, rfl, by decide, giX4, Or.inr ⟨"OneTriangle", nw1 (i := 46) rfl rfl⟩, tyX4_ok, nmX4, rfl, by decide +kernel⟩
set_option maxRecDepth 100000 in
theorem flRX6_7 : fl_ok RX6 7 6 0 := ⟨RX6, TX6, 1, rfl, by decide, giX6, Or.inl (gd1 (i := 75) rfl rfl)⟩
set_option maxRecDepth 100000 in
theorem flRX3_7 : fl_ok RX3 7 3 0 := ⟨RX3, TX3, 2, rfl, by decide, giX3, Or.inl (gd1 (i := 85) rfl rfl)⟩
set_option maxRecDepth 100000 in
theorem flRX3_13 : fl_ok RX3 13 3 1 := ⟨RX3, TX3, 2, rfl, by decide, giX3, Or.inl (gd1 (i := 86) rfl rfl)⟩
set_option maxRecDepth 100000 in
theorem flRX2_11 : fl_ok RX2 11 2 0 := ⟨RX2, TX2, 4, rfl, by decide, giX2, Or.inl (gd1 (i := 98) rfl rfl)⟩
set_option maxRecDepth 100000 in
theorem flRX2_15 : fl_ok RX2 15 2 1 := ⟨RX2, TX2, 4, rfl, by decide, giX2, Or.inl (gd1 (i := 99) rfl rfl)⟩
set_option maxRecDepth 100000 in
theorem flRX2_18 : fl_ok RX2 18 2 2 := ⟨RX2, TX2, 4, rfl, by decide, giX2, Or.inl (gd1 (i := 100) rfl rfl)⟩
set_option maxRecDepth 100000 in
theorem flRX2_21 : fl_ok RX2 21 2 3 := ⟨RX2, TX2, 4, rfl, by decide, giX2, Or.inl (gd1 (i := 101) rfl rfl)⟩
set_option maxRecDepth 100000 in
theorem fpRX2_21 : fp_ok RX2 21 2 3 .int := ⟨RX2, TX2, 4, tyX2, rfl, by decide, giX2, Or.inl (gd1 (i := 101) rfl rfl), tyX2_ok, nmX2, rfl, by decide +kernel⟩
set_option maxRecDepth 100000 in
theorem flRX10_170 : fl_ok RX10 170 2 3 := ⟨RX2, TX2, 4, rfl, by decide, giX2, Or.inr ⟨"OneTriangle", nw1 (i := 102) rfl rfl⟩⟩
set_option maxRecDepth 100000 in
theorem fpRX10_170 : fp_ok RX10 170 2 3 .int := ⟨RX2, TX2, 4, tyX2, rfl, by decide, giX2, Or.inr ⟨"OneTriangle", nw1 (i := 102) rfl rfl⟩, tyX2_ok, nmX2, rfl, by decide +kernel⟩
set_option maxRecDepth 100000 in
theorem flRX9_24 : fl_ok RX9 24 9 0 := ⟨RX9, TX9, 8, rfl, by decide, giX9, Or.inl (gd1 (i := 118) rfl rfl)⟩
set_option maxRecDepth 100000 in
theorem flRX9_28 : fl_ok RX9 28 9 1 := ⟨RX9, TX9, 8, rfl, by decide, giX9, Or.inl (gd1 (i := 119) rfl rfl)⟩
set_option maxRecDepth 100000 in
theorem flRX9_32 : fl_ok RX9 32 9 2 := ⟨RX9, TX9, 8, rfl, by decide, giX9, Or.inl (gd1 (i := 120) rfl rfl)⟩
set_option maxRecDepth 100000 in
theorem flRX9_36 : fl_ok RX9 36 9 3 := ⟨RX9, TX9, 8, rfl, by decide, giX9, Or.inl (gd1 (i := 121) rfl rfl)⟩
set_option maxRecDepth 100000 in
theorem flRX9_9 : fl_ok RX9 9 9 4 := ⟨RX9, TX9, 8, rfl, by decide, giX9, Or.inl (gd1 (i := 122) rfl rfl)⟩
set_option maxRecDepth 100000 in
theorem flRX9_15 : fl_ok RX9 15 9 5 := ⟨RX9, TX9, 8, rfl, by decide, giX9, Or.inl (gd1 (i := 123) rfl rfl)⟩
set_option maxRecDepth 100000 in
theorem flRX9_18 : fl_ok RX9 18 9 6 := ⟨RX9, TX9, 8, rfl, by decide, giX9, Or.inl (gd1 (i := 124) rfl rfl)⟩
set_option maxRecDepth 100000 in
theorem flRX9_21 : fl_ok RX9 21 9 7 := ⟨RX9, TX9, 8, rfl, by decide, giX9, Or.inl (gd1 (i := 125) rfl rfl)⟩
set_option maxRecDepth 100000 in
theorem flRX8_18 : fl_ok RX8 18 8 0 := ⟨RX8, TX8, 3, rfl, by decide, giX8, Or.inl (gd1 (i := 150) rfl rfl)⟩
set_option maxRecDepth 100000 in
theorem flRX8_9 : fl_ok RX8 9 8 1 := ⟨RX8, TX8, 3, rfl, by decide, giX8, Or.inl (gd1 (i := 151) rfl rfl)⟩
set_option maxRecDepth 100000 in
theorem flRX8_15 : fl_ok RX8 15 8 2 := ⟨RX8, TX8, 3, rfl, by decide, giX8, Or.inl (gd1 (i := 152) rfl rfl)⟩
set_option maxRecDepth 100000 in
theorem flRX5_11 : fl_ok RX5 11 5 0 := ⟨RX5, TX5, 5, rfl, by decide, giX5, Or.inl (gd1 (i := 166) rfl rfl)⟩
set_option maxRecDepth 100000 in
theorem flRX5_15 : fl_ok RX5 15 5 1 := ⟨RX5, TX5, 5, rfl, by decide, giX5, Or.inl (gd1 (i := 167) rfl rfl)⟩
set_option maxRecDepth 100000 in
theorem flRX5_18 : fl_ok RX5 18 5 2 := ⟨RX5, TX5, 5, rfl, by decide, giX5, Or.inl (gd1 (i := 168) rfl rfl)⟩
set_option maxRecDepth 100000 in
theorem flRX5_21 : fl_ok RX5 21 5 3 := ⟨RX5, TX5, 5, rfl, by decide, giX5, Or.inl (gd1 (i := 169) rfl rfl)⟩
set_option maxRecDepth 100000 in
theorem flRX5_24 : fl_ok RX5 24 5 4 := ⟨RX5, TX5, 5, rfl, by decide, giX5, Or.inl (gd1 (i := 170) rfl rfl)⟩
set_option maxRecDepth 100000 in
theorem fpRX5_24 : fp_ok RX5 24 5 4 .int := ⟨RX5, TX5, 5, tyX5, rfl, by decide, giX5, Or.inl (gd1 (i := 170) rfl rfl), tyX5_ok, nmX5, rfl, by decide +kernel⟩
set_option maxRecDepth 100000 in
theorem flRX10_245 : fl_ok RX10 245 5 4 := ⟨RX5, TX5, 5, rfl, by decide, giX5, Or.inr ⟨"OneTriangle", nw1 (i := 171) rfl rfl⟩⟩
set_option maxRecDepth 100000 in
theorem fpRX10_245 : fp_ok RX10 245 5 4 .int := ⟨RX5, TX5, 5, tyX5, rfl, by decide, giX5, Or.inr ⟨"OneTriangle", nw1 (i := 171) rfl rfl⟩, tyX5_ok, nmX5, rfl, by decide +kernel⟩
set_option maxRecDepth 100000 in
theorem flRX0_11 : fl_ok RX0 11 0 0 := ⟨RX0, TX0, 3, rfl, by decide, giX0, Or.inl (gd1 (i := 189) rfl rfl)⟩
set_option maxRecDepth 100000 in
theorem flRX0_15 : fl_ok RX0 15 0 1 := ⟨RX0, TX0, 3, rfl, by decide, giX0, Or.inl (gd1 (i := 190) rfl rfl)⟩
set_option maxRecDepth 100000 in
theorem fpRX0_15 : fp_ok RX0 15 0 1 .int := ⟨RX0, TX0, 3, tyX0, rfl, by decide, giX0, Or.inl (gd1 (i := 190) rfl rfl), tyX0_ok, nmX0, rfl, by decide +kernel⟩
set_option maxRecDepth 100000 in
theorem flRX10_165 : fl_ok RX10 165 0 1 := ⟨RX0, TX0, 3, rfl, by decide, giX0, Or.inr ⟨"OneTriangle", nw1 (i := 191) rfl rfl⟩⟩
set_option maxRecDepth 100000 in
theorem fpRX10_165 : fp_ok RX10 165 0 1 .int := ⟨RX0, TX0, 3, tyX0, rfl, by decide, giX0, Or.inr ⟨"OneTriangle", nw1 (i := 191) rfl rfl⟩, tyX0_ok, nmX0, rfl, by decide +kernel⟩
set_option maxRecDepth 100000 in
theorem flRX0_19 : fl_ok RX0 19 0 2 := ⟨RX0, TX0, 3, rfl, by decide, giX0, Or.inl (gd1 (i := 192) rfl rfl)⟩
set_option maxRecDepth 100000 in
theorem fpRX0_19 : fp_ok RX0 19 0 2 .int := ⟨RX0, TX0, 3, tyX0, rfl, by decide, giX0, Or.inl (gd1 (i := 192) rfl rfl), tyX0_ok, nmX0, rfl, by decide +kernel⟩
set_option maxRecDepth 100000 in
theorem flRX10_256 : fl_ok RX10 256 0 2 := ⟨RX0, TX0, 3, rfl, by decide, giX0, Or.inr ⟨"OneTriangle", nw1 (i := 193) rfl rfl⟩⟩
set_option maxRecDepth 100000 in
theorem fpRX10_256 : fp_ok RX10 256 0 2 .int := ⟨RX0, TX0, 3, tyX0, rfl, by decide, giX0, Or.inr ⟨"OneTriangle", nw1 (i := 193) rfl rfl⟩, tyX0_ok, nmX0, rfl, by decide +kernel⟩
set_option maxRecDepth 100000 in
theorem flRX1_9 : fl_ok RX1 9 1 0 := ⟨RX1, TX1, 1, rfl, by decide, giX1, Or.inl (gd1 (i := 207) rfl rfl)⟩
set_option maxRecDepth 100000 in
theorem fpRX1_9 : fp_ok RX1 9 1 0 .int := ⟨RX1, TX1, 1, tyX1, rfl, by decide, giX1, Or.inl (gd1 (i := 207) rfl rfl), tyX1_ok, nmX1, rfl, by decide +kernel⟩
set_option maxRecDepth 100000 in
theorem flRX10_268 : fl_ok RX10 268 1 0 := ⟨RX1, TX1, 1, rfl, by decide, giX1, Or.inr ⟨"OneTriangle", nw1 (i := 208) rfl rfl⟩⟩
set_option maxRecDepth 100000 in
theorem fpRX10_268 : fp_ok RX10 268 1 0 .int := ⟨RX1, TX1, 1, tyX1, rfl, by decide, giX1, Or.inr ⟨"OneTriangle", nw1 (i := 208) rfl rfl⟩, tyX1_ok, nmX1, rfl, by decide +kernel⟩
set_option maxRecDepth 100000 in
theorem flRX7_11 : fl_ok RX7 11 7 0 := ⟨RX7, TX7, 4, rfl, by decide, giX7, Or.inl (gd1 (i := 219) rfl rfl)⟩
set_option maxRecDepth 100000 in
theorem flRX10_288 : fl_ok RX10 288 7 0 := ⟨RX7, TX7, 4, rfl, by decide, giX7, Or.inr ⟨"OneTriangle", nw1 (i := 220) rfl rfl⟩⟩
set_option maxRecDepth 100000 in
theorem flRX7_15 : fl_ok RX7 15 7 1 := ⟨RX7, TX7, 4, rfl, by decide, giX7, Or.inl (gd1 (i := 221) rfl rfl)⟩
set_option maxRecDepth 100000 in
theorem fpRX7_15 : fp_ok RX7 15 7 1 .boolean := ⟨RX7, TX7, 4, tyX7, rfl, by decide, giX7, Or.inl (gd1 (i := 221) rfl rfl), tyX7_ok, nmX7, rfl, by decide +kernel⟩
set_option maxRecDepth 100000 in
theorem flRX10_148 : fl_ok RX10 148 7 1 := ⟨RX7, TX7, 4, rfl, by decide, giX7, Or.inr ⟨"OneTriangle", nw1 (i := 222) rfl rfl⟩⟩
set_option maxRecDepth 100000 in
theorem fpRX10_148 : fp_ok RX10 148 7 1 .boolean := ⟨RX7, TX7, 4, tyX7, rfl, by decide, giX7, Or.inr ⟨"OneTriangle", nw1 (i := 222) rfl rfl⟩, tyX7_ok, nmX7, rfl, by decide +kernel⟩
set_option maxRecDepth 100000 in
theorem flRX7_19 : fl_ok RX7 19 7 2 := ⟨RX7, TX7, 4, rfl, by decide, giX7, Or.inl (gd1 (i := 223) rfl rfl)⟩
set_option maxRecDepth 100000 in
theorem fpRX7_19 : fp_ok RX7 19 7 2 .int := ⟨RX7, TX7, 4, tyX7, rfl, by decide, giX7, Or.inl (gd1 (i := 223) rfl rfl), tyX7_ok, nmX7, rfl, by decide +kernel⟩
set_option maxRecDepth 100000 in
theorem flRX10_282 : fl_ok RX10 282 7 2 := ⟨RX7, TX7, 4, rfl, by decide, giX7, Or.inr ⟨"OneTriangle", nw1 (i := 224) rfl rfl⟩⟩
set_option maxRecDepth 100000 in
theorem fpRX10_282 : fp_ok RX10 282 7 2 .int := ⟨RX7, TX7, 4, tyX7, rfl, by decide, giX7, Or.inr ⟨"OneTriangle", nw1 (i := 224) rfl rfl⟩, tyX7_ok, nmX7, rfl, by decide +kernel⟩
set_option maxRecDepth 100000 in
theorem flRX7_23 : fl_ok RX7 23 7 3 := ⟨RX7, TX7, 4, rfl, by decide, giX7, Or.inl (gd1 (i := 225) rfl rfl)⟩
set_option maxRecDepth 100000 in
theorem fpRX7_23 : fp_ok RX7 23 7 3 .int := ⟨RX7, TX7, 4, tyX7, rfl, by decide, giX7, Or.inl (gd1 (i := 225) rfl rfl), tyX7_ok, nmX7, rfl, by decide +kernel⟩
set_option maxRecDepth 100000 in
theorem flRX10_157 : fl_ok RX10 157 7 3 := ⟨RX7, TX7, 4, rfl, by decide, giX7, Or.inr ⟨"OneTriangle", nw1 (i := 226) rfl rfl⟩⟩
set_option maxRecDepth 100000 in
theorem fpRX10_157 : fp_ok RX10 157 7 3 .int := ⟨RX7, TX7, 4, tyX7, rfl, by decide, giX7, Or.inr ⟨"OneTriangle", nw1 (i := 226) rfl rfl⟩, tyX7_ok, nmX7, rfl, by decide +kernel⟩
set_option maxRecDepth 100000 in
theorem flRX10_12 : fl_ok RX10 12 10 0 := ⟨RX10, TX10, 13, rfl, by decide, giX10, Or.inl (gd1 (i := 236) rfl rfl)⟩
set_option maxRecDepth 100000 in
theorem flRX10_19 : fl_ok RX10 19 10 1 := ⟨RX10, TX10, 13, rfl, by decide, giX10, Or.inl (gd1 (i := 237) rfl rfl)⟩
set_option maxRecDepth 100000 in
theorem flRX10_26 : fl_ok RX10 26 10 2 := ⟨RX10, TX10, 13, rfl, by decide, giX10, Or.inl (gd1 (i := 238) rfl rfl)⟩
set_option maxRecDepth 100000 in
theorem flRX10_30 : fl_ok RX10 30 10 3 := ⟨RX10, TX10, 13, rfl, by decide, giX10, Or.inl (gd1 (i := 239) rfl rfl)⟩
set_option maxRecDepth 100000 in
theorem flRX10_36 : fl_ok RX10 36 10 4 := ⟨RX10, TX10, 13, rfl, by decide, giX10, Or.inl (gd2 (i := 0) rfl rfl)⟩
set_option maxRecDepth 100000 in
theorem flRX10_45 : fl_ok RX10 45 10 5 := ⟨RX10, TX10, 13, rfl, by decide, giX10, Or.inl (gd2 (i := 1) rfl rfl)⟩
set_option maxRecDepth 100000 in
theorem flRX10_54 : fl_ok RX10 54 10 6 := ⟨RX10, TX10, 13, rfl, by decide, giX10, Or.inl (gd2 (i := 2) rfl rfl)⟩
set_option maxRecDepth 100000 in
theorem flRX10_61 : fl_ok RX10 61 10 7 := ⟨RX10, TX10, 13, rfl, by decide, giX10, Or.inl (gd2 (i := 3) rfl rfl)⟩
set_option maxRecDepth 100000 in
theorem flRX10_68 : fl_ok RX10 68 10 8 := ⟨RX10, TX10, 13, rfl, by decide, giX10, Or.inl (gd2 (i := 4) rfl rfl)⟩
set_option maxRecDepth 100000 in
theorem flRX10_75 : fl_ok RX10 75 10 9 := ⟨RX10, TX10, 13, rfl, by decide, giX10, Or.inl (gd2 (i := 5) rfl rfl)⟩
set_option maxRecDepth 100000 in
theorem flRX10_81 : fl_ok RX10 81 10 10 := ⟨RX10, TX10, 13, rfl, by decide, giX10, Or.inl (gd2 (i := 6) rfl rfl)⟩
set_option maxRecDepth 100000 in
theorem flRX10_86 : fl_ok RX10 86 10 11 := ⟨RX10, TX10, 13, rfl, by decide, giX10, Or.inl (gd2 (i := 7) rfl rfl)⟩
set_option maxRecDepth 100000 in
theorem fpRX10_86 : fp_ok RX10 86 10 11 .boolean := ⟨RX10, TX10, 13, tyX10, rfl, by decide, giX10, Or.inl (gd2 (i := 7) rfl rfl), tyX10_ok, nmX10, rfl, by decide +kernel⟩
set_option maxRecDepth 100000 in
theorem flRX10_90 : fl_ok RX10 90 10 12 := ⟨RX10, TX10, 13, rfl, by decide, giX10, Or.inl (gd2 (i := 8) rfl rfl)⟩
set_option maxRecDepth 100000 in
theorem fpRX10_90 : fp_ok RX10 90 10 12 .int := ⟨RX10, TX10, 13, tyX10, rfl, by decide, giX10, Or.inl (gd2 (i := 8) rfl rfl), tyX10_ok, nmX10, rfl, by decide +kernel⟩
set_option maxRecDepth 100000 in
theorem mlRL_13 : ml_ok RL 13 yX10_type := Or.inl (gd2 (i := 36) rfl rfl)
set_option maxRecDepth 100000 in
theorem mlRX10_94 : ml_ok RX10 94 yX10_within := Or.inl (gd2 (i := 40) rfl rfl)
set_option maxRecDepth 100000 in
theorem mlRX10_98 : ml_ok RX10 98 yX4_append := Or.inl (gd2 (i := 43) rfl rfl)
set_option maxRecDepth 100000 in
theorem mlRX4_43 : ml_ok RX4 43 yX4_understand := Or.inl (gd2 (i := 47) rfl rfl)
set_option maxRecDepth 100000 in
theorem mlRX4_60 : ml_ok RX4 60 yX4_byteAt := Or.inl (gd2 (i := 51) rfl rfl)
set_option maxRecDepth 100000 in
theorem mlRX4_56 : ml_ok RX4 56 yX10_itemAt := Or.inr ⟨"OneTriangle", nw2 (i := 55) rfl rfl⟩
set_option maxRecDepth 100000 in
theorem mlRX4_64 : ml_ok RX4 64 yX4_passed := Or.inl (gd2 (i := 58) rfl rfl)
set_option maxRecDepth 100000 in
theorem mlRX4_67 : ml_ok RX4 67 yX4_passedPlain := Or.inl (gd2 (i := 62) rfl rfl)
set_option maxRecDepth 100000 in
theorem mlRX4_83 : ml_ok RX4 83 yX10_within := Or.inr ⟨"OneTriangle", nw2 (i := 66) rfl rfl⟩
set_option maxRecDepth 100000 in
theorem mlRX4_80 : ml_ok RX4 80 yX4_faultAt := Or.inl (gd2 (i := 67) rfl rfl)
set_option maxRecDepth 100000 in
theorem mlRX4_76 : ml_ok RX4 76 yX4_addBars := Or.inl (gd2 (i := 71) rfl rfl)
set_option maxRecDepth 100000 in
theorem mlRX4_46 : ml_ok RX4 46 yJ9_max_7cf53 := Or.inl (gd2 (i := 75) rfl rfl)
set_option maxRecDepth 100000 in
theorem mlRX4_70 : ml_ok RX4 70 yX4_passedLoose := Or.inl (gd2 (i := 78) rfl rfl)
set_option maxRecDepth 100000 in
theorem mlRX4_73 : ml_ok RX4 73 yX4_passedCue := Or.inl (gd2 (i := 82) rfl rfl)
set_option maxRecDepth 100000 in
theorem mlRL_18 : ml_ok RL 18 yX10_wipe := Or.inl (gd2 (i := 86) rfl rfl)
set_option maxRecDepth 100000 in
theorem mlRX10_105 : ml_ok RX10 105 yX4_shorten := Or.inl (gd2 (i := 90) rfl rfl)
set_option maxRecDepth 100000 in
theorem mlRL_23 : ml_ok RL 23 yX10_undo := Or.inl (gd2 (i := 94) rfl rfl)
set_option maxRecDepth 100000 in
theorem mlRL_27 : ml_ok RL 27 yX10_fault := Or.inl (gd2 (i := 98) rfl rfl)
set_option maxRecDepth 100000 in
theorem mlRL_31 : ml_ok RL 31 yX10_bar := Or.inl (gd2 (i := 102) rfl rfl)
set_option maxRecDepth 100000 in
theorem mlRX10_112 : ml_ok RX10 112 yX4_hasBar := Or.inl (gd2 (i := 106) rfl rfl)
set_option maxRecDepth 100000 in
theorem mlRX10_115 : ml_ok RX10 115 yX4_kindOf := Or.inl (gd2 (i := 110) rfl rfl)
set_option maxRecDepth 100000 in
theorem mlRX10_119 : ml_ok RX10 119 yX4_tuneOf := Or.inl (gd2 (i := 114) rfl rfl)
set_option maxRecDepth 100000 in
theorem mlRX4_52 : ml_ok RX4 52 yX4_hasBar := Or.inl (gd2 (i := 118) rfl rfl)
set_option maxRecDepth 100000 in
theorem mlRX10_122 : ml_ok RX10 122 yX4_cueIn := Or.inl (gd2 (i := 119) rfl rfl)
set_option maxRecDepth 100000 in
theorem mlRL_36 : ml_ok RL 36 yX10_odds := Or.inl (gd2 (i := 123) rfl rfl)
set_option maxRecDepth 100000 in
theorem mlRX10_125 : ml_ok RX10 125 yX3_missedOf := Or.inl (gd2 (i := 127) rfl rfl)
set_option maxRecDepth 100000 in
theorem mlRX3_16 : ml_ok RX3 16 yX10_itemAt := Or.inr ⟨"OneTriangle", nw2 (i := 131) rfl rfl⟩
set_option maxRecDepth 100000 in
theorem mlRX10_128 : ml_ok RX10 128 yX3_doubledOf := Or.inl (gd2 (i := 132) rfl rfl)
set_option maxRecDepth 100000 in
theorem mlRX10_131 : ml_ok RX10 131 yX3_become := Or.inl (gd2 (i := 136) rfl rfl)
set_option maxRecDepth 100000 in
theorem mlRL_41 : ml_ok RL 41 yX10_set := Or.inl (gd2 (i := 140) rfl rfl)
set_option maxRecDepth 100000 in
theorem mlRX10_135 : ml_ok RX10 135 yX6_most := Or.inl (gd2 (i := 144) rfl rfl)
set_option maxRecDepth 100000 in
theorem fsRX6_13 : Cond.fieldLink RX6 13 "OneTriangle$Settings" "MOST" "[I" ∈ lw_gd := gd2 (i := 147) rfl rfl
set_option maxRecDepth 100000 in
theorem mlRX6_16 : ml_ok RX6 16 yX10_itemAt := Or.inr ⟨"OneTriangle", nw2 (i := 149) rfl rfl⟩
set_option maxRecDepth 100000 in
theorem mlRX10_138 : ml_ok RX10 138 yX6_valueOf := Or.inl (gd2 (i := 150) rfl rfl)
set_option maxRecDepth 100000 in
theorem mlRX10_141 : ml_ok RX10 141 yX6_become := Or.inl (gd2 (i := 154) rfl rfl)
set_option maxRecDepth 100000 in
theorem mlRL_45 : ml_ok RL 45 yX10_read := Or.inl (gd2 (i := 158) rfl rfl)
set_option maxRecDepth 100000 in
theorem mlRX10_144 : ml_ok RX10 144 yX10_sheetAt := Or.inl (gd2 (i := 162) rfl rfl)
set_option maxRecDepth 100000 in
theorem mlRX10_151 : ml_ok RX10 151 yX10_found := Or.inl (gd2 (i := 166) rfl rfl)
set_option maxRecDepth 100000 in
theorem mlRX10_154 : ml_ok RX10 154 yX0_clear := Or.inl (gd2 (i := 170) rfl rfl)
set_option maxRecDepth 100000 in
theorem mlRX10_158 : ml_ok RX10 158 yX7_itemOf := Or.inl (gd2 (i := 174) rfl rfl)
set_option maxRecDepth 100000 in
theorem mlRX7_36 : ml_ok RX7 36 yX10_itemAt := Or.inr ⟨"OneTriangle", nw2 (i := 178) rfl rfl⟩
set_option maxRecDepth 100000 in
theorem mlRX10_161 : ml_ok RX10 161 yX10_isNumber := Or.inl (gd2 (i := 179) rfl rfl)
set_option maxRecDepth 100000 in
theorem mlRX10_164 : ml_ok RX10 164 yX0_append := Or.inl (gd2 (i := 182) rfl rfl)
set_option maxRecDepth 100000 in
theorem mlRL_49 : ml_ok RL 49 yX10_hear := Or.inl (gd2 (i := 186) rfl rfl)
set_option maxRecDepth 100000 in
theorem mlRX10_166 : ml_ok RX10 166 yX10_addNote := Or.inl (gd2 (i := 190) rfl rfl)
set_option maxRecDepth 100000 in
theorem mlRX10_372 : ml_ok RX10 372 yX2_append := Or.inl (gd2 (i := 194) rfl rfl)
set_option maxRecDepth 100000 in
theorem mlRL_53 : ml_ok RL 53 yX10_shown := Or.inl (gd2 (i := 198) rfl rfl)
set_option maxRecDepth 100000 in
theorem mlRL_57 : ml_ok RL 57 yX10_forget := Or.inl (gd2 (i := 202) rfl rfl)
set_option maxRecDepth 100000 in
theorem mlRL_61 : ml_ok RL 61 yX10_where := Or.inl (gd2 (i := 206) rfl rfl)
set_option maxRecDepth 100000 in
theorem mlRX10_171 : ml_ok RX10 171 yX10_isPart := Or.inl (gd2 (i := 210) rfl rfl)
set_option maxRecDepth 100000 in
theorem mlRX10_174 : ml_ok RX10 174 yX10_refusal := Or.inl (gd2 (i := 213) rfl rfl)
set_option maxRecDepth 100000 in
theorem kcRX10_370 : Cond.constantLong RX10 370 (-9223372036854775808) ∈ lw_gd := gd2 (i := 216) rfl rfl
set_option maxRecDepth 100000 in
theorem mlRX10_178 : ml_ok RX10 178 yX10_refreshWays := Or.inl (gd2 (i := 217) rfl rfl)
set_option maxRecDepth 100000 in
theorem mlRX10_374 : ml_ok RX10 374 yX9_find := Or.inl (gd2 (i := 221) rfl rfl)
set_option maxRecDepth 100000 in
theorem mlRX9_54 : ml_ok RX9 54 yJ7_fill_d0a16 := Or.inl (gd2 (i := 225) rfl rfl)
set_option maxRecDepth 100000 in
theorem kcRX9_60 : Cond.constantLong RX9 60 (1099511627776) ∈ lw_gd := gd2 (i := 228) rfl rfl
set_option maxRecDepth 100000 in
theorem mlRX9_62 : ml_ok RX9 62 yX10_addTo := Or.inr ⟨"OneTriangle", nw2 (i := 229) rfl rfl⟩
set_option maxRecDepth 100000 in
theorem mlRX9_40 : ml_ok RX9 40 yX10_longAt := Or.inr ⟨"OneTriangle", nw2 (i := 232) rfl rfl⟩
set_option maxRecDepth 100000 in
theorem mlRX9_70 : ml_ok RX9 70 yX9_pass := Or.inl (gd2 (i := 235) rfl rfl)
set_option maxRecDepth 100000 in
theorem mlRX9_89 : ml_ok RX9 89 yX4_tuneOf := Or.inl (gd2 (i := 239) rfl rfl)
set_option maxRecDepth 100000 in
theorem mlRX9_93 : ml_ok RX9 93 yX2_weigh := Or.inl (gd3 (i := 0) rfl rfl)
set_option maxRecDepth 100000 in
theorem mlRX2_25 : ml_ok RX2 25 yX6_valueOf := Or.inl (gd3 (i := 4) rfl rfl)
set_option maxRecDepth 100000 in
theorem mlRX9_80 : ml_ok RX9 80 yX4_isLoose := Or.inl (gd3 (i := 5) rfl rfl)
set_option maxRecDepth 100000 in
theorem mlRX9_99 : ml_ok RX9 99 yX9_addSaid := Or.inl (gd3 (i := 9) rfl rfl)
set_option maxRecDepth 100000 in
theorem mlRX9_50 : ml_ok RX9 50 yX10_within := Or.inr ⟨"OneTriangle", nw3 (i := 13) rfl rfl⟩
set_option maxRecDepth 100000 in
theorem mlRX9_103 : ml_ok RX9 103 yX4_kindOf := Or.inl (gd3 (i := 14) rfl rfl)
set_option maxRecDepth 100000 in
theorem mlRX9_106 : ml_ok RX9 106 yX3_missedOf := Or.inl (gd3 (i := 15) rfl rfl)
set_option maxRecDepth 100000 in
theorem mlRX9_111 : ml_ok RX9 111 yX3_doubledOf := Or.inl (gd3 (i := 16) rfl rfl)
set_option maxRecDepth 100000 in
theorem kcRX9_114 : Cond.constantLong RX9 114 (16) ∈ lw_gd := gd3 (i := 17) rfl rfl
set_option maxRecDepth 100000 in
theorem acRX9_74 : ac_ok RX9 74 := ⟨gd3 (i := 18) rfl rfl, gd3 (i := 20) rfl rfl, gd3 (i := 19) rfl rfl, gd1 (i := 15) rfl rfl⟩
set_option maxRecDepth 100000 in
theorem mlRX9_83 : ml_ok RX9 83 yJ9_min_7cf53 := Or.inl (gd3 (i := 21) rfl rfl)
set_option maxRecDepth 100000 in
theorem mlRX10_181 : ml_ok RX10 181 yX9_ofAll := Or.inl (gd3 (i := 24) rfl rfl)
set_option maxRecDepth 100000 in
theorem mlRX10_184 : ml_ok RX10 184 yX9_saidIn := Or.inl (gd3 (i := 28) rfl rfl)
set_option maxRecDepth 100000 in
theorem mlRX9_44 : ml_ok RX9 44 yX4_hasBar := Or.inl (gd3 (i := 32) rfl rfl)
set_option maxRecDepth 100000 in
theorem mlRX10_188 : ml_ok RX10 188 yX10_told := Or.inl (gd3 (i := 33) rfl rfl)
set_option maxRecDepth 100000 in
theorem mlRX10_385 : ml_ok RX10 385 yX10_greatestCommon := Or.inl (gd3 (i := 36) rfl rfl)
set_option maxRecDepth 100000 in
theorem mlRL_66 : ml_ok RL 66 yX10_likeliest := Or.inl (gd3 (i := 39) rfl rfl)
set_option maxRecDepth 100000 in
theorem mlRL_70 : ml_ok RL 70 yX10_strike := Or.inl (gd3 (i := 43) rfl rfl)
set_option maxRecDepth 100000 in
theorem mlRX10_195 : ml_ok RX10 195 yX10_costAbove := Or.inl (gd3 (i := 47) rfl rfl)
set_option maxRecDepth 100000 in
theorem mlRL_75 : ml_ok RL 75 yX10_line := Or.inl (gd3 (i := 51) rfl rfl)
set_option maxRecDepth 100000 in
theorem mlRX10_198 : ml_ok RX10 198 yX10_isLess := Or.inl (gd3 (i := 55) rfl rfl)
set_option maxRecDepth 100000 in
theorem mlRL_79 : ml_ok RL 79 yX10_slips := Or.inl (gd3 (i := 58) rfl rfl)
set_option maxRecDepth 100000 in
theorem mlRX10_202 : ml_ok RX10 202 yX8_walk := Or.inl (gd3 (i := 62) rfl rfl)
set_option maxRecDepth 100000 in
theorem mlRX8_26 : ml_ok RX8 26 yJ7_fill_d0a16 := Or.inl (gd3 (i := 66) rfl rfl)
set_option maxRecDepth 100000 in
theorem kcRX8_32 : Cond.constantLong RX8 32 (4503599627370496) ∈ lw_gd := gd3 (i := 67) rfl rfl
set_option maxRecDepth 100000 in
theorem mlRX8_34 : ml_ok RX8 34 yX10_addTo := Or.inr ⟨"OneTriangle", nw3 (i := 68) rfl rfl⟩
set_option maxRecDepth 100000 in
theorem mlRX8_38 : ml_ok RX8 38 yX4_isLoose := Or.inl (gd3 (i := 69) rfl rfl)
set_option maxRecDepth 100000 in
theorem mlRX8_44 : ml_ok RX8 44 yX4_kindOf := Or.inl (gd3 (i := 70) rfl rfl)
set_option maxRecDepth 100000 in
theorem mlRX8_48 : ml_ok RX8 48 yJ9_min_7cf53 := Or.inl (gd3 (i := 71) rfl rfl)
set_option maxRecDepth 100000 in
theorem mlRX8_54 : ml_ok RX8 54 yX3_missedOf := Or.inl (gd3 (i := 72) rfl rfl)
set_option maxRecDepth 100000 in
theorem mlRX8_59 : ml_ok RX8 59 yX3_doubledOf := Or.inl (gd3 (i := 73) rfl rfl)
set_option maxRecDepth 100000 in
theorem mlRX8_62 : ml_ok RX8 62 yX8_drift := Or.inl (gd3 (i := 74) rfl rfl)
set_option maxRecDepth 100000 in
theorem mlRX8_73 : ml_ok RX8 73 yJ9_max_7cf53 := Or.inl (gd3 (i := 78) rfl rfl)
set_option maxRecDepth 100000 in
theorem mlRX8_22 : ml_ok RX8 22 yX10_longAt := Or.inr ⟨"OneTriangle", nw3 (i := 79) rfl rfl⟩
set_option maxRecDepth 100000 in
theorem kcRX8_76 : Cond.constantLong RX8 76 (16) ∈ lw_gd := gd3 (i := 80) rfl rfl
set_option maxRecDepth 100000 in
theorem acRX8_78 : ac_ok RX8 78 := ⟨gd3 (i := 81) rfl rfl, gd3 (i := 20) rfl rfl, gd3 (i := 19) rfl rfl, gd1 (i := 15) rfl rfl⟩
set_option maxRecDepth 100000 in
theorem mlRX8_66 : ml_ok RX8 66 yX4_cueIn := Or.inl (gd3 (i := 82) rfl rfl)
set_option maxRecDepth 100000 in
theorem mlRX8_69 : ml_ok RX8 69 yX8_gather := Or.inl (gd3 (i := 83) rfl rfl)
set_option maxRecDepth 100000 in
theorem kcRX8_84 : Cond.constantLong RX8 84 (281474976710656) ∈ lw_gd := gd3 (i := 87) rfl rfl
set_option maxRecDepth 100000 in
theorem mlRX10_206 : ml_ok RX10 206 yX8_chanceOf := Or.inl (gd3 (i := 88) rfl rfl)
set_option maxRecDepth 100000 in
theorem kcRX10_209 : Cond.constantLong RX10 209 (4503599627370496) ∈ lw_gd := gd3 (i := 92) rfl rfl
set_option maxRecDepth 100000 in
theorem mlRL_83 : ml_ok RL 83 yX10_safe := Or.inl (gd3 (i := 93) rfl rfl)
set_option maxRecDepth 100000 in
theorem mlRX10_214 : ml_ok RX10 214 yJ6_bitCount_0f7a4 := Or.inl (gd3 (i := 97) rfl rfl)
set_option maxRecDepth 100000 in
theorem kcRJ6_265 : Cond.constant RJ6 265 (1431655765) ∈ lw_gd := gd3 (i := 100) rfl rfl
set_option maxRecDepth 100000 in
theorem kcRJ6_266 : Cond.constant RJ6 266 (858993459) ∈ lw_gd := gd3 (i := 101) rfl rfl
set_option maxRecDepth 100000 in
theorem kcRJ6_267 : Cond.constant RJ6 267 (252645135) ∈ lw_gd := gd3 (i := 102) rfl rfl
set_option maxRecDepth 100000 in
theorem mlRX10_219 : ml_ok RX10 219 yX10_safety := Or.inl (gd3 (i := 103) rfl rfl)
set_option maxRecDepth 100000 in
theorem mlRL_87 : ml_ok RL 87 yX10_write := Or.inl (gd3 (i := 107) rfl rfl)
set_option maxRecDepth 100000 in
theorem mlRX10_222 : ml_ok RX10 222 yJ9_min_7cf53 := Or.inl (gd3 (i := 111) rfl rfl)
set_option maxRecDepth 100000 in
theorem kcRX10_228 : Cond.constantLong RX10 228 (-1) ∈ lw_gd := gd3 (i := 112) rfl rfl
set_option maxRecDepth 100000 in
theorem mlRL_91 : ml_ok RL 91 yX10_few := Or.inl (gd3 (i := 113) rfl rfl)
set_option maxRecDepth 100000 in
theorem kcRX10_230 : Cond.constantLong RX10 230 (281474976710656) ∈ lw_gd := gd3 (i := 117) rfl rfl
set_option maxRecDepth 100000 in
theorem mlRL_95 : ml_ok RL 95 yX10_anew := Or.inl (gd3 (i := 118) rfl rfl)
set_option maxRecDepth 100000 in
theorem mlRX10_232 : ml_ok RX10 232 yX4_barOf := Or.inl (gd3 (i := 122) rfl rfl)
set_option maxRecDepth 100000 in
theorem mlRL_99 : ml_ok RL 99 yX10_joint := Or.inl (gd3 (i := 126) rfl rfl)
set_option maxRecDepth 100000 in
theorem mlRL_103 : ml_ok RL 103 yX10_evening := Or.inl (gd3 (i := 130) rfl rfl)
set_option maxRecDepth 100000 in
theorem mlRX10_235 : ml_ok RX10 235 yX10_comeTo := Or.inl (gd3 (i := 134) rfl rfl)
set_option maxRecDepth 100000 in
theorem mlRX10_377 : ml_ok RX10 377 yJ9_max_7cf53 := Or.inl (gd3 (i := 138) rfl rfl)
set_option maxRecDepth 100000 in
theorem mlRX10_238 : ml_ok RX10 238 yX10_trueLater := Or.inl (gd3 (i := 139) rfl rfl)
set_option maxRecDepth 100000 in
theorem mlRL_107 : ml_ok RL 107 yX10_prime := Or.inl (gd3 (i := 143) rfl rfl)
set_option maxRecDepth 100000 in
theorem mlRL_111 : ml_ok RL 111 yX10_player := Or.inl (gd3 (i := 147) rfl rfl)
set_option maxRecDepth 100000 in
theorem mlRX10_242 : ml_ok RX10 242 yX5_append := Or.inl (gd3 (i := 151) rfl rfl)
set_option maxRecDepth 100000 in
theorem mlRX5_28 : ml_ok RX5 28 yX10_itemAt := Or.inr ⟨"OneTriangle", nw3 (i := 155) rfl rfl⟩
set_option maxRecDepth 100000 in
theorem mlRL_115 : ml_ok RL 115 yX10_leave := Or.inl (gd3 (i := 156) rfl rfl)
set_option maxRecDepth 100000 in
theorem mlRL_119 : ml_ok RL 119 yX10_worth := Or.inl (gd3 (i := 160) rfl rfl)
set_option maxRecDepth 100000 in
theorem mlRX10_246 : ml_ok RX10 246 yX5_bestBits := Or.inl (gd3 (i := 164) rfl rfl)
set_option maxRecDepth 100000 in
theorem mlRX5_32 : ml_ok RX5 32 yX5_plan := Or.inl (gd3 (i := 168) rfl rfl)
set_option maxRecDepth 100000 in
theorem mlRX5_36 : ml_ok RX5 36 yJ7_fill_53178 := Or.inl (gd3 (i := 172) rfl rfl)
set_option maxRecDepth 100000 in
theorem mlRX5_42 : ml_ok RX5 42 yX10_within := Or.inr ⟨"OneTriangle", nw3 (i := 175) rfl rfl⟩
set_option maxRecDepth 100000 in
theorem mlRX5_46 : ml_ok RX5 46 yJ9_max_7cf53 := Or.inl (gd3 (i := 176) rfl rfl)
set_option maxRecDepth 100000 in
theorem mlRX10_250 : ml_ok RX10 250 yX5_plan := Or.inl (gd3 (i := 177) rfl rfl)
set_option maxRecDepth 100000 in
theorem mlRL_123 : ml_ok RL 123 yX10_look := Or.inl (gd3 (i := 178) rfl rfl)
set_option maxRecDepth 100000 in
theorem mlRX10_253 : ml_ok RX10 253 yX5_lookedAtIn := Or.inl (gd3 (i := 182) rfl rfl)
set_option maxRecDepth 100000 in
theorem mlRL_127 : ml_ok RL 127 yX10_from := Or.inl (gd3 (i := 186) rfl rfl)
set_option maxRecDepth 100000 in
theorem mlRL_131 : ml_ok RL 131 yX10_said := Or.inl (gd3 (i := 190) rfl rfl)
set_option maxRecDepth 100000 in
theorem mlRL_135 : ml_ok RL 135 yX10_wrong := Or.inl (gd3 (i := 194) rfl rfl)
set_option maxRecDepth 100000 in
theorem mlRX10_259 : ml_ok RX10 259 yX0_firstWrong := Or.inl (gd3 (i := 198) rfl rfl)
set_option maxRecDepth 100000 in
theorem mlRX0_22 : ml_ok RX0 22 yX0_isWrong := Or.inl (gd3 (i := 202) rfl rfl)
set_option maxRecDepth 100000 in
theorem mlRX0_26 : ml_ok RX0 26 yX10_itemAt := Or.inr ⟨"OneTriangle", nw3 (i := 206) rfl rfl⟩
set_option maxRecDepth 100000 in
theorem mlRX10_262 : ml_ok RX10 262 yX0_allWrong := Or.inl (gd3 (i := 207) rfl rfl)
set_option maxRecDepth 100000 in
theorem mlRL_139 : ml_ok RL 139 yX10_blame := Or.inl (gd3 (i := 211) rfl rfl)
set_option maxRecDepth 100000 in
theorem mlRX10_265 : ml_ok RX10 265 yX4_isLoose := Or.inl (gd3 (i := 215) rfl rfl)
set_option maxRecDepth 100000 in
theorem mlRL_143 : ml_ok RL 143 yX10_night := Or.inl (gd3 (i := 216) rfl rfl)
set_option maxRecDepth 100000 in
theorem mlRX10_271 : ml_ok RX10 271 yX10_slipOfNight := Or.inl (gd3 (i := 220) rfl rfl)
set_option maxRecDepth 100000 in
theorem mlRX10_380 : ml_ok RX10 380 yX1_draw := Or.inl (gd3 (i := 224) rfl rfl)
set_option maxRecDepth 100000 in
theorem kcRX1_15 : Cond.constant RX1 15 (1103515245) ∈ lw_gd := gd3 (i := 228) rfl rfl
set_option maxRecDepth 100000 in
theorem mlRL_147 : ml_ok RL 147 yX10_sheet := Or.inl (gd3 (i := 229) rfl rfl)
set_option maxRecDepth 100000 in
theorem mlRX10_274 : ml_ok RX10 274 yX7_renew := Or.inl (gd3 (i := 233) rfl rfl)
set_option maxRecDepth 100000 in
theorem mlRX7_26 : ml_ok RX7 26 yJ7_fill_53178 := Or.inl (gd3 (i := 237) rfl rfl)
set_option maxRecDepth 100000 in
theorem mlRL_151 : ml_ok RL 151 yX10_lose := Or.inl (gd3 (i := 238) rfl rfl)
set_option maxRecDepth 100000 in
theorem mlRL_155 : ml_ok RL 155 yX10_put := Or.inl (gd4 (i := 2) rfl rfl)
set_option maxRecDepth 100000 in
theorem mlRX10_277 : ml_ok RX10 277 yX7_findingAt := Or.inl (gd4 (i := 6) rfl rfl)
set_option maxRecDepth 100000 in
theorem mlRX7_32 : ml_ok RX7 32 yX7_hasItems := Or.inl (gd4 (i := 10) rfl rfl)
set_option maxRecDepth 100000 in
theorem mlRX10_280 : ml_ok RX10 280 yX7_become := Or.inl (gd4 (i := 14) rfl rfl)
set_option maxRecDepth 100000 in
theorem mlRL_160 : ml_ok RL 160 yX10_get := Or.inl (gd4 (i := 18) rfl rfl)
set_option maxRecDepth 100000 in
theorem kcRX10_281 : Cond.constant RX10 281 (-2147483648) ∈ lw_gd := gd4 (i := 22) rfl rfl
set_option maxRecDepth 100000 in
theorem mlRL_164 : ml_ok RL 164 yX10_copy := Or.inl (gd4 (i := 23) rfl rfl)
set_option maxRecDepth 100000 in
theorem mlRX10_285 : ml_ok RX10 285 yX7_hasItems := Or.inl (gd4 (i := 27) rfl rfl)
set_option maxRecDepth 100000 in
theorem acRX10_292 : ac_ok RX10 292 := ⟨gd4 (i := 28) rfl rfl, gd3 (i := 20) rfl rfl, gd3 (i := 19) rfl rfl, gd1 (i := 15) rfl rfl⟩
set_option maxRecDepth 100000 in
theorem mlRL_169 : ml_ok RL 169 yX10_tell := Or.inl (gd4 (i := 29) rfl rfl)
set_option maxRecDepth 100000 in
theorem mlRL_173 : ml_ok RL 173 yX10_count := Or.inl (gd4 (i := 33) rfl rfl)
set_option maxRecDepth 100000 in
theorem mlRL_177 : ml_ok RL 177 yX10_digest := Or.inl (gd4 (i := 37) rfl rfl)
set_option maxRecDepth 100000 in
theorem kcRX10_301 : Cond.constantLong RX10 301 (17) ∈ lw_gd := gd4 (i := 41) rfl rfl
set_option maxRecDepth 100000 in
theorem mlRX10_303 : ml_ok RX10 303 yX10_count := Or.inl (gd4 (i := 42) rfl rfl)
set_option maxRecDepth 100000 in
theorem mlRX10_306 : ml_ok RX10 306 yX10_mixed := Or.inl (gd4 (i := 43) rfl rfl)
set_option maxRecDepth 100000 in
theorem kcRX10_383 : Cond.constantLong RX10 383 (31) ∈ lw_gd := gd4 (i := 46) rfl rfl
set_option maxRecDepth 100000 in
theorem mlRX10_310 : ml_ok RX10 310 yX10_fault := Or.inl (gd4 (i := 47) rfl rfl)
set_option maxRecDepth 100000 in
theorem fsRX10_313 : Cond.fieldLink RX10 313 "OneTriangle" "DIGEST_NUMBERS" "[I" ∈ lw_gd := gd4 (i := 48) rfl rfl
set_option maxRecDepth 100000 in
theorem mlRX10_316 : ml_ok RX10 316 yX10_where := Or.inl (gd4 (i := 50) rfl rfl)
set_option maxRecDepth 100000 in
theorem mlRX10_320 : ml_ok RX10 320 yX10_likeliest := Or.inl (gd4 (i := 51) rfl rfl)
set_option maxRecDepth 100000 in
theorem mlRX10_323 : ml_ok RX10 323 yX10_strike := Or.inl (gd4 (i := 52) rfl rfl)
set_option maxRecDepth 100000 in
theorem mlRX10_326 : ml_ok RX10 326 yX10_line := Or.inl (gd4 (i := 53) rfl rfl)
set_option maxRecDepth 100000 in
theorem mlRX10_329 : ml_ok RX10 329 yX10_slips := Or.inl (gd4 (i := 54) rfl rfl)
set_option maxRecDepth 100000 in
theorem mlRX10_332 : ml_ok RX10 332 yX10_safe := Or.inl (gd4 (i := 55) rfl rfl)
set_option maxRecDepth 100000 in
theorem mlRX10_335 : ml_ok RX10 335 yX10_write := Or.inl (gd4 (i := 56) rfl rfl)
set_option maxRecDepth 100000 in
theorem mlRX10_338 : ml_ok RX10 338 yX10_few := Or.inl (gd4 (i := 57) rfl rfl)
set_option maxRecDepth 100000 in
theorem mlRX10_341 : ml_ok RX10 341 yX10_anew := Or.inl (gd4 (i := 58) rfl rfl)
set_option maxRecDepth 100000 in
theorem mlRX10_344 : ml_ok RX10 344 yX10_joint := Or.inl (gd4 (i := 59) rfl rfl)
set_option maxRecDepth 100000 in
theorem mlRX10_347 : ml_ok RX10 347 yX10_evening := Or.inl (gd4 (i := 60) rfl rfl)
set_option maxRecDepth 100000 in
theorem mlRX10_350 : ml_ok RX10 350 yX10_prime := Or.inl (gd4 (i := 61) rfl rfl)
set_option maxRecDepth 100000 in
theorem mlRX10_353 : ml_ok RX10 353 yX10_worth := Or.inl (gd4 (i := 62) rfl rfl)
set_option maxRecDepth 100000 in
theorem mlRX10_356 : ml_ok RX10 356 yX10_look := Or.inl (gd4 (i := 63) rfl rfl)
set_option maxRecDepth 100000 in
theorem mlRX10_359 : ml_ok RX10 359 yX10_wrong := Or.inl (gd4 (i := 64) rfl rfl)
set_option maxRecDepth 100000 in
theorem mlRX10_362 : ml_ok RX10 362 yX10_blame := Or.inl (gd4 (i := 65) rfl rfl)
set_option maxRecDepth 100000 in
theorem mlRX10_365 : ml_ok RX10 365 yX10_night := Or.inl (gd4 (i := 66) rfl rfl)
set_option maxRecDepth 100000 in
theorem flRX11_7 : fl_ok RX11 7 11 0 := ⟨RX11, TX11, 36, rfl, by decide, giX11, Or.inl (gd4 (i := 73) rfl rfl)⟩
set_option maxRecDepth 100000 in
theorem flRX11_93 : fl_ok RX11 93 11 1 := ⟨RX11, TX11, 36, rfl, by decide, giX11, Or.inl (gd4 (i := 74) rfl rfl)⟩
set_option maxRecDepth 100000 in
theorem fpRX11_93 : fp_ok RX11 93 11 1 .int := ⟨RX11, TX11, 36, tyX11, rfl, by decide, giX11, Or.inl (gd4 (i := 74) rfl rfl), tyX11_ok, nmX11, rfl, by decide +kernel⟩
set_option maxRecDepth 100000 in
theorem flRX11_97 : fl_ok RX11 97 11 2 := ⟨RX11, TX11, 36, rfl, by decide, giX11, Or.inl (gd4 (i := 75) rfl rfl)⟩
set_option maxRecDepth 100000 in
theorem fpRX11_97 : fp_ok RX11 97 11 2 .int := ⟨RX11, TX11, 36, tyX11, rfl, by decide, giX11, Or.inl (gd4 (i := 75) rfl rfl), tyX11_ok, nmX11, rfl, by decide +kernel⟩
set_option maxRecDepth 100000 in
theorem flRX11_13 : fl_ok RX11 13 11 3 := ⟨RX11, TX11, 36, rfl, by decide, giX11, Or.inl (gd4 (i := 76) rfl rfl)⟩
set_option maxRecDepth 100000 in
theorem flRX11_16 : fl_ok RX11 16 11 4 := ⟨RX11, TX11, 36, rfl, by decide, giX11, Or.inl (gd4 (i := 77) rfl rfl)⟩
set_option maxRecDepth 100000 in
theorem flRX11_19 : fl_ok RX11 19 11 5 := ⟨RX11, TX11, 36, rfl, by decide, giX11, Or.inl (gd4 (i := 78) rfl rfl)⟩
set_option maxRecDepth 100000 in
theorem flRX11_103 : fl_ok RX11 103 11 6 := ⟨RX11, TX11, 36, rfl, by decide, giX11, Or.inl (gd4 (i := 79) rfl rfl)⟩
set_option maxRecDepth 100000 in
theorem fpRX11_103 : fp_ok RX11 103 11 6 .int := ⟨RX11, TX11, 36, tyX11, rfl, by decide, giX11, Or.inl (gd4 (i := 79) rfl rfl), tyX11_ok, nmX11, rfl, by decide +kernel⟩
set_option maxRecDepth 100000 in
theorem flRX11_100 : fl_ok RX11 100 11 7 := ⟨RX11, TX11, 36, rfl, by decide, giX11, Or.inl (gd4 (i := 80) rfl rfl)⟩
set_option maxRecDepth 100000 in
theorem fpRX11_100 : fp_ok RX11 100 11 7 .int := ⟨RX11, TX11, 36, tyX11, rfl, by decide, giX11, Or.inl (gd4 (i := 80) rfl rfl), tyX11_ok, nmX11, rfl, by decide +kernel⟩
set_option maxRecDepth 100000 in
theorem flRX11_22 : fl_ok RX11 22 11 8 := ⟨RX11, TX11, 36, rfl, by decide, giX11, Or.inl (gd4 (i := 81) rfl rfl)⟩
set_option maxRecDepth 100000 in
theorem flRX11_25 : fl_ok RX11 25 11 9 := ⟨RX11, TX11, 36, rfl, by decide, giX11, Or.inl (gd4 (i := 82) rfl rfl)⟩
set_option maxRecDepth 100000 in
theorem flRX11_28 : fl_ok RX11 28 11 10 := ⟨RX11, TX11, 36, rfl, by decide, giX11, Or.inl (gd4 (i := 83) rfl rfl)⟩
set_option maxRecDepth 100000 in
theorem flRX11_31 : fl_ok RX11 31 11 11 := ⟨RX11, TX11, 36, rfl, by decide, giX11, Or.inl (gd4 (i := 84) rfl rfl)⟩
set_option maxRecDepth 100000 in
theorem flRX11_141 : fl_ok RX11 141 11 12 := ⟨RX11, TX11, 36, rfl, by decide, giX11, Or.inl (gd4 (i := 85) rfl rfl)⟩
set_option maxRecDepth 100000 in
theorem fpRX11_141 : fp_ok RX11 141 11 12 .int := ⟨RX11, TX11, 36, tyX11, rfl, by decide, giX11, Or.inl (gd4 (i := 85) rfl rfl), tyX11_ok, nmX11, rfl, by decide +kernel⟩
set_option maxRecDepth 100000 in
theorem flRX11_34 : fl_ok RX11 34 11 13 := ⟨RX11, TX11, 36, rfl, by decide, giX11, Or.inl (gd4 (i := 86) rfl rfl)⟩
set_option maxRecDepth 100000 in
theorem flRX11_260 : fl_ok RX11 260 11 14 := ⟨RX11, TX11, 36, rfl, by decide, giX11, Or.inl (gd4 (i := 87) rfl rfl)⟩
set_option maxRecDepth 100000 in
theorem fpRX11_260 : fp_ok RX11 260 11 14 .int := ⟨RX11, TX11, 36, tyX11, rfl, by decide, giX11, Or.inl (gd4 (i := 87) rfl rfl), tyX11_ok, nmX11, rfl, by decide +kernel⟩
set_option maxRecDepth 100000 in
theorem flRX11_144 : fl_ok RX11 144 11 15 := ⟨RX11, TX11, 36, rfl, by decide, giX11, Or.inl (gd4 (i := 88) rfl rfl)⟩
set_option maxRecDepth 100000 in
theorem fpRX11_144 : fp_ok RX11 144 11 15 .int := ⟨RX11, TX11, 36, tyX11, rfl, by decide, giX11, Or.inl (gd4 (i := 88) rfl rfl), tyX11_ok, nmX11, rfl, by decide +kernel⟩
set_option maxRecDepth 100000 in
theorem flRX11_37 : fl_ok RX11 37 11 16 := ⟨RX11, TX11, 36, rfl, by decide, giX11, Or.inl (gd4 (i := 89) rfl rfl)⟩
set_option maxRecDepth 100000 in
theorem flRX11_40 : fl_ok RX11 40 11 17 := ⟨RX11, TX11, 36, rfl, by decide, giX11, Or.inl (gd4 (i := 90) rfl rfl)⟩
set_option maxRecDepth 100000 in
theorem flRX11_43 : fl_ok RX11 43 11 18 := ⟨RX11, TX11, 36, rfl, by decide, giX11, Or.inl (gd4 (i := 91) rfl rfl)⟩
set_option maxRecDepth 100000 in
theorem flRX11_46 : fl_ok RX11 46 11 19 := ⟨RX11, TX11, 36, rfl, by decide, giX11, Or.inl (gd4 (i := 92) rfl rfl)⟩
set_option maxRecDepth 100000 in
theorem flRX11_50 : fl_ok RX11 50 11 20 := ⟨RX11, TX11, 36, rfl, by decide, giX11, Or.inl (gd4 (i := 93) rfl rfl)⟩
set_option maxRecDepth 100000 in
theorem flRX11_53 : fl_ok RX11 53 11 21 := ⟨RX11, TX11, 36, rfl, by decide, giX11, Or.inl (gd4 (i := 94) rfl rfl)⟩
set_option maxRecDepth 100000 in
theorem flRX11_153 : fl_ok RX11 153 11 22 := ⟨RX11, TX11, 36, rfl, by decide, giX11, Or.inl (gd4 (i := 95) rfl rfl)⟩
set_option maxRecDepth 100000 in
theorem fpRX11_153 : fp_ok RX11 153 11 22 .long := ⟨RX11, TX11, 36, tyX11, rfl, by decide, giX11, Or.inl (gd4 (i := 95) rfl rfl), tyX11_ok, nmX11, rfl, by decide +kernel⟩
set_option maxRecDepth 100000 in
theorem flRX11_56 : fl_ok RX11 56 11 23 := ⟨RX11, TX11, 36, rfl, by decide, giX11, Or.inl (gd4 (i := 96) rfl rfl)⟩
set_option maxRecDepth 100000 in
theorem flRX11_59 : fl_ok RX11 59 11 24 := ⟨RX11, TX11, 36, rfl, by decide, giX11, Or.inl (gd4 (i := 97) rfl rfl)⟩
set_option maxRecDepth 100000 in
theorem flRX11_193 : fl_ok RX11 193 11 25 := ⟨RX11, TX11, 36, rfl, by decide, giX11, Or.inl (gd4 (i := 98) rfl rfl)⟩
set_option maxRecDepth 100000 in
theorem fpRX11_193 : fp_ok RX11 193 11 25 .long := ⟨RX11, TX11, 36, tyX11, rfl, by decide, giX11, Or.inl (gd4 (i := 98) rfl rfl), tyX11_ok, nmX11, rfl, by decide +kernel⟩
set_option maxRecDepth 100000 in
theorem flRX11_248 : fl_ok RX11 248 11 26 := ⟨RX11, TX11, 36, rfl, by decide, giX11, Or.inl (gd4 (i := 99) rfl rfl)⟩
set_option maxRecDepth 100000 in
theorem fpRX11_248 : fp_ok RX11 248 11 26 .int := ⟨RX11, TX11, 36, tyX11, rfl, by decide, giX11, Or.inl (gd4 (i := 99) rfl rfl), tyX11_ok, nmX11, rfl, by decide +kernel⟩
set_option maxRecDepth 100000 in
theorem flRX11_62 : fl_ok RX11 62 11 27 := ⟨RX11, TX11, 36, rfl, by decide, giX11, Or.inl (gd4 (i := 100) rfl rfl)⟩
set_option maxRecDepth 100000 in
theorem flRX11_65 : fl_ok RX11 65 11 28 := ⟨RX11, TX11, 36, rfl, by decide, giX11, Or.inl (gd4 (i := 101) rfl rfl)⟩
set_option maxRecDepth 100000 in
theorem flRX11_68 : fl_ok RX11 68 11 29 := ⟨RX11, TX11, 36, rfl, by decide, giX11, Or.inl (gd4 (i := 102) rfl rfl)⟩
set_option maxRecDepth 100000 in
theorem flRX11_71 : fl_ok RX11 71 11 30 := ⟨RX11, TX11, 36, rfl, by decide, giX11, Or.inl (gd4 (i := 103) rfl rfl)⟩
set_option maxRecDepth 100000 in
theorem flRX11_75 : fl_ok RX11 75 11 31 := ⟨RX11, TX11, 36, rfl, by decide, giX11, Or.inl (gd4 (i := 104) rfl rfl)⟩
set_option maxRecDepth 100000 in
theorem flRX11_78 : fl_ok RX11 78 11 32 := ⟨RX11, TX11, 36, rfl, by decide, giX11, Or.inl (gd4 (i := 105) rfl rfl)⟩
set_option maxRecDepth 100000 in
theorem flRX11_81 : fl_ok RX11 81 11 33 := ⟨RX11, TX11, 36, rfl, by decide, giX11, Or.inl (gd4 (i := 106) rfl rfl)⟩
set_option maxRecDepth 100000 in
theorem flRX11_84 : fl_ok RX11 84 11 34 := ⟨RX11, TX11, 36, rfl, by decide, giX11, Or.inl (gd4 (i := 107) rfl rfl)⟩
set_option maxRecDepth 100000 in
theorem flRX11_273 : fl_ok RX11 273 11 35 := ⟨RX11, TX11, 36, rfl, by decide, giX11, Or.inl (gd4 (i := 108) rfl rfl)⟩
set_option maxRecDepth 100000 in
theorem fpRX11_273 : fp_ok RX11 273 11 35 .int := ⟨RX11, TX11, 36, tyX11, rfl, by decide, giX11, Or.inl (gd4 (i := 108) rfl rfl), tyX11_ok, nmX11, rfl, by decide +kernel⟩
set_option maxRecDepth 100000 in
theorem mlRL_17 : ml_ok RL 17 yX11_type := Or.inl (gd4 (i := 183) rfl rfl)
set_option maxRecDepth 100000 in
theorem mlRX11_89 : ml_ok RX11 89 yX11_in := Or.inl (gd4 (i := 187) rfl rfl)
set_option maxRecDepth 100000 in
theorem mlRL_22 : ml_ok RL 22 yX11_wipe := Or.inl (gd4 (i := 190) rfl rfl)
set_option maxRecDepth 100000 in
theorem mlRL_26 : ml_ok RL 26 yX11_undo := Or.inl (gd4 (i := 194) rfl rfl)
set_option maxRecDepth 100000 in
theorem mlRL_30 : ml_ok RL 30 yX11_fault := Or.inl (gd4 (i := 198) rfl rfl)
set_option maxRecDepth 100000 in
theorem mlRX11_118 : ml_ok RX11 118 yX11_faultNow := Or.inl (gd4 (i := 202) rfl rfl)
set_option maxRecDepth 100000 in
theorem mlRX11_114 : ml_ok RX11 114 yX11_readsPiece := Or.inl (gd4 (i := 206) rfl rfl)
set_option maxRecDepth 100000 in
theorem mlRX11_106 : ml_ok RX11 106 yX11_figureAt := Or.inl (gd4 (i := 210) rfl rfl)
set_option maxRecDepth 100000 in
theorem mlRX11_110 : ml_ok RX11 110 yX11_adds := Or.inl (gd4 (i := 214) rfl rfl)
set_option maxRecDepth 100000 in
theorem mlRL_35 : ml_ok RL 35 yX11_bar := Or.inl (gd4 (i := 218) rfl rfl)
set_option maxRecDepth 100000 in
theorem mlRX11_124 : ml_ok RX11 124 yX11_isBar := Or.inl (gd4 (i := 222) rfl rfl)
set_option maxRecDepth 100000 in
theorem mlRX11_121 : ml_ok RX11 121 yX11_reads := Or.inl (gd4 (i := 226) rfl rfl)
set_option maxRecDepth 100000 in
theorem mlRX11_128 : ml_ok RX11 128 yX11_barOf := Or.inl (gd4 (i := 230) rfl rfl)
set_option maxRecDepth 100000 in
theorem mlRL_40 : ml_ok RL 40 yX11_odds := Or.inl (gd4 (i := 234) rfl rfl)
set_option maxRecDepth 100000 in
theorem mlRL_44 : ml_ok RL 44 yX11_set := Or.inl (gd4 (i := 238) rfl rfl)
set_option maxRecDepth 100000 in
theorem mlRL_48 : ml_ok RL 48 yX11_read := Or.inl (gd5 (i := 2) rfl rfl)
set_option maxRecDepth 100000 in
theorem mlRX11_132 : ml_ok RX11 132 yX11_isSheet := Or.inl (gd5 (i := 6) rfl rfl)
set_option maxRecDepth 100000 in
theorem mlRX11_135 : ml_ok RX11 135 yX11_meets := Or.inl (gd5 (i := 9) rfl rfl)
set_option maxRecDepth 100000 in
theorem mlRX11_138 : ml_ok RX11 138 yX11_isNumber := Or.inl (gd5 (i := 13) rfl rfl)
set_option maxRecDepth 100000 in
theorem mlRL_52 : ml_ok RL 52 yX11_hear := Or.inl (gd5 (i := 16) rfl rfl)
set_option maxRecDepth 100000 in
theorem mlRX11_147 : ml_ok RX11 147 yX11_notesMore := Or.inl (gd5 (i := 20) rfl rfl)
set_option maxRecDepth 100000 in
theorem mlRL_56 : ml_ok RL 56 yX11_shown := Or.inl (gd5 (i := 24) rfl rfl)
set_option maxRecDepth 100000 in
theorem mlRL_60 : ml_ok RL 60 yX11_forget := Or.inl (gd5 (i := 28) rfl rfl)
set_option maxRecDepth 100000 in
theorem mlRL_65 : ml_ok RL 65 yX11_where := Or.inl (gd5 (i := 32) rfl rfl)
set_option maxRecDepth 100000 in
theorem mlRX11_176 : ml_ok RX11 176 yX11_whereOf := Or.inl (gd5 (i := 36) rfl rfl)
set_option maxRecDepth 100000 in
theorem mlRX11_164 : ml_ok RX11 164 yX11_findsWhere := Or.inl (gd5 (i := 40) rfl rfl)
set_option maxRecDepth 100000 in
theorem kcRX11_151 : Cond.constantLong RX11 151 (16) ∈ lw_gd := gd5 (i := 44) rfl rfl
set_option maxRecDepth 100000 in
theorem mlRX11_157 : ml_ok RX11 157 yX11_saysOdds := Or.inl (gd5 (i := 45) rfl rfl)
set_option maxRecDepth 100000 in
theorem mlRX11_160 : ml_ok RX11 160 yX11_notesWeigh := Or.inl (gd5 (i := 49) rfl rfl)
set_option maxRecDepth 100000 in
theorem mlRX11_168 : ml_ok RX11 168 yX11_no := Or.inl (gd5 (i := 53) rfl rfl)
set_option maxRecDepth 100000 in
theorem kcRX11_87 : Cond.constantLong RX11 87 (-9223372036854775808) ∈ lw_gd := gd5 (i := 56) rfl rfl
set_option maxRecDepth 100000 in
theorem mlRX11_172 : ml_ok RX11 172 yX11_lowest := Or.inl (gd5 (i := 57) rfl rfl)
set_option maxRecDepth 100000 in
theorem mlRL_69 : ml_ok RL 69 yX11_likeliest := Or.inl (gd5 (i := 60) rfl rfl)
set_option maxRecDepth 100000 in
theorem mlRX11_180 : ml_ok RX11 180 yX11_likeliestOf := Or.inl (gd5 (i := 64) rfl rfl)
set_option maxRecDepth 100000 in
theorem mlRL_74 : ml_ok RL 74 yX11_strike := Or.inl (gd5 (i := 68) rfl rfl)
set_option maxRecDepth 100000 in
theorem mlRX11_183 : ml_ok RX11 183 yX11_strikeOf := Or.inl (gd5 (i := 72) rfl rfl)
set_option maxRecDepth 100000 in
theorem mlRL_78 : ml_ok RL 78 yX11_line := Or.inl (gd5 (i := 76) rfl rfl)
set_option maxRecDepth 100000 in
theorem mlRX11_190 : ml_ok RX11 190 yX11_lineNow := Or.inl (gd5 (i := 80) rfl rfl)
set_option maxRecDepth 100000 in
theorem mlRX11_186 : ml_ok RX11 186 yX11_isLess := Or.inl (gd5 (i := 84) rfl rfl)
set_option maxRecDepth 100000 in
theorem mlRL_82 : ml_ok RL 82 yX11_slips := Or.inl (gd5 (i := 87) rfl rfl)
set_option maxRecDepth 100000 in
theorem mlRX11_210 : ml_ok RX11 210 yX11_slipsOf := Or.inl (gd5 (i := 91) rfl rfl)
set_option maxRecDepth 100000 in
theorem mlRX11_206 : ml_ok RX11 206 yX11_findsSlips := Or.inl (gd5 (i := 95) rfl rfl)
set_option maxRecDepth 100000 in
theorem mlRX11_196 : ml_ok RX11 196 yX11_slipLoose := Or.inl (gd5 (i := 99) rfl rfl)
set_option maxRecDepth 100000 in
theorem mlRX11_203 : ml_ok RX11 203 yX11_missedIn := Or.inl (gd5 (i := 103) rfl rfl)
set_option maxRecDepth 100000 in
theorem mlRX11_199 : ml_ok RX11 199 yX11_isIn := Or.inl (gd5 (i := 107) rfl rfl)
set_option maxRecDepth 100000 in
theorem mlRL_86 : ml_ok RL 86 yX11_safe := Or.inl (gd5 (i := 110) rfl rfl)
set_option maxRecDepth 100000 in
theorem mlRX11_219 : ml_ok RX11 219 yX11_isSome := Or.inl (gd5 (i := 114) rfl rfl)
set_option maxRecDepth 100000 in
theorem mlRX11_213 : ml_ok RX11 213 yX11_ones := Or.inl (gd5 (i := 118) rfl rfl)
set_option maxRecDepth 100000 in
theorem mlRX11_222 : ml_ok RX11 222 yX11_safeOf := Or.inl (gd5 (i := 121) rfl rfl)
set_option maxRecDepth 100000 in
theorem mlRX11_216 : ml_ok RX11 216 yX11_safeBy := Or.inl (gd5 (i := 125) rfl rfl)
set_option maxRecDepth 100000 in
theorem mlRL_90 : ml_ok RL 90 yX11_write := Or.inl (gd5 (i := 129) rfl rfl)
set_option maxRecDepth 100000 in
theorem mlRX11_227 : ml_ok RX11 227 yX11_cuesNow := Or.inl (gd5 (i := 133) rfl rfl)
set_option maxRecDepth 100000 in
theorem mlRX11_230 : ml_ok RX11 230 yX11_writeOf := Or.inl (gd5 (i := 137) rfl rfl)
set_option maxRecDepth 100000 in
theorem kcRX11_225 : Cond.constantLong RX11 225 (-1) ∈ lw_gd := gd5 (i := 141) rfl rfl
set_option maxRecDepth 100000 in
theorem mlRL_94 : ml_ok RL 94 yX11_few := Or.inl (gd5 (i := 142) rfl rfl)
set_option maxRecDepth 100000 in
theorem mlRX11_233 : ml_ok RX11 233 yX11_fewOf := Or.inl (gd5 (i := 146) rfl rfl)
set_option maxRecDepth 100000 in
theorem mlRL_98 : ml_ok RL 98 yX11_anew := Or.inl (gd5 (i := 150) rfl rfl)
set_option maxRecDepth 100000 in
theorem mlRX11_236 : ml_ok RX11 236 yX11_anewOf := Or.inl (gd5 (i := 154) rfl rfl)
set_option maxRecDepth 100000 in
theorem mlRL_102 : ml_ok RL 102 yX11_joint := Or.inl (gd5 (i := 158) rfl rfl)
set_option maxRecDepth 100000 in
theorem mlRL_106 : ml_ok RL 106 yX11_evening := Or.inl (gd5 (i := 162) rfl rfl)
set_option maxRecDepth 100000 in
theorem mlRX11_242 : ml_ok RX11 242 yX11_eveningOf := Or.inl (gd5 (i := 166) rfl rfl)
set_option maxRecDepth 100000 in
theorem mlRX11_239 : ml_ok RX11 239 yX11_eveningBy := Or.inl (gd5 (i := 170) rfl rfl)
set_option maxRecDepth 100000 in
theorem mlRL_110 : ml_ok RL 110 yX11_prime := Or.inl (gd5 (i := 174) rfl rfl)
set_option maxRecDepth 100000 in
theorem mlRX11_245 : ml_ok RX11 245 yX11_primeOf := Or.inl (gd5 (i := 178) rfl rfl)
set_option maxRecDepth 100000 in
theorem mlRL_114 : ml_ok RL 114 yX11_player := Or.inl (gd5 (i := 182) rfl rfl)
set_option maxRecDepth 100000 in
theorem mlRL_118 : ml_ok RL 118 yX11_leave := Or.inl (gd5 (i := 186) rfl rfl)
set_option maxRecDepth 100000 in
theorem mlRL_122 : ml_ok RL 122 yX11_worth := Or.inl (gd5 (i := 190) rfl rfl)
set_option maxRecDepth 100000 in
theorem mlRX11_254 : ml_ok RX11 254 yX11_worthOf := Or.inl (gd5 (i := 194) rfl rfl)
set_option maxRecDepth 100000 in
theorem mlRX11_251 : ml_ok RX11 251 yX11_looksBy := Or.inl (gd5 (i := 198) rfl rfl)
set_option maxRecDepth 100000 in
theorem mlRL_126 : ml_ok RL 126 yX11_look := Or.inl (gd5 (i := 202) rfl rfl)
set_option maxRecDepth 100000 in
theorem mlRX11_257 : ml_ok RX11 257 yX11_lookOf := Or.inl (gd5 (i := 206) rfl rfl)
set_option maxRecDepth 100000 in
theorem mlRL_130 : ml_ok RL 130 yX11_from := Or.inl (gd5 (i := 210) rfl rfl)
set_option maxRecDepth 100000 in
theorem mlRL_134 : ml_ok RL 134 yX11_said := Or.inl (gd5 (i := 214) rfl rfl)
set_option maxRecDepth 100000 in
theorem mlRL_138 : ml_ok RL 138 yX11_wrong := Or.inl (gd5 (i := 218) rfl rfl)
set_option maxRecDepth 100000 in
theorem mlRX11_263 : ml_ok RX11 263 yX11_wrongOf := Or.inl (gd5 (i := 222) rfl rfl)
set_option maxRecDepth 100000 in
theorem mlRL_142 : ml_ok RL 142 yX11_blame := Or.inl (gd5 (i := 226) rfl rfl)
set_option maxRecDepth 100000 in
theorem mlRX11_266 : ml_ok RX11 266 yX11_blameNow := Or.inl (gd5 (i := 230) rfl rfl)
set_option maxRecDepth 100000 in
theorem mlRL_146 : ml_ok RL 146 yX11_night := Or.inl (gd5 (i := 234) rfl rfl)
set_option maxRecDepth 100000 in
theorem mlRX11_270 : ml_ok RX11 270 yX11_nightOf := Or.inl (gd5 (i := 238) rfl rfl)
set_option maxRecDepth 100000 in
theorem kcRX11_269 : Cond.constant RX11 269 (1103515245) ∈ lw_gd := gd6 (i := 2) rfl rfl
set_option maxRecDepth 100000 in
theorem mlRL_150 : ml_ok RL 150 yX11_sheet := Or.inl (gd6 (i := 3) rfl rfl)
set_option maxRecDepth 100000 in
theorem mlRL_154 : ml_ok RL 154 yX11_lose := Or.inl (gd6 (i := 7) rfl rfl)
set_option maxRecDepth 100000 in
theorem mlRL_159 : ml_ok RL 159 yX11_put := Or.inl (gd6 (i := 11) rfl rfl)
set_option maxRecDepth 100000 in
theorem mlRX11_276 : ml_ok RX11 276 yX11_lacks := Or.inl (gd6 (i := 15) rfl rfl)
set_option maxRecDepth 100000 in
theorem mlRX11_279 : ml_ok RX11 279 yX11_keep := Or.inl (gd6 (i := 19) rfl rfl)
set_option maxRecDepth 100000 in
theorem mlRL_163 : ml_ok RL 163 yX11_get := Or.inl (gd6 (i := 23) rfl rfl)
set_option maxRecDepth 100000 in
theorem kcRX11_282 : Cond.constant RX11 282 (-2147483648) ∈ lw_gd := gd6 (i := 27) rfl rfl
set_option maxRecDepth 100000 in
theorem mlRL_168 : ml_ok RL 168 yX11_copy := Or.inl (gd6 (i := 28) rfl rfl)
set_option maxRecDepth 100000 in
theorem mlRL_172 : ml_ok RL 172 yX11_tell := Or.inl (gd6 (i := 32) rfl rfl)
set_option maxRecDepth 100000 in
theorem mlRL_176 : ml_ok RL 176 yX11_count := Or.inl (gd6 (i := 36) rfl rfl)
set_option maxRecDepth 100000 in
theorem mlRX11_283 : ml_ok RX11 283 yX11_readsMany := Or.inl (gd6 (i := 40) rfl rfl)
set_option maxRecDepth 100000 in
theorem mlRL_181 : ml_ok RL 181 yX11_digest := Or.inl (gd6 (i := 44) rfl rfl)
set_option maxRecDepth 100000 in
theorem kcRX11_291 : Cond.constantLong RX11 291 (17) ∈ lw_gd := gd6 (i := 48) rfl rfl
set_option maxRecDepth 100000 in
theorem kcRX11_286 : Cond.constantLong RX11 286 (31) ∈ lw_gd := gd6 (i := 49) rfl rfl
set_option maxRecDepth 100000 in
theorem mlRX11_293 : ml_ok RX11 293 yX11_count := Or.inl (gd6 (i := 50) rfl rfl)
set_option maxRecDepth 100000 in
theorem mlRX11_296 : ml_ok RX11 296 yX11_numberDigest := Or.inl (gd6 (i := 51) rfl rfl)
set_option maxRecDepth 100000 in
theorem mlRX11_288 : ml_ok RX11 288 yX11_where := Or.inl (gd6 (i := 55) rfl rfl)
set_option maxRecDepth 100000 in
theorem mlRX11_300 : ml_ok RX11 300 yX11_slips := Or.inl (gd6 (i := 56) rfl rfl)
set_option maxRecDepth 100000 in
theorem mlRX11_303 : ml_ok RX11 303 yX11_safe := Or.inl (gd6 (i := 57) rfl rfl)
set_option maxRecDepth 100000 in
theorem mlRX11_306 : ml_ok RX11 306 yX11_write := Or.inl (gd6 (i := 58) rfl rfl)
set_option maxRecDepth 100000 in
theorem mlRX11_309 : ml_ok RX11 309 yX11_joint := Or.inl (gd6 (i := 59) rfl rfl)
end
