-- ===== PART A: goes FIRST, ahead of the names: the tables' words, and 'selects' of the private methods out of them =====
/-- a private method of a class that the tables say can be made, by its rows of tables_1 -/
def lw_okq (q : MethodName × Nat) : Prop := (q.1.cls ≠ "java/lang/invoke/MethodHandle" ∧ q.1.cls ≠ "java/lang/invoke/VarHandle") ∧ Cond.instantiable q.1.cls q.2 ∈ tables_1 ∧ Cond.privateMethod q.1 ∈ tables_1 ∧ Cond.instanceMethod q.1 ∈ tables_1
theorem lw_p0 : lw_okq (⟨"WallTurns", "textOf", "(I)LWallTurns$Text;"⟩, 11) := ⟨⟨by decide +kernel, by decide +kernel⟩, List.mem_of_getElem? (i := 16) (by decide +kernel), List.mem_of_getElem? (i := 247) (by decide +kernel), List.mem_of_getElem? (i := 248) (by decide +kernel)⟩
theorem lw_p1 : lw_okq (⟨"WallTurns", "settle", "()V"⟩, 11) := ⟨⟨by decide +kernel, by decide +kernel⟩, List.mem_of_getElem? (i := 16) (by decide +kernel), List.mem_of_getElem? (i := 262) (by decide +kernel), List.mem_of_getElem? (i := 263) (by decide +kernel)⟩
theorem lw_p2 : lw_okq (⟨"WallTurns$Wall", "raze", "()V"⟩, 5) := ⟨⟨by decide +kernel, by decide +kernel⟩, List.mem_of_getElem? (i := 83) (by decide +kernel), List.mem_of_getElem? (i := 274) (by decide +kernel), List.mem_of_getElem? (i := 275) (by decide +kernel)⟩
theorem lw_p3 : lw_okq (⟨"WallTurns$Wall", "grow", "(I)Z"⟩, 5) := ⟨⟨by decide +kernel, by decide +kernel⟩, List.mem_of_getElem? (i := 83) (by decide +kernel), List.mem_of_getElem? (i := 286) (by decide +kernel), List.mem_of_getElem? (i := 287) (by decide +kernel)⟩
theorem lw_p4 : lw_okq (⟨"WallTurns$Script", "stateBehind", "(II)I"⟩, 5) := ⟨⟨by decide +kernel, by decide +kernel⟩, List.mem_of_getElem? (i := 54) (by decide +kernel), List.mem_of_getElem? (i := 313) (by decide +kernel), List.mem_of_getElem? (i := 314) (by decide +kernel)⟩
theorem lw_p5 : lw_okq (⟨"WallTurns$Script", "beginTurn", "()Z"⟩, 5) := ⟨⟨by decide +kernel, by decide +kernel⟩, List.mem_of_getElem? (i := 54) (by decide +kernel), List.mem_of_getElem? (i := 317) (by decide +kernel), List.mem_of_getElem? (i := 318) (by decide +kernel)⟩
theorem lw_p6 : lw_okq (⟨"WallTurns$Script", "tellLetter", "(II)I"⟩, 5) := ⟨⟨by decide +kernel, by decide +kernel⟩, List.mem_of_getElem? (i := 54) (by decide +kernel), List.mem_of_getElem? (i := 321) (by decide +kernel), List.mem_of_getElem? (i := 322) (by decide +kernel)⟩
theorem lw_p7 : lw_okq (⟨"WallTurns$Script", "nextPart", "(I)I"⟩, 5) := ⟨⟨by decide +kernel, by decide +kernel⟩, List.mem_of_getElem? (i := 54) (by decide +kernel), List.mem_of_getElem? (i := 326) (by decide +kernel), List.mem_of_getElem? (i := 327) (by decide +kernel)⟩
theorem lw_p8 : lw_okq (⟨"WallTurns$Script", "isTurn", "(I)Z"⟩, 5) := ⟨⟨by decide +kernel, by decide +kernel⟩, List.mem_of_getElem? (i := 54) (by decide +kernel), List.mem_of_getElem? (i := 330) (by decide +kernel), List.mem_of_getElem? (i := 331) (by decide +kernel)⟩
theorem lw_p9 : lw_okq (⟨"WallTurns$Script", "tellTake", "(II)I"⟩, 5) := ⟨⟨by decide +kernel, by decide +kernel⟩, List.mem_of_getElem? (i := 54) (by decide +kernel), List.mem_of_getElem? (i := 334) (by decide +kernel), List.mem_of_getElem? (i := 335) (by decide +kernel)⟩
theorem lw_p10 : lw_okq (⟨"WallTurns$Script", "tellPlace", "(II)I"⟩, 5) := ⟨⟨by decide +kernel, by decide +kernel⟩, List.mem_of_getElem? (i := 54) (by decide +kernel), List.mem_of_getElem? (i := 341) (by decide +kernel), List.mem_of_getElem? (i := 342) (by decide +kernel)⟩
theorem lw_p11 : lw_okq (⟨"WallTurns$Wall", "isWeak", "(III)Z"⟩, 5) := ⟨⟨by decide +kernel, by decide +kernel⟩, List.mem_of_getElem? (i := 83) (by decide +kernel), List.mem_of_getElem? (i := 477) (by decide +kernel), List.mem_of_getElem? (i := 478) (by decide +kernel)⟩
theorem lw_p12 : lw_okq (⟨"WallTurns$Sheets", "isItem", "(II)Z"⟩, 4) := ⟨⟨by decide +kernel, by decide +kernel⟩, List.mem_of_getElem? (i := 188) (by decide +kernel), List.mem_of_getElem? (i := 656) (by decide +kernel), List.mem_of_getElem? (i := 657) (by decide +kernel)⟩
theorem lw_p13 : lw_okq (⟨"WallTurns$Sights", "isSo", "(ILWallTurns$Wall;)Z"⟩, 4) := ⟨⟨by decide +kernel, by decide +kernel⟩, List.mem_of_getElem? (i := 169) (by decide +kernel), List.mem_of_getElem? (i := 677) (by decide +kernel), List.mem_of_getElem? (i := 678) (by decide +kernel)⟩
theorem lw_p14 : lw_okq (⟨"WallTurns$Fates", "shorten", "()V"⟩, 5) := ⟨⟨by decide +kernel, by decide +kernel⟩, List.mem_of_getElem? (i := 145) (by decide +kernel), List.mem_of_getElem? (i := 702) (by decide +kernel), List.mem_of_getElem? (i := 703) (by decide +kernel)⟩
theorem lw_p15 : lw_okq (⟨"WallTurns$Fates", "passYear", "(I)V"⟩, 5) := ⟨⟨by decide +kernel, by decide +kernel⟩, List.mem_of_getElem? (i := 145) (by decide +kernel), List.mem_of_getElem? (i := 724) (by decide +kernel), List.mem_of_getElem? (i := 725) (by decide +kernel)⟩
def lw_privs_1 : List (MethodName × Nat) := [(⟨"WallTurns", "textOf", "(I)LWallTurns$Text;"⟩, 11), (⟨"WallTurns", "settle", "()V"⟩, 11), (⟨"WallTurns$Wall", "raze", "()V"⟩, 5), (⟨"WallTurns$Wall", "grow", "(I)Z"⟩, 5), (⟨"WallTurns$Script", "stateBehind", "(II)I"⟩, 5), (⟨"WallTurns$Script", "beginTurn", "()Z"⟩, 5), (⟨"WallTurns$Script", "tellLetter", "(II)I"⟩, 5), (⟨"WallTurns$Script", "nextPart", "(I)I"⟩, 5), (⟨"WallTurns$Script", "isTurn", "(I)Z"⟩, 5), (⟨"WallTurns$Script", "tellTake", "(II)I"⟩, 5), (⟨"WallTurns$Script", "tellPlace", "(II)I"⟩, 5), (⟨"WallTurns$Wall", "isWeak", "(III)Z"⟩, 5), (⟨"WallTurns$Sheets", "isItem", "(II)Z"⟩, 4), (⟨"WallTurns$Sights", "isSo", "(ILWallTurns$Wall;)Z"⟩, 4), (⟨"WallTurns$Fates", "shorten", "()V"⟩, 5), (⟨"WallTurns$Fates", "passYear", "(I)V"⟩, 5)]
theorem lw_r1 : ∀ q ∈ lw_privs_1, lw_okq q := List.forall_mem_cons.mpr ⟨lw_p0, List.forall_mem_cons.mpr ⟨lw_p1, List.forall_mem_cons.mpr ⟨lw_p2, List.forall_mem_cons.mpr ⟨lw_p3, List.forall_mem_cons.mpr ⟨lw_p4, List.forall_mem_cons.mpr ⟨lw_p5, List.forall_mem_cons.mpr ⟨lw_p6, List.forall_mem_cons.mpr ⟨lw_p7, List.forall_mem_cons.mpr ⟨lw_p8, List.forall_mem_cons.mpr ⟨lw_p9, List.forall_mem_cons.mpr ⟨lw_p10, List.forall_mem_cons.mpr ⟨lw_p11, List.forall_mem_cons.mpr ⟨lw_p12, List.forall_mem_cons.mpr ⟨lw_p13, List.forall_mem_cons.mpr ⟨lw_p14, List.forall_mem_cons.mpr ⟨lw_p15, fun _ h => absurd h List.not_mem_nil⟩⟩⟩⟩⟩⟩⟩⟩⟩⟩⟩⟩⟩⟩⟩⟩
theorem lw_p16 : lw_okq (⟨"WallTurns$Fates", "lot", "(I)I"⟩, 5) := ⟨⟨by decide +kernel, by decide +kernel⟩, List.mem_of_getElem? (i := 145) (by decide +kernel), List.mem_of_getElem? (i := 728) (by decide +kernel), List.mem_of_getElem? (i := 729) (by decide +kernel)⟩
theorem lw_p17 : lw_okq (⟨"WallTurns", "mixColumn", "(JII)J"⟩, 11) := ⟨⟨by decide +kernel, by decide +kernel⟩, List.mem_of_getElem? (i := 16) (by decide +kernel), List.mem_of_getElem? (i := 836) (by decide +kernel), List.mem_of_getElem? (i := 837) (by decide +kernel)⟩
theorem lw_p18 : lw_okq (⟨"WallTurns", "mixBehind", "(JI)J"⟩, 11) := ⟨⟨by decide +kernel, by decide +kernel⟩, List.mem_of_getElem? (i := 16) (by decide +kernel), List.mem_of_getElem? (i := 844) (by decide +kernel), List.mem_of_getElem? (i := 845) (by decide +kernel)⟩
theorem lw_p19 : lw_okq (⟨"WallTurns", "mixPlans", "(J)J"⟩, 11) := ⟨⟨by decide +kernel, by decide +kernel⟩, List.mem_of_getElem? (i := 16) (by decide +kernel), List.mem_of_getElem? (i := 850) (by decide +kernel), List.mem_of_getElem? (i := 851) (by decide +kernel)⟩
theorem lw_p20 : lw_okq (⟨"WallTurnsModel", "finds", "(I)I"⟩, 24) := ⟨⟨by decide +kernel, by decide +kernel⟩, List.mem_of_getElem? (i := 861) (by decide +kernel), List.mem_of_getElem? (i := 952) (by decide +kernel), List.mem_of_getElem? (i := 953) (by decide +kernel)⟩
theorem lw_p21 : lw_okq (⟨"WallTurnsModel", "lacks", "(III)I"⟩, 24) := ⟨⟨by decide +kernel, by decide +kernel⟩, List.mem_of_getElem? (i := 861) (by decide +kernel), List.mem_of_getElem? (i := 964) (by decide +kernel), List.mem_of_getElem? (i := 965) (by decide +kernel)⟩
theorem lw_p22 : lw_okq (⟨"WallTurnsModel", "readsWall", "()I"⟩, 24) := ⟨⟨by decide +kernel, by decide +kernel⟩, List.mem_of_getElem? (i := 861) (by decide +kernel), List.mem_of_getElem? (i := 1000) (by decide +kernel), List.mem_of_getElem? (i := 1001) (by decide +kernel)⟩
theorem lw_p23 : lw_okq (⟨"WallTurnsModel", "readsTurns", "()I"⟩, 24) := ⟨⟨by decide +kernel, by decide +kernel⟩, List.mem_of_getElem? (i := 861) (by decide +kernel), List.mem_of_getElem? (i := 1007) (by decide +kernel), List.mem_of_getElem? (i := 1008) (by decide +kernel)⟩
theorem lw_p24 : lw_okq (⟨"WallTurnsModel", "readsTurn", "()Z"⟩, 24) := ⟨⟨by decide +kernel, by decide +kernel⟩, List.mem_of_getElem? (i := 861) (by decide +kernel), List.mem_of_getElem? (i := 1011) (by decide +kernel), List.mem_of_getElem? (i := 1012) (by decide +kernel)⟩
theorem lw_p25 : lw_okq (⟨"WallTurnsModel", "here", "()I"⟩, 24) := ⟨⟨by decide +kernel, by decide +kernel⟩, List.mem_of_getElem? (i := 861) (by decide +kernel), List.mem_of_getElem? (i := 1015) (by decide +kernel), List.mem_of_getElem? (i := 1016) (by decide +kernel)⟩
theorem lw_p26 : lw_okq (⟨"WallTurnsModel", "figure", "()I"⟩, 24) := ⟨⟨by decide +kernel, by decide +kernel⟩, List.mem_of_getElem? (i := 861) (by decide +kernel), List.mem_of_getElem? (i := 1019) (by decide +kernel), List.mem_of_getElem? (i := 1020) (by decide +kernel)⟩
theorem lw_p27 : lw_okq (⟨"WallTurnsModel", "reads", "()V"⟩, 24) := ⟨⟨by decide +kernel, by decide +kernel⟩, List.mem_of_getElem? (i := 861) (by decide +kernel), List.mem_of_getElem? (i := 1037) (by decide +kernel), List.mem_of_getElem? (i := 1038) (by decide +kernel)⟩
theorem lw_p28 : lw_okq (⟨"WallTurnsModel", "areTurns", "(I)Z"⟩, 24) := ⟨⟨by decide +kernel, by decide +kernel⟩, List.mem_of_getElem? (i := 861) (by decide +kernel), List.mem_of_getElem? (i := 1041) (by decide +kernel), List.mem_of_getElem? (i := 1042) (by decide +kernel)⟩
theorem lw_p29 : lw_okq (⟨"WallTurnsModel", "isColumn", "(I)Z"⟩, 24) := ⟨⟨by decide +kernel, by decide +kernel⟩, List.mem_of_getElem? (i := 861) (by decide +kernel), List.mem_of_getElem? (i := 1045) (by decide +kernel), List.mem_of_getElem? (i := 1046) (by decide +kernel)⟩
theorem lw_p30 : lw_okq (⟨"WallTurnsModel", "heightOf", "(II)I"⟩, 24) := ⟨⟨by decide +kernel, by decide +kernel⟩, List.mem_of_getElem? (i := 861) (by decide +kernel), List.mem_of_getElem? (i := 1049) (by decide +kernel), List.mem_of_getElem? (i := 1050) (by decide +kernel)⟩
theorem lw_p31 : lw_okq (⟨"WallTurnsModel", "lives", "(I)V"⟩, 24) := ⟨⟨by decide +kernel, by decide +kernel⟩, List.mem_of_getElem? (i := 861) (by decide +kernel), List.mem_of_getElem? (i := 1053) (by decide +kernel), List.mem_of_getElem? (i := 1054) (by decide +kernel)⟩
def lw_privs_2 : List (MethodName × Nat) := [(⟨"WallTurns$Fates", "lot", "(I)I"⟩, 5), (⟨"WallTurns", "mixColumn", "(JII)J"⟩, 11), (⟨"WallTurns", "mixBehind", "(JI)J"⟩, 11), (⟨"WallTurns", "mixPlans", "(J)J"⟩, 11), (⟨"WallTurnsModel", "finds", "(I)I"⟩, 24), (⟨"WallTurnsModel", "lacks", "(III)I"⟩, 24), (⟨"WallTurnsModel", "readsWall", "()I"⟩, 24), (⟨"WallTurnsModel", "readsTurns", "()I"⟩, 24), (⟨"WallTurnsModel", "readsTurn", "()Z"⟩, 24), (⟨"WallTurnsModel", "here", "()I"⟩, 24), (⟨"WallTurnsModel", "figure", "()I"⟩, 24), (⟨"WallTurnsModel", "reads", "()V"⟩, 24), (⟨"WallTurnsModel", "areTurns", "(I)Z"⟩, 24), (⟨"WallTurnsModel", "isColumn", "(I)Z"⟩, 24), (⟨"WallTurnsModel", "heightOf", "(II)I"⟩, 24), (⟨"WallTurnsModel", "lives", "(I)V"⟩, 24)]
theorem lw_r2 : ∀ q ∈ lw_privs_2, lw_okq q := List.forall_mem_cons.mpr ⟨lw_p16, List.forall_mem_cons.mpr ⟨lw_p17, List.forall_mem_cons.mpr ⟨lw_p18, List.forall_mem_cons.mpr ⟨lw_p19, List.forall_mem_cons.mpr ⟨lw_p20, List.forall_mem_cons.mpr ⟨lw_p21, List.forall_mem_cons.mpr ⟨lw_p22, List.forall_mem_cons.mpr ⟨lw_p23, List.forall_mem_cons.mpr ⟨lw_p24, List.forall_mem_cons.mpr ⟨lw_p25, List.forall_mem_cons.mpr ⟨lw_p26, List.forall_mem_cons.mpr ⟨lw_p27, List.forall_mem_cons.mpr ⟨lw_p28, List.forall_mem_cons.mpr ⟨lw_p29, List.forall_mem_cons.mpr ⟨lw_p30, List.forall_mem_cons.mpr ⟨lw_p31, fun _ h => absurd h List.not_mem_nil⟩⟩⟩⟩⟩⟩⟩⟩⟩⟩⟩⟩⟩⟩⟩⟩
theorem lw_p32 : lw_okq (⟨"WallTurnsModel", "begins", "()V"⟩, 24) := ⟨⟨by decide +kernel, by decide +kernel⟩, List.mem_of_getElem? (i := 861) (by decide +kernel), List.mem_of_getElem? (i := 1057) (by decide +kernel), List.mem_of_getElem? (i := 1058) (by decide +kernel)⟩
theorem lw_p33 : lw_okq (⟨"WallTurnsModel", "goes", "(I)V"⟩, 24) := ⟨⟨by decide +kernel, by decide +kernel⟩, List.mem_of_getElem? (i := 861) (by decide +kernel), List.mem_of_getElem? (i := 1061) (by decide +kernel), List.mem_of_getElem? (i := 1062) (by decide +kernel)⟩
theorem lw_p34 : lw_okq (⟨"WallTurnsModel", "whoseTurn", "(I)I"⟩, 24) := ⟨⟨by decide +kernel, by decide +kernel⟩, List.mem_of_getElem? (i := 861) (by decide +kernel), List.mem_of_getElem? (i := 1065) (by decide +kernel), List.mem_of_getElem? (i := 1066) (by decide +kernel)⟩
theorem lw_p35 : lw_okq (⟨"WallTurnsModel", "takes", "(II)Z"⟩, 24) := ⟨⟨by decide +kernel, by decide +kernel⟩, List.mem_of_getElem? (i := 861) (by decide +kernel), List.mem_of_getElem? (i := 1069) (by decide +kernel), List.mem_of_getElem? (i := 1070) (by decide +kernel)⟩
theorem lw_p36 : lw_okq (⟨"WallTurnsModel", "lays", "(III)Z"⟩, 24) := ⟨⟨by decide +kernel, by decide +kernel⟩, List.mem_of_getElem? (i := 861) (by decide +kernel), List.mem_of_getElem? (i := 1073) (by decide +kernel), List.mem_of_getElem? (i := 1074) (by decide +kernel)⟩
theorem lw_p37 : lw_okq (⟨"WallTurnsModel", "highOf", "(I)I"⟩, 24) := ⟨⟨by decide +kernel, by decide +kernel⟩, List.mem_of_getElem? (i := 861) (by decide +kernel), List.mem_of_getElem? (i := 1077) (by decide +kernel), List.mem_of_getElem? (i := 1078) (by decide +kernel)⟩
theorem lw_p38 : lw_okq (⟨"WallTurnsModel", "leanBehind", "(II)I"⟩, 24) := ⟨⟨by decide +kernel, by decide +kernel⟩, List.mem_of_getElem? (i := 861) (by decide +kernel), List.mem_of_getElem? (i := 1088) (by decide +kernel), List.mem_of_getElem? (i := 1089) (by decide +kernel)⟩
theorem lw_p39 : lw_okq (⟨"WallTurnsModel", "leanOf", "(I)I"⟩, 24) := ⟨⟨by decide +kernel, by decide +kernel⟩, List.mem_of_getElem? (i := 861) (by decide +kernel), List.mem_of_getElem? (i := 1092) (by decide +kernel), List.mem_of_getElem? (i := 1093) (by decide +kernel)⟩
theorem lw_p40 : lw_okq (⟨"WallTurnsModel", "stoneBehind", "(III)I"⟩, 24) := ⟨⟨by decide +kernel, by decide +kernel⟩, List.mem_of_getElem? (i := 861) (by decide +kernel), List.mem_of_getElem? (i := 1102) (by decide +kernel), List.mem_of_getElem? (i := 1103) (by decide +kernel)⟩
theorem lw_p41 : lw_okq (⟨"WallTurnsModel", "behindOf", "(II)I"⟩, 24) := ⟨⟨by decide +kernel, by decide +kernel⟩, List.mem_of_getElem? (i := 861) (by decide +kernel), List.mem_of_getElem? (i := 1110) (by decide +kernel), List.mem_of_getElem? (i := 1111) (by decide +kernel)⟩
theorem lw_p42 : lw_okq (⟨"WallTurnsModel", "weakNow", "()I"⟩, 24) := ⟨⟨by decide +kernel, by decide +kernel⟩, List.mem_of_getElem? (i := 861) (by decide +kernel), List.mem_of_getElem? (i := 1114) (by decide +kernel), List.mem_of_getElem? (i := 1115) (by decide +kernel)⟩
theorem lw_p43 : lw_okq (⟨"WallTurnsModel", "beside", "(I)I"⟩, 24) := ⟨⟨by decide +kernel, by decide +kernel⟩, List.mem_of_getElem? (i := 861) (by decide +kernel), List.mem_of_getElem? (i := 1118) (by decide +kernel), List.mem_of_getElem? (i := 1119) (by decide +kernel)⟩
theorem lw_p44 : lw_okq (⟨"WallTurnsModel", "pearsNow", "()I"⟩, 24) := ⟨⟨by decide +kernel, by decide +kernel⟩, List.mem_of_getElem? (i := 861) (by decide +kernel), List.mem_of_getElem? (i := 1125) (by decide +kernel), List.mem_of_getElem? (i := 1126) (by decide +kernel)⟩
theorem lw_p45 : lw_okq (⟨"WallTurnsModel", "weighs", "(I)I"⟩, 24) := ⟨⟨by decide +kernel, by decide +kernel⟩, List.mem_of_getElem? (i := 861) (by decide +kernel), List.mem_of_getElem? (i := 1132) (by decide +kernel), List.mem_of_getElem? (i := 1133) (by decide +kernel)⟩
theorem lw_p46 : lw_okq (⟨"WallTurnsModel", "turnOf", "(II)I"⟩, 24) := ⟨⟨by decide +kernel, by decide +kernel⟩, List.mem_of_getElem? (i := 861) (by decide +kernel), List.mem_of_getElem? (i := 1140) (by decide +kernel), List.mem_of_getElem? (i := 1141) (by decide +kernel)⟩
theorem lw_p47 : lw_okq (⟨"WallTurnsModel", "firstOf", "(I)I"⟩, 24) := ⟨⟨by decide +kernel, by decide +kernel⟩, List.mem_of_getElem? (i := 861) (by decide +kernel), List.mem_of_getElem? (i := 1148) (by decide +kernel), List.mem_of_getElem? (i := 1149) (by decide +kernel)⟩
def lw_privs_3 : List (MethodName × Nat) := [(⟨"WallTurnsModel", "begins", "()V"⟩, 24), (⟨"WallTurnsModel", "goes", "(I)V"⟩, 24), (⟨"WallTurnsModel", "whoseTurn", "(I)I"⟩, 24), (⟨"WallTurnsModel", "takes", "(II)Z"⟩, 24), (⟨"WallTurnsModel", "lays", "(III)Z"⟩, 24), (⟨"WallTurnsModel", "highOf", "(I)I"⟩, 24), (⟨"WallTurnsModel", "leanBehind", "(II)I"⟩, 24), (⟨"WallTurnsModel", "leanOf", "(I)I"⟩, 24), (⟨"WallTurnsModel", "stoneBehind", "(III)I"⟩, 24), (⟨"WallTurnsModel", "behindOf", "(II)I"⟩, 24), (⟨"WallTurnsModel", "weakNow", "()I"⟩, 24), (⟨"WallTurnsModel", "beside", "(I)I"⟩, 24), (⟨"WallTurnsModel", "pearsNow", "()I"⟩, 24), (⟨"WallTurnsModel", "weighs", "(I)I"⟩, 24), (⟨"WallTurnsModel", "turnOf", "(II)I"⟩, 24), (⟨"WallTurnsModel", "firstOf", "(I)I"⟩, 24)]
theorem lw_r3 : ∀ q ∈ lw_privs_3, lw_okq q := List.forall_mem_cons.mpr ⟨lw_p32, List.forall_mem_cons.mpr ⟨lw_p33, List.forall_mem_cons.mpr ⟨lw_p34, List.forall_mem_cons.mpr ⟨lw_p35, List.forall_mem_cons.mpr ⟨lw_p36, List.forall_mem_cons.mpr ⟨lw_p37, List.forall_mem_cons.mpr ⟨lw_p38, List.forall_mem_cons.mpr ⟨lw_p39, List.forall_mem_cons.mpr ⟨lw_p40, List.forall_mem_cons.mpr ⟨lw_p41, List.forall_mem_cons.mpr ⟨lw_p42, List.forall_mem_cons.mpr ⟨lw_p43, List.forall_mem_cons.mpr ⟨lw_p44, List.forall_mem_cons.mpr ⟨lw_p45, List.forall_mem_cons.mpr ⟨lw_p46, List.forall_mem_cons.mpr ⟨lw_p47, fun _ h => absurd h List.not_mem_nil⟩⟩⟩⟩⟩⟩⟩⟩⟩⟩⟩⟩⟩⟩⟩⟩
theorem lw_p48 : lw_okq (⟨"WallTurnsModel", "highestNow", "()I"⟩, 24) := ⟨⟨by decide +kernel, by decide +kernel⟩, List.mem_of_getElem? (i := 861) (by decide +kernel), List.mem_of_getElem? (i := 1156) (by decide +kernel), List.mem_of_getElem? (i := 1157) (by decide +kernel)⟩
theorem lw_p49 : lw_okq (⟨"WallTurnsModel", "planOf", "(II)I"⟩, 24) := ⟨⟨by decide +kernel, by decide +kernel⟩, List.mem_of_getElem? (i := 861) (by decide +kernel), List.mem_of_getElem? (i := 1164) (by decide +kernel), List.mem_of_getElem? (i := 1165) (by decide +kernel)⟩
theorem lw_p50 : lw_okq (⟨"WallTurnsModel", "mends", "(I)Z"⟩, 24) := ⟨⟨by decide +kernel, by decide +kernel⟩, List.mem_of_getElem? (i := 861) (by decide +kernel), List.mem_of_getElem? (i := 1168) (by decide +kernel), List.mem_of_getElem? (i := 1169) (by decide +kernel)⟩
theorem lw_p51 : lw_okq (⟨"WallTurnsModel", "opens", "(II)Z"⟩, 24) := ⟨⟨by decide +kernel, by decide +kernel⟩, List.mem_of_getElem? (i := 861) (by decide +kernel), List.mem_of_getElem? (i := 1172) (by decide +kernel), List.mem_of_getElem? (i := 1173) (by decide +kernel)⟩
theorem lw_p52 : lw_okq (⟨"WallTurnsModel", "goesOn", "(II)Z"⟩, 24) := ⟨⟨by decide +kernel, by decide +kernel⟩, List.mem_of_getElem? (i := 861) (by decide +kernel), List.mem_of_getElem? (i := 1176) (by decide +kernel), List.mem_of_getElem? (i := 1177) (by decide +kernel)⟩
theorem lw_p53 : lw_okq (⟨"WallTurnsModel", "sidesOf", "(II)I"⟩, 24) := ⟨⟨by decide +kernel, by decide +kernel⟩, List.mem_of_getElem? (i := 861) (by decide +kernel), List.mem_of_getElem? (i := 1189) (by decide +kernel), List.mem_of_getElem? (i := 1190) (by decide +kernel)⟩
theorem lw_p54 : lw_okq (⟨"WallTurnsModel", "endOf", "(II)I"⟩, 24) := ⟨⟨by decide +kernel, by decide +kernel⟩, List.mem_of_getElem? (i := 861) (by decide +kernel), List.mem_of_getElem? (i := 1193) (by decide +kernel), List.mem_of_getElem? (i := 1194) (by decide +kernel)⟩
theorem lw_p55 : lw_okq (⟨"WallTurnsModel", "whoBy", "(I)I"⟩, 24) := ⟨⟨by decide +kernel, by decide +kernel⟩, List.mem_of_getElem? (i := 861) (by decide +kernel), List.mem_of_getElem? (i := 1219) (by decide +kernel), List.mem_of_getElem? (i := 1220) (by decide +kernel)⟩
theorem lw_p56 : lw_okq (⟨"WallTurnsModel", "isSeen", "()Z"⟩, 24) := ⟨⟨by decide +kernel, by decide +kernel⟩, List.mem_of_getElem? (i := 861) (by decide +kernel), List.mem_of_getElem? (i := 1223) (by decide +kernel), List.mem_of_getElem? (i := 1224) (by decide +kernel)⟩
theorem lw_p57 : lw_okq (⟨"WallTurnsModel", "frostOf", "(II)J"⟩, 24) := ⟨⟨by decide +kernel, by decide +kernel⟩, List.mem_of_getElem? (i := 861) (by decide +kernel), List.mem_of_getElem? (i := 1231) (by decide +kernel), List.mem_of_getElem? (i := 1232) (by decide +kernel)⟩
theorem lw_p58 : lw_okq (⟨"WallTurnsModel", "yearsOf", "(III)I"⟩, 24) := ⟨⟨by decide +kernel, by decide +kernel⟩, List.mem_of_getElem? (i := 861) (by decide +kernel), List.mem_of_getElem? (i := 1247) (by decide +kernel), List.mem_of_getElem? (i := 1248) (by decide +kernel)⟩
theorem lw_p59 : lw_okq (⟨"WallTurnsModel", "lot", "(I)I"⟩, 24) := ⟨⟨by decide +kernel, by decide +kernel⟩, List.mem_of_getElem? (i := 861) (by decide +kernel), List.mem_of_getElem? (i := 1251) (by decide +kernel), List.mem_of_getElem? (i := 1252) (by decide +kernel)⟩
theorem lw_p60 : lw_okq (⟨"WallTurnsModel", "working", "()I"⟩, 24) := ⟨⟨by decide +kernel, by decide +kernel⟩, List.mem_of_getElem? (i := 861) (by decide +kernel), List.mem_of_getElem? (i := 1267) (by decide +kernel), List.mem_of_getElem? (i := 1268) (by decide +kernel)⟩
theorem lw_p61 : lw_okq (⟨"WallTurnsModel", "tellsColumn", "(JII)J"⟩, 24) := ⟨⟨by decide +kernel, by decide +kernel⟩, List.mem_of_getElem? (i := 861) (by decide +kernel), List.mem_of_getElem? (i := 1278) (by decide +kernel), List.mem_of_getElem? (i := 1279) (by decide +kernel)⟩
def lw_privs_4 : List (MethodName × Nat) := [(⟨"WallTurnsModel", "highestNow", "()I"⟩, 24), (⟨"WallTurnsModel", "planOf", "(II)I"⟩, 24), (⟨"WallTurnsModel", "mends", "(I)Z"⟩, 24), (⟨"WallTurnsModel", "opens", "(II)Z"⟩, 24), (⟨"WallTurnsModel", "goesOn", "(II)Z"⟩, 24), (⟨"WallTurnsModel", "sidesOf", "(II)I"⟩, 24), (⟨"WallTurnsModel", "endOf", "(II)I"⟩, 24), (⟨"WallTurnsModel", "whoBy", "(I)I"⟩, 24), (⟨"WallTurnsModel", "isSeen", "()Z"⟩, 24), (⟨"WallTurnsModel", "frostOf", "(II)J"⟩, 24), (⟨"WallTurnsModel", "yearsOf", "(III)I"⟩, 24), (⟨"WallTurnsModel", "lot", "(I)I"⟩, 24), (⟨"WallTurnsModel", "working", "()I"⟩, 24), (⟨"WallTurnsModel", "tellsColumn", "(JII)J"⟩, 24)]
theorem lw_r4 : ∀ q ∈ lw_privs_4, lw_okq q := List.forall_mem_cons.mpr ⟨lw_p48, List.forall_mem_cons.mpr ⟨lw_p49, List.forall_mem_cons.mpr ⟨lw_p50, List.forall_mem_cons.mpr ⟨lw_p51, List.forall_mem_cons.mpr ⟨lw_p52, List.forall_mem_cons.mpr ⟨lw_p53, List.forall_mem_cons.mpr ⟨lw_p54, List.forall_mem_cons.mpr ⟨lw_p55, List.forall_mem_cons.mpr ⟨lw_p56, List.forall_mem_cons.mpr ⟨lw_p57, List.forall_mem_cons.mpr ⟨lw_p58, List.forall_mem_cons.mpr ⟨lw_p59, List.forall_mem_cons.mpr ⟨lw_p60, List.forall_mem_cons.mpr ⟨lw_p61, fun _ h => absurd h List.not_mem_nil⟩⟩⟩⟩⟩⟩⟩⟩⟩⟩⟩⟩⟩⟩
def lw_privs : List (MethodName × Nat) := lw_privs_1 ++ (lw_privs_2 ++ (lw_privs_3 ++ (lw_privs_4)))
def lw_tbl : List Cond := k2_sels lw_privs ++ tables_1
theorem lw_privs_ok : ∀ q ∈ lw_privs, lw_okq q := by
  show ∀ q ∈ lw_privs_1 ++ (lw_privs_2 ++ (lw_privs_3 ++ (lw_privs_4))), lw_okq q
  exact List.forall_mem_append.mpr ⟨lw_r1, List.forall_mem_append.mpr ⟨lw_r2, List.forall_mem_append.mpr ⟨lw_r3, lw_r4⟩⟩⟩
-- ===== end of PART A; then your names; then what follows =====

def RX0 : String := "WallTurns$Fates"
def TX0 : u_T := fun k => match k with
  | 0 => ("WallTurns$Fates", "wall", "LWallTurns$Wall;", true)
  | 1 => ("WallTurns$Fates", "above", "J", false)
  | 2 => ("WallTurns$Fates", "below", "J", false)
  | 3 => ("WallTurns$Fates", "seed", "I", false)
  | _ => ("WallTurns$Fates", "fallen", "I", false)
def tyX0 : Nat → FieldType := fun k => match k with
  | 0 => .object "WallTurns$Wall"
  | 1 => .long
  | 2 => .long
  | 3 => .int
  | _ => .int
abbrev wsX00 : List Cond := u_ws RX0 TX0 5
theorem nmX0 : ∀ a, a < 5 → ∀ b, b < 5 → a ≠ b → (TX0 a).2.1 ≠ (TX0 b).2.1 := by decide +kernel
theorem tyX0_ok : ∀ k, k < 5 → parseFieldDescriptor (TX0 k).2.2.1 = some (tyX0 k) := by decide +kernel
abbrev cX0_init : ByteArray := prog_2_method_1_code
def yX0_init : MethodName := ⟨RX0, "<init>", "()V"⟩
abbrev cX0_above : ByteArray := prog_2_method_2_code
def yX0_above : MethodName := ⟨RX0, "above", "()J"⟩
abbrev cX0_below : ByteArray := prog_2_method_3_code
def yX0_below : MethodName := ⟨RX0, "below", "()J"⟩
abbrev cX0_freeze : ByteArray := prog_2_method_4_code
def yX0_freeze : MethodName := ⟨RX0, "freeze", "(LWallTurns$Wall;LWallTurns$Rules;I)V"⟩
abbrev cX0_standing : ByteArray := prog_2_method_5_code
def yX0_standing : MethodName := ⟨RX0, "standing", "(LWallTurns$Wall;LWallTurns$Rules;II)J"⟩
abbrev cX0_shorten : ByteArray := prog_2_method_6_code
def yX0_shorten : MethodName := ⟨RX0, "shorten", "()V"⟩
abbrev cX0_fallenYears : ByteArray := prog_2_method_7_code
def yX0_fallenYears : MethodName := ⟨RX0, "fallenYears", "()I"⟩
abbrev cX0_heightOf : ByteArray := prog_2_method_8_code
def yX0_heightOf : MethodName := ⟨RX0, "heightOf", "(I)I"⟩
abbrev cX0_live : ByteArray := prog_2_method_9_code
def yX0_live : MethodName := ⟨RX0, "live", "(LWallTurns$Wall;LWallTurns$Rules;III)V"⟩
abbrev cX0_passYear : ByteArray := prog_2_method_10_code
def yX0_passYear : MethodName := ⟨RX0, "passYear", "(I)V"⟩
abbrev cX0_lot : ByteArray := prog_2_method_11_code
def yX0_lot : MethodName := ⟨RX0, "lot", "(I)I"⟩
def RX1 : String := "WallTurns$Past"
def TX1 : u_T := fun k => match k with
  | 0 => ("WallTurns$Past", "walls", "[LWallTurns$Wall;", true)
  | 1 => ("WallTurns$Past", "took", "[I", true)
  | 2 => ("WallTurns$Past", "laid", "[I", true)
  | 3 => ("WallTurns$Past", "other", "LWallTurns$Wall;", true)
  | _ => ("WallTurns$Past", "turns", "I", false)
def tyX1 : Nat → FieldType := fun k => match k with
  | 0 => .array (.object "WallTurns$Wall")
  | 1 => .array .int
  | 2 => .array .int
  | 3 => .object "WallTurns$Wall"
  | _ => .int
abbrev wsX10 : List Cond := u_ws RX1 TX1 5
theorem nmX1 : ∀ a, a < 5 → ∀ b, b < 5 → a ≠ b → (TX1 a).2.1 ≠ (TX1 b).2.1 := by decide +kernel
theorem tyX1_ok : ∀ k, k < 5 → parseFieldDescriptor (TX1 k).2.2.1 = some (tyX1 k) := by decide +kernel
abbrev cX1_init : ByteArray := prog_3_method_1_code
def yX1_init : MethodName := ⟨RX1, "<init>", "()V"⟩
abbrev cX1_start : ByteArray := prog_3_method_2_code
def yX1_start : MethodName := ⟨RX1, "start", "()LWallTurns$Wall;"⟩
abbrev cX1_last : ByteArray := prog_3_method_3_code
def yX1_last : MethodName := ⟨RX1, "last", "()LWallTurns$Wall;"⟩
abbrev cX1_turnCount : ByteArray := prog_3_method_4_code
def yX1_turnCount : MethodName := ⟨RX1, "turnCount", "()I"⟩
abbrev cX1_hasTurn : ByteArray := prog_3_method_5_code
def yX1_hasTurn : MethodName := ⟨RX1, "hasTurn", "(I)Z"⟩
abbrev cX1_wallBehind : ByteArray := prog_3_method_6_code
def yX1_wallBehind : MethodName := ⟨RX1, "wallBehind", "(I)LWallTurns$Wall;"⟩
abbrev cX1_tookIn : ByteArray := prog_3_method_7_code
def yX1_tookIn : MethodName := ⟨RX1, "tookIn", "(I)I"⟩
abbrev cX1_laidIn : ByteArray := prog_3_method_8_code
def yX1_laidIn : MethodName := ⟨RX1, "laidIn", "(I)I"⟩
abbrev cX1_busyTurns : ByteArray := prog_3_method_9_code
def yX1_busyTurns : MethodName := ⟨RX1, "busyTurns", "()I"⟩
abbrev cX1_replay : ByteArray := prog_3_method_10_code
def yX1_replay : MethodName := ⟨RX1, "replay", "(LWallTurns$Script;LWallTurns$Rules;)V"⟩
abbrev cX1_wouldFit : ByteArray := prog_3_method_11_code
def yX1_wouldFit : MethodName := ⟨RX1, "wouldFit", "(LWallTurns$Sights;LWallTurns$Script;LWallTurns$Rules;II)Z"⟩
def RX2 : String := "WallTurns$Plans"
def TX2 : u_T := fun k => match k with
  | 0 => ("WallTurns$Plans", "wall", "LWallTurns$Wall;", true)
  | 1 => ("WallTurns$Plans", "row", "[I", true)
  | 2 => ("WallTurns$Plans", "moves", "[I", true)
  | 3 => ("WallTurns$Plans", "needed", "I", false)
  | _ => ("WallTurns$Plans", "firstMove", "I", false)
def tyX2 : Nat → FieldType := fun k => match k with
  | 0 => .object "WallTurns$Wall"
  | 1 => .array .int
  | 2 => .array .int
  | 3 => .int
  | _ => .int
abbrev wsX20 : List Cond := u_ws RX2 TX2 5
theorem nmX2 : ∀ a, a < 5 → ∀ b, b < 5 → a ≠ b → (TX2 a).2.1 ≠ (TX2 b).2.1 := by decide +kernel
theorem tyX2_ok : ∀ k, k < 5 → parseFieldDescriptor (TX2 k).2.2.1 = some (tyX2 k) := by decide +kernel
abbrev cX2_init : ByteArray := prog_4_method_1_code
def yX2_init : MethodName := ⟨RX2, "<init>", "()V"⟩
abbrev cX2_told : ByteArray := prog_4_method_2_code
def yX2_told : MethodName := ⟨RX2, "told", "(I)I"⟩
abbrev cX2_searchMend : ByteArray := prog_4_method_3_code
def yX2_searchMend : MethodName := ⟨RX2, "searchMend", "(LWallTurns$Wall;LWallTurns$Rules;)V"⟩
abbrev cX2_canMend : ByteArray := prog_4_method_4_code
def yX2_canMend : MethodName := ⟨RX2, "canMend", "(LWallTurns$Wall;LWallTurns$Rules;[III)Z"⟩
abbrev cX2_searchOpen : ByteArray := prog_4_method_5_code
def yX2_searchOpen : MethodName := ⟨RX2, "searchOpen", "(LWallTurns$Wall;LWallTurns$Rules;I)V"⟩
abbrev cX2_canOpen : ByteArray := prog_4_method_6_code
def yX2_canOpen : MethodName := ⟨RX2, "canOpen", "(LWallTurns$Wall;LWallTurns$Rules;I[III)Z"⟩
abbrev cX2_leastAt : ByteArray := prog_4_method_7_code
def yX2_leastAt : MethodName := ⟨RX2, "leastAt", "([II)I"⟩
abbrev cX2_playOn : ByteArray := prog_4_method_8_code
def yX2_playOn : MethodName := ⟨RX2, "playOn", "(LWallTurns$Wall;LWallTurns$Rules;II)I"⟩
abbrev cX2_firstMove : ByteArray := prog_4_method_9_code
def yX2_firstMove : MethodName := ⟨RX2, "firstMove", "()I"⟩
abbrev cX2_bestWorth : ByteArray := prog_4_method_10_code
def yX2_bestWorth : MethodName := ⟨RX2, "bestWorth", "(LWallTurns$Wall;LWallTurns$Rules;[III)I"⟩
abbrev cX2_isBetter : ByteArray := prog_4_method_11_code
def yX2_isBetter : MethodName := ⟨RX2, "isBetter", "(III)Z"⟩
def RX3 : String := "WallTurns$Rules"
def TX3 : u_T := fun k => match k with
  | _ => ("WallTurns$Rules", "values", "[I", true)
def tyX3 : Nat → FieldType := fun k => match k with
  | _ => .array .int
abbrev wsX30 : List Cond := u_ws RX3 TX3 1
theorem nmX3 : ∀ a, a < 1 → ∀ b, b < 1 → a ≠ b → (TX3 a).2.1 ≠ (TX3 b).2.1 := by decide +kernel
theorem tyX3_ok : ∀ k, k < 1 → parseFieldDescriptor (TX3 k).2.2.1 = some (tyX3 k) := by decide +kernel
abbrev cX3_init : ByteArray := prog_5_method_1_code
def yX3_init : MethodName := ⟨RX3, "<init>", "()V"⟩
abbrev cX3_allows : ByteArray := prog_5_method_2_code
def yX3_allows : MethodName := ⟨RX3, "allows", "(II)Z"⟩
abbrev cX3_value : ByteArray := prog_5_method_3_code
def yX3_value : MethodName := ⟨RX3, "value", "(I)I"⟩
abbrev cX3_become : ByteArray := prog_5_method_4_code
def yX3_become : MethodName := ⟨RX3, "become", "(II)V"⟩
abbrev cX3_brotherOf : ByteArray := prog_5_method_5_code
def yX3_brotherOf : MethodName := ⟨RX3, "brotherOf", "(I)I"⟩
abbrev cX3_mostAbove : ByteArray := prog_5_method_6_code
def yX3_mostAbove : MethodName := ⟨RX3, "mostAbove", "()I"⟩
abbrev cX3_wantsSun : ByteArray := prog_5_method_7_code
def yX3_wantsSun : MethodName := ⟨RX3, "wantsSun", "(I)Z"⟩
def RX4 : String := "WallTurns$Script"
def TX4 : u_T := fun k => match k with
  | 0 => ("WallTurns$Script", "takes", "[I", true)
  | 1 => ("WallTurns$Script", "lays", "[I", true)
  | 2 => ("WallTurns$Script", "stones", "[I", true)
  | 3 => ("WallTurns$Script", "places", "[I", true)
  | _ => ("WallTurns$Script", "turns", "I", false)
def tyX4 : Nat → FieldType := fun k => match k with
  | 0 => .array .int
  | 1 => .array .int
  | 2 => .array .int
  | 3 => .array .int
  | _ => .int
abbrev wsX40 : List Cond := u_ws RX4 TX4 5
theorem nmX4 : ∀ a, a < 5 → ∀ b, b < 5 → a ≠ b → (TX4 a).2.1 ≠ (TX4 b).2.1 := by decide +kernel
theorem tyX4_ok : ∀ k, k < 5 → parseFieldDescriptor (TX4 k).2.2.1 = some (tyX4 k) := by decide +kernel
abbrev cX4_init : ByteArray := prog_6_method_1_code
def yX4_init : MethodName := ⟨RX4, "<init>", "()V"⟩
abbrev cX4_turnCount : ByteArray := prog_6_method_2_code
def yX4_turnCount : MethodName := ⟨RX4, "turnCount", "()I"⟩
abbrev cX4_parse : ByteArray := prog_6_method_3_code
def yX4_parse : MethodName := ⟨RX4, "parse", "(LWallTurns$Text;)I"⟩
abbrev cX4_stateBehind : ByteArray := prog_6_method_4_code
def yX4_stateBehind : MethodName := ⟨RX4, "stateBehind", "(II)I"⟩
abbrev cX4_beginTurn : ByteArray := prog_6_method_5_code
def yX4_beginTurn : MethodName := ⟨RX4, "beginTurn", "()Z"⟩
abbrev cX4_tellTake : ByteArray := prog_6_method_6_code
def yX4_tellTake : MethodName := ⟨RX4, "tellTake", "(II)I"⟩
abbrev cX4_tellLetter : ByteArray := prog_6_method_7_code
def yX4_tellLetter : MethodName := ⟨RX4, "tellLetter", "(II)I"⟩
abbrev cX4_tellPlace : ByteArray := prog_6_method_8_code
def yX4_tellPlace : MethodName := ⟨RX4, "tellPlace", "(II)I"⟩
abbrev cX4_isTurn : ByteArray := prog_6_method_9_code
def yX4_isTurn : MethodName := ⟨RX4, "isTurn", "(I)Z"⟩
abbrev cX4_nextPart : ByteArray := prog_6_method_10_code
def yX4_nextPart : MethodName := ⟨RX4, "nextPart", "(I)I"⟩
abbrev cX4_doTake : ByteArray := prog_6_method_11_code
def yX4_doTake : MethodName := ⟨RX4, "doTake", "(IILWallTurns$Wall;)I"⟩
abbrev cX4_doLays : ByteArray := prog_6_method_12_code
def yX4_doLays : MethodName := ⟨RX4, "doLays", "(IILWallTurns$Wall;)I"⟩
def RX5 : String := "WallTurns$Sheets"
def TX5 : u_T := fun k => match k with
  | 0 => ("WallTurns$Sheets", "items", "[[I", true)
  | 1 => ("WallTurns$Sheets", "forms", "[I", true)
  | 2 => ("WallTurns$Sheets", "sizes", "[I", true)
  | _ => ("WallTurns$Sheets", "finding", "I", false)
def tyX5 : Nat → FieldType := fun k => match k with
  | 0 => .array (.array .int)
  | 1 => .array .int
  | 2 => .array .int
  | _ => .int
abbrev wsX50 : List Cond := u_ws RX5 TX5 4
theorem nmX5 : ∀ a, a < 4 → ∀ b, b < 4 → a ≠ b → (TX5 a).2.1 ≠ (TX5 b).2.1 := by decide +kernel
theorem tyX5_ok : ∀ k, k < 4 → parseFieldDescriptor (TX5 k).2.2.1 = some (tyX5 k) := by decide +kernel
abbrev cX5_init : ByteArray := prog_7_method_1_code
def yX5_init : MethodName := ⟨RX5, "<init>", "()V"⟩
abbrev cX5_isSheet : ByteArray := prog_7_method_2_code
def yX5_isSheet : MethodName := ⟨RX5, "isSheet", "(I)Z"⟩
abbrev cX5_isForm : ByteArray := prog_7_method_3_code
def yX5_isForm : MethodName := ⟨RX5, "isForm", "(I)Z"⟩
abbrev cX5_find : ByteArray := prog_7_method_4_code
def yX5_find : MethodName := ⟨RX5, "find", "(I)I"⟩
abbrev cX5_latestFinding : ByteArray := prog_7_method_5_code
def yX5_latestFinding : MethodName := ⟨RX5, "latestFinding", "()I"⟩
abbrev cX5_isLost : ByteArray := prog_7_method_6_code
def yX5_isLost : MethodName := ⟨RX5, "isLost", "(I)Z"⟩
abbrev cX5_sizeOf : ByteArray := prog_7_method_7_code
def yX5_sizeOf : MethodName := ⟨RX5, "sizeOf", "(I)I"⟩
abbrev cX5_formOf : ByteArray := prog_7_method_8_code
def yX5_formOf : MethodName := ⟨RX5, "formOf", "(I)I"⟩
abbrev cX5_make : ByteArray := prog_7_method_9_code
def yX5_make : MethodName := ⟨RX5, "make", "(III)V"⟩
abbrev cX5_drop : ByteArray := prog_7_method_10_code
def yX5_drop : MethodName := ⟨RX5, "drop", "(I)V"⟩
abbrev cX5_refusalOf : ByteArray := prog_7_method_11_code
def yX5_refusalOf : MethodName := ⟨RX5, "refusalOf", "(III)I"⟩
abbrev cX5_isItem : ByteArray := prog_7_method_12_code
def yX5_isItem : MethodName := ⟨RX5, "isItem", "(II)Z"⟩
abbrev cX5_itemAt : ByteArray := prog_7_method_13_code
def yX5_itemAt : MethodName := ⟨RX5, "itemAt", "(II)I"⟩
abbrev cX5_put : ByteArray := prog_7_method_14_code
def yX5_put : MethodName := ⟨RX5, "put", "(III)V"⟩
abbrev cX5_asForm : ByteArray := prog_7_method_15_code
def yX5_asForm : MethodName := ⟨RX5, "asForm", "(II)I"⟩
abbrev cX5_holds : ByteArray := prog_7_method_16_code
def yX5_holds : MethodName := ⟨RX5, "holds", "(III)Z"⟩
abbrev cX5_move : ByteArray := prog_7_method_17_code
def yX5_move : MethodName := ⟨RX5, "move", "(IIIII)V"⟩
def RX6 : String := "WallTurns$Sights"
def TX6 : u_T := fun k => match k with
  | 0 => ("WallTurns$Sights", "turnsBehind", "[I", true)
  | 1 => ("WallTurns$Sights", "columns", "[I", true)
  | 2 => ("WallTurns$Sights", "heights", "[I", true)
  | _ => ("WallTurns$Sights", "many", "I", false)
def tyX6 : Nat → FieldType := fun k => match k with
  | 0 => .array .int
  | 1 => .array .int
  | 2 => .array .int
  | _ => .int
abbrev wsX60 : List Cond := u_ws RX6 TX6 4
theorem nmX6 : ∀ a, a < 4 → ∀ b, b < 4 → a ≠ b → (TX6 a).2.1 ≠ (TX6 b).2.1 := by decide +kernel
theorem tyX6_ok : ∀ k, k < 4 → parseFieldDescriptor (TX6 k).2.2.1 = some (tyX6 k) := by decide +kernel
abbrev cX6_init : ByteArray := prog_8_method_1_code
def yX6_init : MethodName := ⟨RX6, "<init>", "()V"⟩
abbrev cX6_allows : ByteArray := prog_8_method_2_code
def yX6_allows : MethodName := ⟨RX6, "allows", "(III)Z"⟩
abbrev cX6_size : ByteArray := prog_8_method_3_code
def yX6_size : MethodName := ⟨RX6, "size", "()I"⟩
abbrev cX6_isFull : ByteArray := prog_8_method_4_code
def yX6_isFull : MethodName := ⟨RX6, "isFull", "()Z"⟩
abbrev cX6_add : ByteArray := prog_8_method_5_code
def yX6_add : MethodName := ⟨RX6, "add", "(III)V"⟩
abbrev cX6_clear : ByteArray := prog_8_method_6_code
def yX6_clear : MethodName := ⟨RX6, "clear", "()V"⟩
abbrev cX6_looksBeyond : ByteArray := prog_8_method_7_code
def yX6_looksBeyond : MethodName := ⟨RX6, "looksBeyond", "(I)Z"⟩
abbrev cX6_fit : ByteArray := prog_8_method_8_code
def yX6_fit : MethodName := ⟨RX6, "fit", "(ILWallTurns$Wall;)Z"⟩
abbrev cX6_isSo : ByteArray := prog_8_method_9_code
def yX6_isSo : MethodName := ⟨RX6, "isSo", "(ILWallTurns$Wall;)Z"⟩
def RX7 : String := "WallTurns$Stones"
def TX7 : u_T := fun k => match k with
  | _ => ("", "", "", false)
def tyX7 : Nat → FieldType := fun k => match k with
  | _ => .int
abbrev wsX70 : List Cond := u_ws RX7 TX7 0
theorem nmX7 : ∀ a, a < 0 → ∀ b, b < 0 → a ≠ b → (TX7 a).2.1 ≠ (TX7 b).2.1 := by decide +kernel
theorem tyX7_ok : ∀ k, k < 0 → parseFieldDescriptor (TX7 k).2.2.1 = some (tyX7 k) := by decide +kernel
abbrev cX7_ofLetter : ByteArray := prog_9_method_2_code
def yX7_ofLetter : MethodName := ⟨RX7, "ofLetter", "(I)I"⟩
abbrev cX7_columnOf : ByteArray := prog_9_method_3_code
def yX7_columnOf : MethodName := ⟨RX7, "columnOf", "(I)I"⟩
abbrev cX7_ownerOf : ByteArray := prog_9_method_4_code
def yX7_ownerOf : MethodName := ⟨RX7, "ownerOf", "(I)I"⟩
abbrev cX7_weightOf : ByteArray := prog_9_method_5_code
def yX7_weightOf : MethodName := ⟨RX7, "weightOf", "(I)I"⟩
abbrev cX7_pullOf : ByteArray := prog_9_method_6_code
def yX7_pullOf : MethodName := ⟨RX7, "pullOf", "(I)I"⟩
def RX8 : String := "WallTurns$Text"
def TX8 : u_T := fun k => match k with
  | 0 => ("WallTurns$Text", "bytes", "[I", true)
  | 1 => ("WallTurns$Text", "limit", "I", true)
  | _ => ("WallTurns$Text", "length", "I", false)
def tyX8 : Nat → FieldType := fun k => match k with
  | 0 => .array .int
  | 1 => .int
  | _ => .int
abbrev wsX80 : List Cond := u_ws RX8 TX8 3
theorem nmX8 : ∀ a, a < 3 → ∀ b, b < 3 → a ≠ b → (TX8 a).2.1 ≠ (TX8 b).2.1 := by decide +kernel
theorem tyX8_ok : ∀ k, k < 3 → parseFieldDescriptor (TX8 k).2.2.1 = some (tyX8 k) := by decide +kernel
abbrev cX8_init : ByteArray := prog_10_method_1_code
def yX8_init : MethodName := ⟨RX8, "<init>", "(I)V"⟩
abbrev cX8_size : ByteArray := prog_10_method_2_code
def yX8_size : MethodName := ⟨RX8, "size", "()I"⟩
abbrev cX8_isFull : ByteArray := prog_10_method_3_code
def yX8_isFull : MethodName := ⟨RX8, "isFull", "()Z"⟩
abbrev cX8_add : ByteArray := prog_10_method_4_code
def yX8_add : MethodName := ⟨RX8, "add", "(I)V"⟩
abbrev cX8_cut : ByteArray := prog_10_method_5_code
def yX8_cut : MethodName := ⟨RX8, "cut", "()V"⟩
abbrev cX8_clear : ByteArray := prog_10_method_6_code
def yX8_clear : MethodName := ⟨RX8, "clear", "()V"⟩
abbrev cX8_byteAt : ByteArray := prog_10_method_7_code
def yX8_byteAt : MethodName := ⟨RX8, "byteAt", "(I)I"⟩
def RX9 : String := "WallTurns$Wall"
def TX9 : u_T := fun k => match k with
  | 0 => ("WallTurns$Wall", "stones", "[I", true)
  | 1 => ("WallTurns$Wall", "sizes", "[I", true)
  | 2 => ("WallTurns$Wall", "heights", "[I", true)
  | 3 => ("WallTurns$Wall", "leans", "[I", true)
  | _ => ("WallTurns$Wall", "columns", "I", false)
def tyX9 : Nat → FieldType := fun k => match k with
  | 0 => .array .int
  | 1 => .array .int
  | 2 => .array .int
  | 3 => .array .int
  | _ => .int
abbrev wsX90 : List Cond := u_ws RX9 TX9 5
theorem nmX9 : ∀ a, a < 5 → ∀ b, b < 5 → a ≠ b → (TX9 a).2.1 ≠ (TX9 b).2.1 := by decide +kernel
theorem tyX9_ok : ∀ k, k < 5 → parseFieldDescriptor (TX9 k).2.2.1 = some (tyX9 k) := by decide +kernel
abbrev cX9_init : ByteArray := prog_11_method_1_code
def yX9_init : MethodName := ⟨RX9, "<init>", "()V"⟩
abbrev cX9_parse : ByteArray := prog_11_method_2_code
def yX9_parse : MethodName := ⟨RX9, "parse", "(LWallTurns$Text;)I"⟩
abbrev cX9_grow : ByteArray := prog_11_method_3_code
def yX9_grow : MethodName := ⟨RX9, "grow", "(I)Z"⟩
abbrev cX9_raze : ByteArray := prog_11_method_4_code
def yX9_raze : MethodName := ⟨RX9, "raze", "()V"⟩
abbrev cX9_become : ByteArray := prog_11_method_5_code
def yX9_become : MethodName := ⟨RX9, "become", "(LWallTurns$Wall;)V"⟩
abbrev cX9_has : ByteArray := prog_11_method_6_code
def yX9_has : MethodName := ⟨RX9, "has", "(I)Z"⟩
abbrev cX9_columnCount : ByteArray := prog_11_method_7_code
def yX9_columnCount : MethodName := ⟨RX9, "columnCount", "()I"⟩
abbrev cX9_sizeOf : ByteArray := prog_11_method_8_code
def yX9_sizeOf : MethodName := ⟨RX9, "sizeOf", "(I)I"⟩
abbrev cX9_heightOf : ByteArray := prog_11_method_9_code
def yX9_heightOf : MethodName := ⟨RX9, "heightOf", "(I)I"⟩
abbrev cX9_leanOf : ByteArray := prog_11_method_10_code
def yX9_leanOf : MethodName := ⟨RX9, "leanOf", "(I)I"⟩
abbrev cX9_stoneAt : ByteArray := prog_11_method_11_code
def yX9_stoneAt : MethodName := ⟨RX9, "stoneAt", "(II)I"⟩
abbrev cX9_uppermost : ByteArray := prog_11_method_12_code
def yX9_uppermost : MethodName := ⟨RX9, "uppermost", "(I)I"⟩
abbrev cX9_put : ByteArray := prog_11_method_13_code
def yX9_put : MethodName := ⟨RX9, "put", "(II)Z"⟩
abbrev cX9_take : ByteArray := prog_11_method_14_code
def yX9_take : MethodName := ⟨RX9, "take", "(I)I"⟩
abbrev cX9_takeFromOther : ByteArray := prog_11_method_15_code
def yX9_takeFromOther : MethodName := ⟨RX9, "takeFromOther", "(II)Z"⟩
abbrev cX9_isWeak : ByteArray := prog_11_method_16_code
def yX9_isWeak : MethodName := ⟨RX9, "isWeak", "(III)Z"⟩
abbrev cX9_stands : ByteArray := prog_11_method_17_code
def yX9_stands : MethodName := ⟨RX9, "stands", "(LWallTurns$Rules;)Z"⟩
abbrev cX9_weakBits : ByteArray := prog_11_method_18_code
def yX9_weakBits : MethodName := ⟨RX9, "weakBits", "(LWallTurns$Rules;)I"⟩
abbrev cX9_sunny : ByteArray := prog_11_method_19_code
def yX9_sunny : MethodName := ⟨RX9, "sunny", "(LWallTurns$Rules;)I"⟩
abbrev cX9_weightOf : ByteArray := prog_11_method_20_code
def yX9_weightOf : MethodName := ⟨RX9, "weightOf", "(I)I"⟩
abbrev cX9_stoneCount : ByteArray := prog_11_method_21_code
def yX9_stoneCount : MethodName := ⟨RX9, "stoneCount", "()I"⟩
abbrev cX9_highestColumn : ByteArray := prog_11_method_22_code
def yX9_highestColumn : MethodName := ⟨RX9, "highestColumn", "()I"⟩
def RX10 : String := "WallTurns"
def TX10 : u_T := fun k => match k with
  | 0 => ("WallTurns", "wallText", "LWallTurns$Text;", true)
  | 1 => ("WallTurns", "turnText", "LWallTurns$Text;", true)
  | 2 => ("WallTurns", "rules", "LWallTurns$Rules;", true)
  | 3 => ("WallTurns", "script", "LWallTurns$Script;", true)
  | 4 => ("WallTurns", "past", "LWallTurns$Past;", true)
  | 5 => ("WallTurns", "plans", "LWallTurns$Plans;", true)
  | 6 => ("WallTurns", "fates", "LWallTurns$Fates;", true)
  | 7 => ("WallTurns", "sights", "LWallTurns$Sights;", true)
  | 8 => ("WallTurns", "sheets", "LWallTurns$Sheets;", true)
  | 9 => ("WallTurns", "wallFault", "I", false)
  | _ => ("WallTurns", "turnFault", "I", false)
def tyX10 : Nat → FieldType := fun k => match k with
  | 0 => .object "WallTurns$Text"
  | 1 => .object "WallTurns$Text"
  | 2 => .object "WallTurns$Rules"
  | 3 => .object "WallTurns$Script"
  | 4 => .object "WallTurns$Past"
  | 5 => .object "WallTurns$Plans"
  | 6 => .object "WallTurns$Fates"
  | 7 => .object "WallTurns$Sights"
  | 8 => .object "WallTurns$Sheets"
  | 9 => .int
  | _ => .int
abbrev wsX100 : List Cond := u_ws RX10 TX10 11
theorem nmX10 : ∀ a, a < 11 → ∀ b, b < 11 → a ≠ b → (TX10 a).2.1 ≠ (TX10 b).2.1 := by decide +kernel
theorem tyX10_ok : ∀ k, k < 11 → parseFieldDescriptor (TX10 k).2.2.1 = some (tyX10 k) := by decide +kernel
abbrev cX10_init : ByteArray := prog_1_method_1_code
def yX10_init : MethodName := ⟨RX10, "<init>", "()V"⟩
abbrev cX10_type : ByteArray := prog_1_method_2_code
def yX10_type : MethodName := ⟨RX10, "type", "(II)I"⟩
abbrev cX10_wipe : ByteArray := prog_1_method_3_code
def yX10_wipe : MethodName := ⟨RX10, "wipe", "(I)I"⟩
abbrev cX10_undo : ByteArray := prog_1_method_4_code
def yX10_undo : MethodName := ⟨RX10, "undo", "(I)I"⟩
abbrev cX10_fault : ByteArray := prog_1_method_5_code
def yX10_fault : MethodName := ⟨RX10, "fault", "(I)I"⟩
abbrev cX10_set : ByteArray := prog_1_method_6_code
def yX10_set : MethodName := ⟨RX10, "set", "(II)I"⟩
abbrev cX10_height : ByteArray := prog_1_method_7_code
def yX10_height : MethodName := ⟨RX10, "height", "(II)I"⟩
abbrev cX10_lean : ByteArray := prog_1_method_8_code
def yX10_lean : MethodName := ⟨RX10, "lean", "(II)I"⟩
abbrev cX10_stone : ByteArray := prog_1_method_9_code
def yX10_stone : MethodName := ⟨RX10, "stone", "(III)I"⟩
abbrev cX10_behind : ByteArray := prog_1_method_10_code
def yX10_behind : MethodName := ⟨RX10, "behind", "(II)I"⟩
abbrev cX10_turn : ByteArray := prog_1_method_11_code
def yX10_turn : MethodName := ⟨RX10, "turn", "(II)I"⟩
abbrev cX10_first : ByteArray := prog_1_method_12_code
def yX10_first : MethodName := ⟨RX10, "first", "(I)I"⟩
abbrev cX10_highest : ByteArray := prog_1_method_13_code
def yX10_highest : MethodName := ⟨RX10, "highest", "()I"⟩
abbrev cX10_mend : ByteArray := prog_1_method_14_code
def yX10_mend : MethodName := ⟨RX10, "mend", "(I)I"⟩
abbrev cX10_open : ByteArray := prog_1_method_15_code
def yX10_open : MethodName := ⟨RX10, "open", "(II)I"⟩
abbrev cX10_sides : ByteArray := prog_1_method_16_code
def yX10_sides : MethodName := ⟨RX10, "sides", "(II)I"⟩
abbrev cX10_seen : ByteArray := prog_1_method_17_code
def yX10_seen : MethodName := ⟨RX10, "seen", "(III)I"⟩
abbrev cX10_forget : ByteArray := prog_1_method_18_code
def yX10_forget : MethodName := ⟨RX10, "forget", "()I"⟩
abbrev cX10_read : ByteArray := prog_1_method_19_code
def yX10_read : MethodName := ⟨RX10, "read", "(I)I"⟩
abbrev cX10_who : ByteArray := prog_1_method_20_code
def yX10_who : MethodName := ⟨RX10, "who", "(I)I"⟩
abbrev cX10_frost : ByteArray := prog_1_method_21_code
def yX10_frost : MethodName := ⟨RX10, "frost", "(II)J"⟩
abbrev cX10_years : ByteArray := prog_1_method_22_code
def yX10_years : MethodName := ⟨RX10, "years", "(III)I"⟩
abbrev cX10_sheet : ByteArray := prog_1_method_23_code
def yX10_sheet : MethodName := ⟨RX10, "sheet", "(III)I"⟩
abbrev cX10_lose : ByteArray := prog_1_method_24_code
def yX10_lose : MethodName := ⟨RX10, "lose", "(I)I"⟩
abbrev cX10_lay : ByteArray := prog_1_method_25_code
def yX10_lay : MethodName := ⟨RX10, "lay", "(IIII)I"⟩
abbrev cX10_get : ByteArray := prog_1_method_26_code
def yX10_get : MethodName := ⟨RX10, "get", "(III)I"⟩
abbrev cX10_copy : ByteArray := prog_1_method_27_code
def yX10_copy : MethodName := ⟨RX10, "copy", "(IIIII)I"⟩
abbrev cX10_write : ByteArray := prog_1_method_28_code
def yX10_write : MethodName := ⟨RX10, "write", "(II)I"⟩
abbrev cX10_count : ByteArray := prog_1_method_29_code
def yX10_count : MethodName := ⟨RX10, "count", "(I)I"⟩
abbrev cX10_digest : ByteArray := prog_1_method_30_code
def yX10_digest : MethodName := ⟨RX10, "digest", "()J"⟩
abbrev cX10_within : ByteArray := prog_1_method_31_code
def yX10_within : MethodName := ⟨RX10, "within", "(III)Z"⟩
abbrev cX10_leastBit : ByteArray := prog_1_method_32_code
def yX10_leastBit : MethodName := ⟨RX10, "leastBit", "(I)I"⟩
abbrev cX10_textOf : ByteArray := prog_1_method_33_code
def yX10_textOf : MethodName := ⟨RX10, "textOf", "(I)LWallTurns$Text;"⟩
abbrev cX10_settle : ByteArray := prog_1_method_34_code
def yX10_settle : MethodName := ⟨RX10, "settle", "()V"⟩
abbrev cX10_mix : ByteArray := prog_1_method_35_code
def yX10_mix : MethodName := ⟨RX10, "mix", "(JJ)J"⟩
abbrev cX10_mixColumn : ByteArray := prog_1_method_36_code
def yX10_mixColumn : MethodName := ⟨RX10, "mixColumn", "(JII)J"⟩
abbrev cX10_mixBehind : ByteArray := prog_1_method_37_code
def yX10_mixBehind : MethodName := ⟨RX10, "mixBehind", "(JI)J"⟩
abbrev cX10_mixPlans : ByteArray := prog_1_method_38_code
def yX10_mixPlans : MethodName := ⟨RX10, "mixPlans", "(J)J"⟩
def RX11 : String := "WallTurnsModel"
def TX11 : u_T := fun k => match k with
  | 0 => ("WallTurnsModel", "forms", "[I", true)
  | 1 => ("WallTurnsModel", "sizes", "[I", true)
  | 2 => ("WallTurnsModel", "items", "[I", true)
  | 3 => ("WallTurnsModel", "moved", "[I", true)
  | 4 => ("WallTurnsModel", "latest", "I", false)
  | 5 => ("WallTurnsModel", "bytes", "[I", true)
  | 6 => ("WallTurnsModel", "typed", "[I", true)
  | 7 => ("WallTurnsModel", "at", "I", false)
  | 8 => ("WallTurnsModel", "columns", "I", false)
  | 9 => ("WallTurnsModel", "wall", "[I", true)
  | 10 => ("WallTurnsModel", "tall", "[I", true)
  | 11 => ("WallTurnsModel", "turns", "I", false)
  | 12 => ("WallTurnsModel", "turn", "[I", true)
  | 13 => ("WallTurnsModel", "settings", "[I", true)
  | 14 => ("WallTurnsModel", "stones", "[I", true)
  | 15 => ("WallTurnsModel", "many", "[I", true)
  | 16 => ("WallTurnsModel", "took", "I", false)
  | 17 => ("WallTurnsModel", "laid", "I", false)
  | 18 => ("WallTurnsModel", "other", "I", false)
  | 19 => ("WallTurnsModel", "otherHow", "I", false)
  | 20 => ("WallTurnsModel", "row", "[I", true)
  | 21 => ("WallTurnsModel", "sights", "I", false)
  | 22 => ("WallTurnsModel", "sight", "[I", true)
  | _ => ("WallTurnsModel", "drawn", "I", false)
def tyX11 : Nat → FieldType := fun k => match k with
  | 0 => .array .int
  | 1 => .array .int
  | 2 => .array .int
  | 3 => .array .int
  | 4 => .int
  | 5 => .array .int
  | 6 => .array .int
  | 7 => .int
  | 8 => .int
  | 9 => .array .int
  | 10 => .array .int
  | 11 => .int
  | 12 => .array .int
  | 13 => .array .int
  | 14 => .array .int
  | 15 => .array .int
  | 16 => .int
  | 17 => .int
  | 18 => .int
  | 19 => .int
  | 20 => .array .int
  | 21 => .int
  | 22 => .array .int
  | _ => .int
abbrev wsX110 : List Cond := u_ws RX11 TX11 24
theorem nmX11 : ∀ a, a < 24 → ∀ b, b < 24 → a ≠ b → (TX11 a).2.1 ≠ (TX11 b).2.1 := by decide +kernel
theorem tyX11_ok : ∀ k, k < 24 → parseFieldDescriptor (TX11 k).2.2.1 = some (tyX11 k) := by decide +kernel
abbrev cX11_init : ByteArray := prog_13_method_1_code
def yX11_init : MethodName := ⟨RX11, "<init>", "()V"⟩
abbrev cX11_in : ByteArray := prog_13_method_3_code
def yX11_in : MethodName := ⟨RX11, "in", "(JJJ)Z"⟩
abbrev cX11_no : ByteArray := prog_13_method_4_code
def yX11_no : MethodName := ⟨RX11, "no", "(I)J"⟩
abbrev cX11_isTwo : ByteArray := prog_13_method_5_code
def yX11_isTwo : MethodName := ⟨RX11, "isTwo", "(I)Z"⟩
abbrev cX11_isIn : ByteArray := prog_13_method_6_code
def yX11_isIn : MethodName := ⟨RX11, "isIn", "(II)Z"⟩
abbrev cX11_lesser : ByteArray := prog_13_method_7_code
def yX11_lesser : MethodName := ⟨RX11, "lesser", "(II)I"⟩
abbrev cX11_amount : ByteArray := prog_13_method_8_code
def yX11_amount : MethodName := ⟨RX11, "amount", "(I)I"⟩
abbrev cX11_part : ByteArray := prog_13_method_9_code
def yX11_part : MethodName := ⟨RX11, "part", "(JJI)J"⟩
abbrev cX11_finds : ByteArray := prog_13_method_10_code
def yX11_finds : MethodName := ⟨RX11, "finds", "(I)I"⟩
abbrev cX11_isSheet : ByteArray := prog_13_method_11_code
def yX11_isSheet : MethodName := ⟨RX11, "isSheet", "(I)Z"⟩
abbrev cX11_sheet : ByteArray := prog_13_method_12_code
def yX11_sheet : MethodName := ⟨RX11, "sheet", "(III)I"⟩
abbrev cX11_lose : ByteArray := prog_13_method_13_code
def yX11_lose : MethodName := ⟨RX11, "lose", "(I)I"⟩
abbrev cX11_lacks : ByteArray := prog_13_method_14_code
def yX11_lacks : MethodName := ⟨RX11, "lacks", "(III)I"⟩
abbrev cX11_cut : ByteArray := prog_13_method_15_code
def yX11_cut : MethodName := ⟨RX11, "cut", "(II)I"⟩
abbrev cX11_lay : ByteArray := prog_13_method_16_code
def yX11_lay : MethodName := ⟨RX11, "lay", "(IIII)I"⟩
abbrev cX11_get : ByteArray := prog_13_method_17_code
def yX11_get : MethodName := ⟨RX11, "get", "(III)I"⟩
abbrev cX11_copy : ByteArray := prog_13_method_18_code
def yX11_copy : MethodName := ⟨RX11, "copy", "(IIIII)I"⟩
abbrev cX11_type : ByteArray := prog_13_method_19_code
def yX11_type : MethodName := ⟨RX11, "type", "(II)I"⟩
abbrev cX11_wipe : ByteArray := prog_13_method_20_code
def yX11_wipe : MethodName := ⟨RX11, "wipe", "(I)I"⟩
abbrev cX11_undo : ByteArray := prog_13_method_21_code
def yX11_undo : MethodName := ⟨RX11, "undo", "(I)I"⟩
abbrev cX11_stoneOf : ByteArray := prog_13_method_22_code
def yX11_stoneOf : MethodName := ⟨RX11, "stoneOf", "(I)I"⟩
abbrev cX11_readsWall : ByteArray := prog_13_method_23_code
def yX11_readsWall : MethodName := ⟨RX11, "readsWall", "()I"⟩
abbrev cX11_here : ByteArray := prog_13_method_24_code
def yX11_here : MethodName := ⟨RX11, "here", "()I"⟩
abbrev cX11_figure : ByteArray := prog_13_method_25_code
def yX11_figure : MethodName := ⟨RX11, "figure", "()I"⟩
abbrev cX11_readsTurn : ByteArray := prog_13_method_26_code
def yX11_readsTurn : MethodName := ⟨RX11, "readsTurn", "()Z"⟩
abbrev cX11_readsTurns : ByteArray := prog_13_method_27_code
def yX11_readsTurns : MethodName := ⟨RX11, "readsTurns", "()I"⟩
abbrev cX11_reads : ByteArray := prog_13_method_28_code
def yX11_reads : MethodName := ⟨RX11, "reads", "()V"⟩
abbrev cX11_fault : ByteArray := prog_13_method_29_code
def yX11_fault : MethodName := ⟨RX11, "fault", "(I)I"⟩
abbrev cX11_mostOf : ByteArray := prog_13_method_30_code
def yX11_mostOf : MethodName := ⟨RX11, "mostOf", "(I)I"⟩
abbrev cX11_set : ByteArray := prog_13_method_31_code
def yX11_set : MethodName := ⟨RX11, "set", "(II)I"⟩
abbrev cX11_begins : ByteArray := prog_13_method_32_code
def yX11_begins : MethodName := ⟨RX11, "begins", "()V"⟩
abbrev cX11_takes : ByteArray := prog_13_method_33_code
def yX11_takes : MethodName := ⟨RX11, "takes", "(II)Z"⟩
abbrev cX11_lays : ByteArray := prog_13_method_34_code
def yX11_lays : MethodName := ⟨RX11, "lays", "(III)Z"⟩
abbrev cX11_whoseTurn : ByteArray := prog_13_method_35_code
def yX11_whoseTurn : MethodName := ⟨RX11, "whoseTurn", "(I)I"⟩
abbrev cX11_goes : ByteArray := prog_13_method_36_code
def yX11_goes : MethodName := ⟨RX11, "goes", "(I)V"⟩
abbrev cX11_lives : ByteArray := prog_13_method_37_code
def yX11_lives : MethodName := ⟨RX11, "lives", "(I)V"⟩
abbrev cX11_weight : ByteArray := prog_13_method_38_code
def yX11_weight : MethodName := ⟨RX11, "weight", "(I)I"⟩
abbrev cX11_highOf : ByteArray := prog_13_method_39_code
def yX11_highOf : MethodName := ⟨RX11, "highOf", "(I)I"⟩
abbrev cX11_leanOf : ByteArray := prog_13_method_40_code
def yX11_leanOf : MethodName := ⟨RX11, "leanOf", "(I)I"⟩
abbrev cX11_beside : ByteArray := prog_13_method_41_code
def yX11_beside : MethodName := ⟨RX11, "beside", "(I)I"⟩
abbrev cX11_weakNow : ByteArray := prog_13_method_42_code
def yX11_weakNow : MethodName := ⟨RX11, "weakNow", "()I"⟩
abbrev cX11_pearsNow : ByteArray := prog_13_method_43_code
def yX11_pearsNow : MethodName := ⟨RX11, "pearsNow", "()I"⟩
abbrev cX11_weighs : ByteArray := prog_13_method_44_code
def yX11_weighs : MethodName := ⟨RX11, "weighs", "(I)I"⟩
abbrev cX11_areTurns : ByteArray := prog_13_method_45_code
def yX11_areTurns : MethodName := ⟨RX11, "areTurns", "(I)Z"⟩
abbrev cX11_isColumn : ByteArray := prog_13_method_46_code
def yX11_isColumn : MethodName := ⟨RX11, "isColumn", "(I)Z"⟩
abbrev cX11_heightOf : ByteArray := prog_13_method_47_code
def yX11_heightOf : MethodName := ⟨RX11, "heightOf", "(II)I"⟩
abbrev cX11_height : ByteArray := prog_13_method_48_code
def yX11_height : MethodName := ⟨RX11, "height", "(II)I"⟩
abbrev cX11_leanBehind : ByteArray := prog_13_method_49_code
def yX11_leanBehind : MethodName := ⟨RX11, "leanBehind", "(II)I"⟩
abbrev cX11_lean : ByteArray := prog_13_method_50_code
def yX11_lean : MethodName := ⟨RX11, "lean", "(II)I"⟩
abbrev cX11_stoneBehind : ByteArray := prog_13_method_51_code
def yX11_stoneBehind : MethodName := ⟨RX11, "stoneBehind", "(III)I"⟩
abbrev cX11_stone : ByteArray := prog_13_method_52_code
def yX11_stone : MethodName := ⟨RX11, "stone", "(III)I"⟩
abbrev cX11_behindOf : ByteArray := prog_13_method_53_code
def yX11_behindOf : MethodName := ⟨RX11, "behindOf", "(II)I"⟩
abbrev cX11_behind : ByteArray := prog_13_method_54_code
def yX11_behind : MethodName := ⟨RX11, "behind", "(II)I"⟩
abbrev cX11_turnOf : ByteArray := prog_13_method_55_code
def yX11_turnOf : MethodName := ⟨RX11, "turnOf", "(II)I"⟩
abbrev cX11_turn : ByteArray := prog_13_method_56_code
def yX11_turn : MethodName := ⟨RX11, "turn", "(II)I"⟩
abbrev cX11_firstOf : ByteArray := prog_13_method_57_code
def yX11_firstOf : MethodName := ⟨RX11, "firstOf", "(I)I"⟩
abbrev cX11_first : ByteArray := prog_13_method_58_code
def yX11_first : MethodName := ⟨RX11, "first", "(I)I"⟩
abbrev cX11_highestNow : ByteArray := prog_13_method_59_code
def yX11_highestNow : MethodName := ⟨RX11, "highestNow", "()I"⟩
abbrev cX11_highest : ByteArray := prog_13_method_60_code
def yX11_highest : MethodName := ⟨RX11, "highest", "()I"⟩
abbrev cX11_goesOn : ByteArray := prog_13_method_61_code
def yX11_goesOn : MethodName := ⟨RX11, "goesOn", "(II)Z"⟩
abbrev cX11_mends : ByteArray := prog_13_method_62_code
def yX11_mends : MethodName := ⟨RX11, "mends", "(I)Z"⟩
abbrev cX11_opens : ByteArray := prog_13_method_63_code
def yX11_opens : MethodName := ⟨RX11, "opens", "(II)Z"⟩
abbrev cX11_planOf : ByteArray := prog_13_method_64_code
def yX11_planOf : MethodName := ⟨RX11, "planOf", "(II)I"⟩
abbrev cX11_mend : ByteArray := prog_13_method_65_code
def yX11_mend : MethodName := ⟨RX11, "mend", "(I)I"⟩
abbrev cX11_open : ByteArray := prog_13_method_66_code
def yX11_open : MethodName := ⟨RX11, "open", "(II)I"⟩
abbrev cX11_endOf : ByteArray := prog_13_method_67_code
def yX11_endOf : MethodName := ⟨RX11, "endOf", "(II)I"⟩
abbrev cX11_better : ByteArray := prog_13_method_68_code
def yX11_better : MethodName := ⟨RX11, "better", "(III)Z"⟩
abbrev cX11_sidesOf : ByteArray := prog_13_method_69_code
def yX11_sidesOf : MethodName := ⟨RX11, "sidesOf", "(II)I"⟩
abbrev cX11_sides : ByteArray := prog_13_method_70_code
def yX11_sides : MethodName := ⟨RX11, "sides", "(II)I"⟩
abbrev cX11_seen : ByteArray := prog_13_method_71_code
def yX11_seen : MethodName := ⟨RX11, "seen", "(III)I"⟩
abbrev cX11_forget : ByteArray := prog_13_method_72_code
def yX11_forget : MethodName := ⟨RX11, "forget", "()I"⟩
abbrev cX11_read : ByteArray := prog_13_method_73_code
def yX11_read : MethodName := ⟨RX11, "read", "(I)I"⟩
abbrev cX11_isSeen : ByteArray := prog_13_method_74_code
def yX11_isSeen : MethodName := ⟨RX11, "isSeen", "()Z"⟩
abbrev cX11_whoBy : ByteArray := prog_13_method_75_code
def yX11_whoBy : MethodName := ⟨RX11, "whoBy", "(I)I"⟩
abbrev cX11_who : ByteArray := prog_13_method_76_code
def yX11_who : MethodName := ⟨RX11, "who", "(I)I"⟩
abbrev cX11_frostOf : ByteArray := prog_13_method_77_code
def yX11_frostOf : MethodName := ⟨RX11, "frostOf", "(II)J"⟩
abbrev cX11_frost : ByteArray := prog_13_method_78_code
def yX11_frost : MethodName := ⟨RX11, "frost", "(II)J"⟩
abbrev cX11_lot : ByteArray := prog_13_method_79_code
def yX11_lot : MethodName := ⟨RX11, "lot", "(I)I"⟩
abbrev cX11_yearsOf : ByteArray := prog_13_method_80_code
def yX11_yearsOf : MethodName := ⟨RX11, "yearsOf", "(III)I"⟩
abbrev cX11_years : ByteArray := prog_13_method_81_code
def yX11_years : MethodName := ⟨RX11, "years", "(III)I"⟩
abbrev cX11_write : ByteArray := prog_13_method_82_code
def yX11_write : MethodName := ⟨RX11, "write", "(II)I"⟩
abbrev cX11_working : ByteArray := prog_13_method_83_code
def yX11_working : MethodName := ⟨RX11, "working", "()I"⟩
abbrev cX11_count : ByteArray := prog_13_method_84_code
def yX11_count : MethodName := ⟨RX11, "count", "(I)I"⟩
abbrev cX11_tellsColumn : ByteArray := prog_13_method_85_code
def yX11_tellsColumn : MethodName := ⟨RX11, "tellsColumn", "(JII)J"⟩
abbrev cX11_digest : ByteArray := prog_13_method_86_code
def yX11_digest : MethodName := ⟨RX11, "digest", "()J"⟩
def RJ9 : String := "java/lang/Math"
def TJ9 : u_T := fun k => match k with
  | _ => ("", "", "", false)
def tyJ9 : Nat → FieldType := fun k => match k with
  | _ => .int
abbrev wsJ90 : List Cond := u_ws RJ9 TJ9 0
theorem nmJ9 : ∀ a, a < 0 → ∀ b, b < 0 → a ≠ b → (TJ9 a).2.1 ≠ (TJ9 b).2.1 := by decide +kernel
theorem tyJ9_ok : ∀ k, k < 0 → parseFieldDescriptor (TJ9 k).2.2.1 = some (tyJ9 k) := by decide +kernel
abbrev cJ9_abs_0f7a4 : ByteArray := prog_14_method_59_code
def yJ9_abs_0f7a4 : MethodName := ⟨RJ9, "abs", "(I)I"⟩
abbrev cJ9_max_7cf53 : ByteArray := prog_14_method_65_code
def yJ9_max_7cf53 : MethodName := ⟨RJ9, "max", "(II)I"⟩
abbrev cJ9_min_7cf53 : ByteArray := prog_14_method_69_code
def yJ9_min_7cf53 : MethodName := ⟨RJ9, "min", "(II)I"⟩
def RJ10 : String := "java/lang/System"
def TJ10 : u_T := fun k => match k with
  | _ => ("", "", "", false)
def tyJ10 : Nat → FieldType := fun k => match k with
  | _ => .int
abbrev wsJ100 : List Cond := u_ws RJ10 TJ10 0
theorem nmJ10 : ∀ a, a < 0 → ∀ b, b < 0 → a ≠ b → (TJ10 a).2.1 ≠ (TJ10 b).2.1 := by decide +kernel
theorem tyJ10_ok : ∀ k, k < 0 → parseFieldDescriptor (TJ10 k).2.2.1 = some (tyJ10 k) := by decide +kernel
def RL : String := "WallTurnsLaw"
abbrev cL_law : ByteArray := code
def yL_law : MethodName := ⟨RL, "law", "([I)Z"⟩
abbrev vwCl : List vw_C := [(RX0, TX0, 5), (RX1, TX1, 5), (RX2, TX2, 5), (RX3, TX3, 1), (RX4, TX4, 5), (RX5, TX5, 4), (RX6, TX6, 4), (RX8, TX8, 3), (RX9, TX9, 5), (RX10, TX10, 11), (RX11, TX11, 24)]
/-- the words that every contract asks for -/
def WL : List Cond := lw_tbl.filter goodWord
theorem WL_of {w : Cond} (h : w ∈ lw_tbl) (hg : goodWord w = true) : w ∈ WL := List.mem_filter.mpr ⟨h, hg⟩
theorem WL_hts {args : Array Value} {s : State} (h : ∀ w ∈ lw_tbl, w.before args s = true) : ∀ w ∈ WL, w.before args s = true := fun w hw => h w (List.mem_filter.mp hw).1
theorem gdL : GoodIn WL WL := fun w h => ⟨h, good_of_word (List.mem_filter.mp h).2⟩
theorem in_s {w : Cond} {j : Nat} (h : (k2_sels lw_privs)[j]? = some w) (hg : goodWord w = true) : w ∈ WL := WL_of (List.mem_append_left _ (List.mem_of_getElem? h)) hg
theorem in_1 {w : Cond} {j : Nat} (h : tables_1_1[j]? = some w) (hg : goodWord w = true) : w ∈ WL := WL_of (List.mem_append_right _ (List.mem_append_left _ (List.mem_of_getElem? h))) hg
theorem in_2 {w : Cond} {j : Nat} (h : tables_1_2[j]? = some w) (hg : goodWord w = true) : w ∈ WL := WL_of (List.mem_append_right _ (List.mem_append_right _ (List.mem_append_left _ (List.mem_of_getElem? h)))) hg
theorem in_3 {w : Cond} {j : Nat} (h : tables_1_3[j]? = some w) (hg : goodWord w = true) : w ∈ WL := WL_of (List.mem_append_right _ (List.mem_append_right _ (List.mem_append_right _ (List.mem_append_left _ (List.mem_of_getElem? h))))) hg
theorem in_4 {w : Cond} {j : Nat} (h : tables_1_4[j]? = some w) (hg : goodWord w = true) : w ∈ WL := WL_of (List.mem_append_right _ (List.mem_append_right _ (List.mem_append_right _ (List.mem_append_right _ (List.mem_append_left _ (List.mem_of_getElem? h)))))) hg
theorem in_5 {w : Cond} {j : Nat} (h : tables_1_5[j]? = some w) (hg : goodWord w = true) : w ∈ WL := WL_of (List.mem_append_right _ (List.mem_append_right _ (List.mem_append_right _ (List.mem_append_right _ (List.mem_append_right _ (List.mem_append_left _ (List.mem_of_getElem? h))))))) hg
theorem in_6 {w : Cond} {j : Nat} (h : tables_1_6[j]? = some w) (hg : goodWord w = true) : w ∈ WL := WL_of (List.mem_append_right _ (List.mem_append_right _ (List.mem_append_right _ (List.mem_append_right _ (List.mem_append_right _ (List.mem_append_right _ (List.mem_of_getElem? h))))))) hg
theorem inla_X0 : ∀ w ∈ wsX00, w ∈ tables_1_1 := by decide +kernel
theorem inlX0 : ∀ w ∈ wsX00, w ∈ WL := by
  intro w h
  obtain ⟨j, hj⟩ := List.getElem?_of_mem (inla_X0 w h)
  refine in_1 hj ?_
  exact (show wsX00.all goodWord = true by decide +kernel) |> fun h2 => List.all_eq_true.mp h2 w h
theorem inla_X1 : ∀ w ∈ wsX10, w ∈ tables_1_1 := by decide +kernel
theorem inlX1 : ∀ w ∈ wsX10, w ∈ WL := by
  intro w h
  obtain ⟨j, hj⟩ := List.getElem?_of_mem (inla_X1 w h)
  refine in_1 hj ?_
  exact (show wsX10.all goodWord = true by decide +kernel) |> fun h2 => List.all_eq_true.mp h2 w h
theorem inla_X2 : ∀ w ∈ wsX20, w ∈ tables_1_1 := by decide +kernel
theorem inlX2 : ∀ w ∈ wsX20, w ∈ WL := by
  intro w h
  obtain ⟨j, hj⟩ := List.getElem?_of_mem (inla_X2 w h)
  refine in_1 hj ?_
  exact (show wsX20.all goodWord = true by decide +kernel) |> fun h2 => List.all_eq_true.mp h2 w h
theorem inla_X3 : ∀ w ∈ wsX30, w ∈ tables_1_1 := by decide +kernel
theorem inlX3 : ∀ w ∈ wsX30, w ∈ WL := by
  intro w h
  obtain ⟨j, hj⟩ := List.getElem?_of_mem (inla_X3 w h)
  refine in_1 hj ?_
  exact (show wsX30.all goodWord = true by decide +kernel) |> fun h2 => List.all_eq_true.mp h2 w h
theorem inla_X4 : ∀ w ∈ wsX40, w ∈ tables_1_1 := by decide +kernel
theorem inlX4 : ∀ w ∈ wsX40, w ∈ WL := by
  intro w h
  obtain ⟨j, hj⟩ := List.getElem?_of_mem (inla_X4 w h)
  refine in_1 hj ?_
  exact (show wsX40.all goodWord = true by decide +kernel) |> fun h2 => List.all_eq_true.mp h2 w h
theorem inla_X5 : ∀ w ∈ wsX50, w ∈ tables_1_1 := by decide +kernel
theorem inlX5 : ∀ w ∈ wsX50, w ∈ WL := by
  intro w h
  obtain ⟨j, hj⟩ := List.getElem?_of_mem (inla_X5 w h)
  refine in_1 hj ?_
  exact (show wsX50.all goodWord = true by decide +kernel) |> fun h2 => List.all_eq_true.mp h2 w h
theorem inla_X6 : ∀ w ∈ wsX60, w ∈ tables_1_1 := by decide +kernel
theorem inlX6 : ∀ w ∈ wsX60, w ∈ WL := by
  intro w h
  obtain ⟨j, hj⟩ := List.getElem?_of_mem (inla_X6 w h)
  refine in_1 hj ?_
  exact (show wsX60.all goodWord = true by decide +kernel) |> fun h2 => List.all_eq_true.mp h2 w h
theorem inla_X8 : ∀ w ∈ wsX80, w ∈ tables_1_1 := by decide +kernel
theorem inlX8 : ∀ w ∈ wsX80, w ∈ WL := by
  intro w h
  obtain ⟨j, hj⟩ := List.getElem?_of_mem (inla_X8 w h)
  refine in_1 hj ?_
  exact (show wsX80.all goodWord = true by decide +kernel) |> fun h2 => List.all_eq_true.mp h2 w h
theorem inla_X9 : ∀ w ∈ wsX90, w ∈ tables_1_1 := by decide +kernel
theorem inlX9 : ∀ w ∈ wsX90, w ∈ WL := by
  intro w h
  obtain ⟨j, hj⟩ := List.getElem?_of_mem (inla_X9 w h)
  refine in_1 hj ?_
  exact (show wsX90.all goodWord = true by decide +kernel) |> fun h2 => List.all_eq_true.mp h2 w h
theorem inla_X10 : ∀ w ∈ wsX100, w ∈ tables_1_1 := by decide +kernel
theorem inlX10 : ∀ w ∈ wsX100, w ∈ WL := by
  intro w h
  obtain ⟨j, hj⟩ := List.getElem?_of_mem (inla_X10 w h)
  refine in_1 hj ?_
  exact (show wsX100.all goodWord = true by decide +kernel) |> fun h2 => List.all_eq_true.mp h2 w h
theorem inla_X11 : ∀ w ∈ wsX110, w ∈ tables_1_4 := by decide +kernel
theorem inlX11 : ∀ w ∈ wsX110, w ∈ WL := by
  intro w h
  obtain ⟨j, hj⟩ := List.getElem?_of_mem (inla_X11 w h)
  refine in_4 hj ?_
  exact (show wsX110.all goodWord = true by decide +kernel) |> fun h2 => List.all_eq_true.mp h2 w h
theorem q0 : (Cond.classLink RL 7 RX10 : Cond) ∈ WL := in_1 (j := 15) rfl rfl
theorem q1 : (Cond.instantiable RX10 11 : Cond) ∈ WL := in_1 (j := 16) rfl rfl
theorem q2 : (Cond.initialized RX10 : Cond) ∈ WL := in_1 (j := 1) rfl rfl
theorem q3 : (Cond.classLink RL 10 RX11 : Cond) ∈ WL := in_4 (j := 140) rfl rfl
theorem q4 : (Cond.instantiable RX11 24 : Cond) ∈ WL := in_4 (j := 141) rfl rfl
theorem q5 : (Cond.initialized RX11 : Cond) ∈ WL := in_1 (j := 12) rfl rfl
theorem q6 : (Cond.methodLink RL 9 yX10_init : Cond) ∈ WL := in_1 (j := 17) rfl rfl
theorem q7 : (Cond.instanceMethod yX10_init : Cond) ∈ WL := in_1 (j := 18) rfl rfl
theorem q8 : (Cond.code yX10_init cX10_init 1 none : Cond) ∈ WL := in_1 (j := 19) rfl rfl
theorem q9 : (Cond.methodLink RX10 1 objectInit : Cond) ∈ WL := in_1 (j := 20) rfl rfl
theorem q10 : (Cond.instanceMethod objectInit : Cond) ∈ WL := in_1 (j := 21) rfl rfl
theorem q11 : (Cond.code objectInit ⟨#[0xb1]⟩ 1 none : Cond) ∈ WL := in_1 (j := 22) rfl rfl
theorem q12 : (Cond.classLink RX10 7 RX8 : Cond) ∈ WL := in_1 (j := 23) rfl rfl
theorem q13 : (Cond.instantiable RX8 3 : Cond) ∈ WL := in_1 (j := 24) rfl rfl
theorem q14 : (Cond.initialized RX8 : Cond) ∈ WL := in_1 (j := 2) rfl rfl
theorem q15 : (Cond.fieldLink RX10 14 "WallTurns" "wallText" "LWallTurns$Text;" : Cond) ∈ WL := in_1 (j := 208) rfl rfl
theorem q16 : (Cond.fieldLink RX10 18 "WallTurns" "turnText" "LWallTurns$Text;" : Cond) ∈ WL := in_1 (j := 209) rfl rfl
theorem q17 : (Cond.classLink RX10 21 RX3 : Cond) ∈ WL := in_1 (j := 43) rfl rfl
theorem q18 : (Cond.instantiable RX3 1 : Cond) ∈ WL := in_1 (j := 44) rfl rfl
theorem q19 : (Cond.initialized RX3 : Cond) ∈ WL := in_1 (j := 4) rfl rfl
theorem q20 : (Cond.fieldLink RX10 24 "WallTurns" "rules" "LWallTurns$Rules;" : Cond) ∈ WL := in_1 (j := 210) rfl rfl
theorem q21 : (Cond.classLink RX10 28 RX4 : Cond) ∈ WL := in_1 (j := 53) rfl rfl
theorem q22 : (Cond.instantiable RX4 5 : Cond) ∈ WL := in_1 (j := 54) rfl rfl
theorem q23 : (Cond.initialized RX4 : Cond) ∈ WL := in_1 (j := 5) rfl rfl
theorem q24 : (Cond.fieldLink RX10 31 "WallTurns" "script" "LWallTurns$Script;" : Cond) ∈ WL := in_1 (j := 211) rfl rfl
theorem q25 : (Cond.classLink RX10 35 RX1 : Cond) ∈ WL := in_1 (j := 75) rfl rfl
theorem q26 : (Cond.instantiable RX1 5 : Cond) ∈ WL := in_1 (j := 76) rfl rfl
theorem q27 : (Cond.initialized RX1 : Cond) ∈ WL := in_1 (j := 6) rfl rfl
theorem q28 : (Cond.fieldLink RX10 38 "WallTurns" "past" "LWallTurns$Past;" : Cond) ∈ WL := in_1 (j := 212) rfl rfl
theorem q29 : (Cond.classLink RX10 42 RX2 : Cond) ∈ WL := in_1 (j := 120) rfl rfl
theorem q30 : (Cond.instantiable RX2 5 : Cond) ∈ WL := in_1 (j := 121) rfl rfl
theorem q31 : (Cond.initialized RX2 : Cond) ∈ WL := in_1 (j := 8) rfl rfl
theorem q32 : (Cond.fieldLink RX10 45 "WallTurns" "plans" "LWallTurns$Plans;" : Cond) ∈ WL := in_1 (j := 213) rfl rfl
theorem q33 : (Cond.classLink RX10 49 RX0 : Cond) ∈ WL := in_1 (j := 144) rfl rfl
theorem q34 : (Cond.instantiable RX0 5 : Cond) ∈ WL := in_1 (j := 145) rfl rfl
theorem q35 : (Cond.initialized RX0 : Cond) ∈ WL := in_1 (j := 9) rfl rfl
theorem q36 : (Cond.fieldLink RX10 52 "WallTurns" "fates" "LWallTurns$Fates;" : Cond) ∈ WL := in_1 (j := 214) rfl rfl
theorem q37 : (Cond.classLink RX10 56 RX6 : Cond) ∈ WL := in_1 (j := 168) rfl rfl
theorem q38 : (Cond.instantiable RX6 4 : Cond) ∈ WL := in_1 (j := 169) rfl rfl
theorem q39 : (Cond.initialized RX6 : Cond) ∈ WL := in_1 (j := 10) rfl rfl
theorem q40 : (Cond.fieldLink RX10 59 "WallTurns" "sights" "LWallTurns$Sights;" : Cond) ∈ WL := in_1 (j := 215) rfl rfl
theorem q41 : (Cond.classLink RX10 63 RX5 : Cond) ∈ WL := in_1 (j := 187) rfl rfl
theorem q42 : (Cond.instantiable RX5 4 : Cond) ∈ WL := in_1 (j := 188) rfl rfl
theorem q43 : (Cond.initialized RX5 : Cond) ∈ WL := in_1 (j := 11) rfl rfl
theorem q44 : (Cond.fieldLink RX10 66 "WallTurns" "sheets" "LWallTurns$Sheets;" : Cond) ∈ WL := in_1 (j := 216) rfl rfl
theorem q45 : (Cond.fieldLink RX10 70 "WallTurns" "wallFault" "I" : Cond) ∈ WL := in_1 (j := 217) rfl rfl
theorem q46 : (Cond.fieldLink RX10 74 "WallTurns" "turnFault" "I" : Cond) ∈ WL := in_1 (j := 218) rfl rfl
theorem q47 : (Cond.methodLink RX10 11 yX8_init : Cond) ∈ WL := in_1 (j := 25) rfl rfl
theorem q48 : (Cond.instanceMethod yX8_init : Cond) ∈ WL := in_1 (j := 26) rfl rfl
theorem q49 : (Cond.code yX8_init cX8_init 2 none : Cond) ∈ WL := in_1 (j := 27) rfl rfl
theorem q50 : (Cond.methodLink RX8 3 objectInit : Cond) ∈ WL := in_1 (j := 28) rfl rfl
theorem q51 : (Cond.arrayClass .int : Cond) ∈ WL := in_1 (j := 42) rfl rfl
theorem q52 : (Cond.fieldLink RX8 9 "WallTurns$Text" "bytes" "[I" : Cond) ∈ WL := in_1 (j := 32) rfl rfl
theorem q53 : (Cond.fieldLink RX8 15 "WallTurns$Text" "length" "I" : Cond) ∈ WL := in_1 (j := 34) rfl rfl
theorem q54 : (Cond.methodLink RX8 19 Lib.Math.min.name : Cond) ∈ WL := in_1 (j := 29) rfl rfl
theorem q55 : (Cond.static Lib.Math.min.name : Cond) ∈ WL := in_1 (j := 30) rfl rfl
theorem q56 : (Cond.initialized "java/lang/Math" : Cond) ∈ WL := in_1 (j := 3) rfl rfl
theorem q57 : (Cond.code Lib.Math.min.name Lib.Math.min.code 2 (some .int) : Cond) ∈ WL := in_1 (j := 31) rfl rfl
theorem q58 : (Cond.fieldLink RX8 25 "WallTurns$Text" "limit" "I" : Cond) ∈ WL := in_1 (j := 33) rfl rfl
theorem q59 : (Cond.instanceMethod yX3_init : Cond) ∈ WL := in_1 (j := 46) rfl rfl
theorem q60 : (Cond.code yX3_init cX3_init 1 none : Cond) ∈ WL := in_1 (j := 47) rfl rfl
theorem q61 : (Cond.methodLink RX3 1 objectInit : Cond) ∈ WL := in_1 (j := 48) rfl rfl
theorem q62 : (Cond.fieldLink RX3 7 "WallTurns$Rules" "values" "[I" : Cond) ∈ WL := in_1 (j := 49) rfl rfl
theorem q63 : (Cond.instanceMethod yX4_init : Cond) ∈ WL := in_1 (j := 56) rfl rfl
theorem q64 : (Cond.code yX4_init cX4_init 1 none : Cond) ∈ WL := in_1 (j := 57) rfl rfl
theorem q65 : (Cond.methodLink RX4 3 objectInit : Cond) ∈ WL := in_1 (j := 58) rfl rfl
theorem q66 : (Cond.fieldLink RX4 9 "WallTurns$Script" "takes" "[I" : Cond) ∈ WL := in_1 (j := 59) rfl rfl
theorem q67 : (Cond.fieldLink RX4 15 "WallTurns$Script" "lays" "[I" : Cond) ∈ WL := in_1 (j := 60) rfl rfl
theorem q68 : (Cond.fieldLink RX4 18 "WallTurns$Script" "stones" "[I" : Cond) ∈ WL := in_1 (j := 61) rfl rfl
theorem q69 : (Cond.fieldLink RX4 21 "WallTurns$Script" "places" "[I" : Cond) ∈ WL := in_1 (j := 62) rfl rfl
theorem q70 : (Cond.fieldLink RX4 24 "WallTurns$Script" "turns" "I" : Cond) ∈ WL := in_1 (j := 63) rfl rfl
theorem q71 : (Cond.methodLink RX10 37 yX1_init : Cond) ∈ WL := in_1 (j := 77) rfl rfl
theorem q72 : (Cond.instanceMethod yX1_init : Cond) ∈ WL := in_1 (j := 78) rfl rfl
theorem q73 : (Cond.code yX1_init cX1_init 2 none : Cond) ∈ WL := in_1 (j := 79) rfl rfl
theorem q74 : (Cond.methodLink RX1 3 objectInit : Cond) ∈ WL := in_1 (j := 80) rfl rfl
theorem q75 : (Cond.classLink RX1 9 RX9 : Cond) ∈ WL := in_1 (j := 81) rfl rfl
theorem q76 : (Cond.fieldLink RX1 11 "WallTurns$Past" "walls" "[LWallTurns$Wall;" : Cond) ∈ WL := in_1 (j := 104) rfl rfl
theorem q77 : (Cond.fieldLink RX1 17 "WallTurns$Past" "took" "[I" : Cond) ∈ WL := in_1 (j := 105) rfl rfl
theorem q78 : (Cond.fieldLink RX1 21 "WallTurns$Past" "laid" "[I" : Cond) ∈ WL := in_1 (j := 106) rfl rfl
theorem q79 : (Cond.instantiable RX9 5 : Cond) ∈ WL := in_1 (j := 83) rfl rfl
theorem q80 : (Cond.initialized RX9 : Cond) ∈ WL := in_1 (j := 7) rfl rfl
theorem q81 : (Cond.fieldLink RX1 25 "WallTurns$Past" "other" "LWallTurns$Wall;" : Cond) ∈ WL := in_1 (j := 107) rfl rfl
theorem q82 : (Cond.fieldLink RX1 29 "WallTurns$Past" "turns" "I" : Cond) ∈ WL := in_1 (j := 108) rfl rfl
theorem q83 : (Cond.instanceMethod yX9_init : Cond) ∈ WL := in_1 (j := 85) rfl rfl
theorem q84 : (Cond.code yX9_init cX9_init 1 none : Cond) ∈ WL := in_1 (j := 86) rfl rfl
theorem q85 : (Cond.methodLink RX9 3 objectInit : Cond) ∈ WL := in_1 (j := 87) rfl rfl
theorem q86 : (Cond.fieldLink RX9 9 "WallTurns$Wall" "stones" "[I" : Cond) ∈ WL := in_1 (j := 88) rfl rfl
theorem q87 : (Cond.fieldLink RX9 15 "WallTurns$Wall" "sizes" "[I" : Cond) ∈ WL := in_1 (j := 89) rfl rfl
theorem q88 : (Cond.fieldLink RX9 18 "WallTurns$Wall" "heights" "[I" : Cond) ∈ WL := in_1 (j := 90) rfl rfl
theorem q89 : (Cond.fieldLink RX9 21 "WallTurns$Wall" "leans" "[I" : Cond) ∈ WL := in_1 (j := 91) rfl rfl
theorem q90 : (Cond.fieldLink RX9 24 "WallTurns$Wall" "columns" "I" : Cond) ∈ WL := in_1 (j := 92) rfl rfl
theorem q91 : (Cond.instanceMethod yX2_init : Cond) ∈ WL := in_1 (j := 123) rfl rfl
theorem q92 : (Cond.code yX2_init cX2_init 1 none : Cond) ∈ WL := in_1 (j := 124) rfl rfl
theorem q93 : (Cond.methodLink RX2 3 objectInit : Cond) ∈ WL := in_1 (j := 125) rfl rfl
theorem q94 : (Cond.classLink RX2 9 RX9 : Cond) ∈ WL := in_1 (j := 126) rfl rfl
theorem q95 : (Cond.fieldLink RX2 12 "WallTurns$Plans" "wall" "LWallTurns$Wall;" : Cond) ∈ WL := in_1 (j := 128) rfl rfl
theorem q96 : (Cond.fieldLink RX2 18 "WallTurns$Plans" "row" "[I" : Cond) ∈ WL := in_1 (j := 129) rfl rfl
theorem q97 : (Cond.fieldLink RX2 22 "WallTurns$Plans" "moves" "[I" : Cond) ∈ WL := in_1 (j := 130) rfl rfl
theorem q98 : (Cond.fieldLink RX2 25 "WallTurns$Plans" "needed" "I" : Cond) ∈ WL := in_1 (j := 131) rfl rfl
theorem q99 : (Cond.fieldLink RX2 29 "WallTurns$Plans" "firstMove" "I" : Cond) ∈ WL := in_1 (j := 132) rfl rfl
theorem q100 : (Cond.instanceMethod yX0_init : Cond) ∈ WL := in_1 (j := 147) rfl rfl
theorem q101 : (Cond.code yX0_init cX0_init 1 none : Cond) ∈ WL := in_1 (j := 148) rfl rfl
theorem q102 : (Cond.methodLink RX0 3 objectInit : Cond) ∈ WL := in_1 (j := 149) rfl rfl
theorem q103 : (Cond.classLink RX0 9 RX9 : Cond) ∈ WL := in_1 (j := 150) rfl rfl
theorem q104 : (Cond.fieldLink RX0 12 "WallTurns$Fates" "wall" "LWallTurns$Wall;" : Cond) ∈ WL := in_1 (j := 152) rfl rfl
theorem q105 : (Cond.fieldLink RX0 18 "WallTurns$Fates" "above" "J" : Cond) ∈ WL := in_1 (j := 153) rfl rfl
theorem q106 : (Cond.fieldLink RX0 22 "WallTurns$Fates" "below" "J" : Cond) ∈ WL := in_1 (j := 154) rfl rfl
theorem q107 : (Cond.fieldLink RX0 25 "WallTurns$Fates" "seed" "I" : Cond) ∈ WL := in_1 (j := 155) rfl rfl
theorem q108 : (Cond.fieldLink RX0 29 "WallTurns$Fates" "fallen" "I" : Cond) ∈ WL := in_1 (j := 156) rfl rfl
theorem q109 : (Cond.instanceMethod yX6_init : Cond) ∈ WL := in_1 (j := 171) rfl rfl
theorem q110 : (Cond.code yX6_init cX6_init 1 none : Cond) ∈ WL := in_1 (j := 172) rfl rfl
theorem q111 : (Cond.methodLink RX6 3 objectInit : Cond) ∈ WL := in_1 (j := 173) rfl rfl
theorem q112 : (Cond.fieldLink RX6 9 "WallTurns$Sights" "turnsBehind" "[I" : Cond) ∈ WL := in_1 (j := 174) rfl rfl
theorem q113 : (Cond.fieldLink RX6 15 "WallTurns$Sights" "columns" "[I" : Cond) ∈ WL := in_1 (j := 175) rfl rfl
theorem q114 : (Cond.fieldLink RX6 18 "WallTurns$Sights" "heights" "[I" : Cond) ∈ WL := in_1 (j := 176) rfl rfl
theorem q115 : (Cond.fieldLink RX6 21 "WallTurns$Sights" "many" "I" : Cond) ∈ WL := in_1 (j := 177) rfl rfl
theorem q116 : (Cond.instanceMethod yX5_init : Cond) ∈ WL := in_1 (j := 190) rfl rfl
theorem q117 : (Cond.code yX5_init cX5_init 1 none : Cond) ∈ WL := in_1 (j := 191) rfl rfl
theorem q118 : (Cond.methodLink RX5 3 objectInit : Cond) ∈ WL := in_1 (j := 192) rfl rfl
theorem q119 : (Cond.classLink RX5 11 "[[I" : Cond) ∈ WL := in_1 (j := 193) rfl rfl
theorem q120 : (Cond.fieldLink RX5 13 "WallTurns$Sheets" "items" "[[I" : Cond) ∈ WL := in_1 (j := 195) rfl rfl
theorem q121 : (Cond.fieldLink RX5 16 "WallTurns$Sheets" "forms" "[I" : Cond) ∈ WL := in_1 (j := 196) rfl rfl
theorem q122 : (Cond.fieldLink RX5 20 "WallTurns$Sheets" "sizes" "[I" : Cond) ∈ WL := in_1 (j := 197) rfl rfl
theorem q123 : (Cond.fieldLink RX5 23 "WallTurns$Sheets" "finding" "I" : Cond) ∈ WL := in_1 (j := 198) rfl rfl
theorem q124 : (Cond.methodLink RL 12 yX11_init : Cond) ∈ WL := in_4 (j := 142) rfl rfl
theorem q125 : (Cond.instanceMethod yX11_init : Cond) ∈ WL := in_4 (j := 143) rfl rfl
theorem q126 : (Cond.code yX11_init cX11_init 2 none : Cond) ∈ WL := in_4 (j := 144) rfl rfl
theorem q127 : (Cond.methodLink RX11 1 objectInit : Cond) ∈ WL := in_4 (j := 145) rfl rfl
theorem q128 : (Cond.fieldLink RX11 7 "WallTurnsModel" "forms" "[I" : Cond) ∈ WL := in_4 (j := 146) rfl rfl
theorem q129 : (Cond.fieldLink RX11 13 "WallTurnsModel" "sizes" "[I" : Cond) ∈ WL := in_4 (j := 147) rfl rfl
theorem q130 : (Cond.fieldLink RX11 16 "WallTurnsModel" "items" "[I" : Cond) ∈ WL := in_4 (j := 148) rfl rfl
theorem q131 : (Cond.fieldLink RX11 19 "WallTurnsModel" "moved" "[I" : Cond) ∈ WL := in_4 (j := 149) rfl rfl
theorem q132 : (Cond.fieldLink RX11 22 "WallTurnsModel" "bytes" "[I" : Cond) ∈ WL := in_4 (j := 151) rfl rfl
theorem q133 : (Cond.fieldLink RX11 25 "WallTurnsModel" "typed" "[I" : Cond) ∈ WL := in_4 (j := 152) rfl rfl
theorem q134 : (Cond.fieldLink RX11 28 "WallTurnsModel" "wall" "[I" : Cond) ∈ WL := in_4 (j := 155) rfl rfl
theorem q135 : (Cond.fieldLink RX11 31 "WallTurnsModel" "tall" "[I" : Cond) ∈ WL := in_4 (j := 156) rfl rfl
theorem q136 : (Cond.fieldLink RX11 34 "WallTurnsModel" "turn" "[I" : Cond) ∈ WL := in_4 (j := 158) rfl rfl
theorem q137 : (Cond.fieldLink RX11 37 "WallTurnsModel" "settings" "[I" : Cond) ∈ WL := in_4 (j := 159) rfl rfl
theorem q138 : (Cond.fieldLink RX11 40 "WallTurnsModel" "stones" "[I" : Cond) ∈ WL := in_4 (j := 160) rfl rfl
theorem q139 : (Cond.fieldLink RX11 43 "WallTurnsModel" "many" "[I" : Cond) ∈ WL := in_4 (j := 161) rfl rfl
theorem q140 : (Cond.fieldLink RX11 46 "WallTurnsModel" "row" "[I" : Cond) ∈ WL := in_4 (j := 166) rfl rfl
theorem q141 : (Cond.fieldLink RX11 49 "WallTurnsModel" "sight" "[I" : Cond) ∈ WL := in_4 (j := 168) rfl rfl
theorem q142 : (Cond.fieldLink RX11 52 "WallTurnsModel" "other" "I" : Cond) ∈ WL := in_4 (j := 164) rfl rfl
theorem q143 : (Cond.methodLink RL 13 yX10_type : Cond) ∈ WL := in_2 (j := 2) rfl rfl
theorem q144 : (Cond.instanceMethod yX10_type : Cond) ∈ WL := in_2 (j := 3) rfl rfl
theorem q145 : (Cond.selects RX10 yX10_type yX10_type : Cond) ∈ WL := in_2 (j := 4) rfl rfl
theorem q146 : (Cond.code yX10_type cX10_type 4 (some .int) : Cond) ∈ WL := in_2 (j := 5) rfl rfl
theorem q147 : (Cond.methodLink RX10 77 yX10_textOf : Cond) ∈ WL := in_2 (j := 6) rfl rfl
theorem q148 : (Cond.instanceMethod yX10_textOf : Cond) ∈ WL := in_2 (j := 8) rfl rfl
theorem q149 : (Cond.selects RX10 yX10_textOf yX10_textOf : Cond) ∈ WL := in_s (j := 0) rfl rfl
theorem q150 : (Cond.code yX10_textOf cX10_textOf 2 (some (.object "WallTurns$Text")) : Cond) ∈ WL := in_2 (j := 9) rfl rfl
theorem q151 : (Cond.methodLink RX10 81 yX10_within : Cond) ∈ WL := in_2 (j := 10) rfl rfl
theorem q152 : (Cond.static yX10_within : Cond) ∈ WL := in_2 (j := 11) rfl rfl
theorem q153 : (Cond.code yX10_within cX10_within 3 (some .boolean) : Cond) ∈ WL := in_2 (j := 12) rfl rfl
theorem q154 : (Cond.methodLink RX10 85 yX8_isFull : Cond) ∈ WL := in_2 (j := 13) rfl rfl
theorem q155 : (Cond.instanceMethod yX8_isFull : Cond) ∈ WL := in_2 (j := 14) rfl rfl
theorem q156 : (Cond.selects RX8 yX8_isFull yX8_isFull : Cond) ∈ WL := in_2 (j := 15) rfl rfl
theorem q157 : (Cond.code yX8_isFull cX8_isFull 1 (some .boolean) : Cond) ∈ WL := in_2 (j := 16) rfl rfl
theorem q158 : (Cond.methodLink RX10 89 yX8_add : Cond) ∈ WL := in_2 (j := 17) rfl rfl
theorem q159 : (Cond.instanceMethod yX8_add : Cond) ∈ WL := in_2 (j := 18) rfl rfl
theorem q160 : (Cond.selects RX8 yX8_add yX8_add : Cond) ∈ WL := in_2 (j := 19) rfl rfl
theorem q161 : (Cond.code yX8_add cX8_add 2 none : Cond) ∈ WL := in_2 (j := 20) rfl rfl
theorem q162 : (Cond.methodLink RX10 92 yX10_settle : Cond) ∈ WL := in_2 (j := 21) rfl rfl
theorem q163 : (Cond.instanceMethod yX10_settle : Cond) ∈ WL := in_2 (j := 23) rfl rfl
theorem q164 : (Cond.selects RX10 yX10_settle yX10_settle : Cond) ∈ WL := in_s (j := 1) rfl rfl
theorem q165 : (Cond.code yX10_settle cX10_settle 1 none : Cond) ∈ WL := in_2 (j := 24) rfl rfl
theorem q166 : (Cond.methodLink RX10 316 yX1_start : Cond) ∈ WL := in_2 (j := 25) rfl rfl
theorem q167 : (Cond.instanceMethod yX1_start : Cond) ∈ WL := in_2 (j := 26) rfl rfl
theorem q168 : (Cond.selects RX1 yX1_start yX1_start : Cond) ∈ WL := in_2 (j := 27) rfl rfl
theorem q169 : (Cond.code yX1_start cX1_start 1 (some (.object "WallTurns$Wall")) : Cond) ∈ WL := in_2 (j := 28) rfl rfl
theorem q170 : (Cond.methodLink RX10 319 yX9_parse : Cond) ∈ WL := in_2 (j := 29) rfl rfl
theorem q171 : (Cond.instanceMethod yX9_parse : Cond) ∈ WL := in_2 (j := 30) rfl rfl
theorem q172 : (Cond.selects RX9 yX9_parse yX9_parse : Cond) ∈ WL := in_2 (j := 31) rfl rfl
theorem q173 : (Cond.code yX9_parse cX9_parse 3 (some .int) : Cond) ∈ WL := in_2 (j := 32) rfl rfl
theorem q174 : (Cond.methodLink RX9 28 yX9_raze : Cond) ∈ WL := in_2 (j := 33) rfl rfl
theorem q175 : (Cond.instanceMethod yX9_raze : Cond) ∈ WL := in_2 (j := 35) rfl rfl
theorem q176 : (Cond.selects RX9 yX9_raze yX9_raze : Cond) ∈ WL := in_s (j := 2) rfl rfl
theorem q177 : (Cond.code yX9_raze cX9_raze 2 none : Cond) ∈ WL := in_2 (j := 36) rfl rfl
theorem q178 : (Cond.methodLink RX9 31 yX8_size : Cond) ∈ WL := in_2 (j := 37) rfl rfl
theorem q179 : (Cond.instanceMethod yX8_size : Cond) ∈ WL := in_2 (j := 38) rfl rfl
theorem q180 : (Cond.selects RX8 yX8_size yX8_size : Cond) ∈ WL := in_2 (j := 39) rfl rfl
theorem q181 : (Cond.code yX8_size cX8_size 1 (some .int) : Cond) ∈ WL := in_2 (j := 40) rfl rfl
theorem q182 : (Cond.methodLink RX9 37 yX8_byteAt : Cond) ∈ WL := in_2 (j := 41) rfl rfl
theorem q183 : (Cond.instanceMethod yX8_byteAt : Cond) ∈ WL := in_2 (j := 42) rfl rfl
theorem q184 : (Cond.selects RX8 yX8_byteAt yX8_byteAt : Cond) ∈ WL := in_2 (j := 43) rfl rfl
theorem q185 : (Cond.code yX8_byteAt cX8_byteAt 2 (some .int) : Cond) ∈ WL := in_2 (j := 44) rfl rfl
theorem q186 : (Cond.methodLink RX9 41 yX9_grow : Cond) ∈ WL := in_2 (j := 45) rfl rfl
theorem q187 : (Cond.instanceMethod yX9_grow : Cond) ∈ WL := in_2 (j := 47) rfl rfl
theorem q188 : (Cond.selects RX9 yX9_grow yX9_grow : Cond) ∈ WL := in_s (j := 3) rfl rfl
theorem q189 : (Cond.code yX9_grow cX9_grow 3 (some .boolean) : Cond) ∈ WL := in_2 (j := 48) rfl rfl
theorem q190 : (Cond.methodLink RX9 45 yX7_ofLetter : Cond) ∈ WL := in_2 (j := 49) rfl rfl
theorem q191 : (Cond.static yX7_ofLetter : Cond) ∈ WL := in_2 (j := 50) rfl rfl
theorem q192 : (Cond.initialized RX7 : Cond) ∈ WL := in_1 (j := 13) rfl rfl
theorem q193 : (Cond.code yX7_ofLetter cX7_ofLetter 1 (some .int) : Cond) ∈ WL := in_2 (j := 51) rfl rfl
theorem q194 : (Cond.methodLink RX9 50 yX9_put : Cond) ∈ WL := in_2 (j := 52) rfl rfl
theorem q195 : (Cond.instanceMethod yX9_put : Cond) ∈ WL := in_2 (j := 53) rfl rfl
theorem q196 : (Cond.selects RX9 yX9_put yX9_put : Cond) ∈ WL := in_2 (j := 54) rfl rfl
theorem q197 : (Cond.code yX9_put cX9_put 3 (some .boolean) : Cond) ∈ WL := in_2 (j := 55) rfl rfl
theorem q198 : (Cond.methodLink RX9 60 yX9_has : Cond) ∈ WL := in_2 (j := 56) rfl rfl
theorem q199 : (Cond.instanceMethod yX9_has : Cond) ∈ WL := in_2 (j := 57) rfl rfl
theorem q200 : (Cond.selects RX9 yX9_has yX9_has : Cond) ∈ WL := in_2 (j := 58) rfl rfl
theorem q201 : (Cond.code yX9_has cX9_has 2 (some .boolean) : Cond) ∈ WL := in_2 (j := 59) rfl rfl
theorem q202 : (Cond.methodLink RX9 66 yX7_weightOf : Cond) ∈ WL := in_2 (j := 60) rfl rfl
theorem q203 : (Cond.static yX7_weightOf : Cond) ∈ WL := in_2 (j := 61) rfl rfl
theorem q204 : (Cond.code yX7_weightOf cX7_weightOf 1 (some .int) : Cond) ∈ WL := in_2 (j := 62) rfl rfl
theorem q205 : (Cond.methodLink RX9 69 yX7_pullOf : Cond) ∈ WL := in_2 (j := 63) rfl rfl
theorem q206 : (Cond.static yX7_pullOf : Cond) ∈ WL := in_2 (j := 64) rfl rfl
theorem q207 : (Cond.code yX7_pullOf cX7_pullOf 2 (some .int) : Cond) ∈ WL := in_2 (j := 65) rfl rfl
theorem q208 : (Cond.methodLink RX10 323 yX4_parse : Cond) ∈ WL := in_2 (j := 66) rfl rfl
theorem q209 : (Cond.instanceMethod yX4_parse : Cond) ∈ WL := in_2 (j := 67) rfl rfl
theorem q210 : (Cond.selects RX4 yX4_parse yX4_parse : Cond) ∈ WL := in_2 (j := 68) rfl rfl
theorem q211 : (Cond.code yX4_parse cX4_parse 4 (some .int) : Cond) ∈ WL := in_2 (j := 69) rfl rfl
theorem q212 : (Cond.methodLink RX4 28 yX8_size : Cond) ∈ WL := in_2 (j := 70) rfl rfl
theorem q213 : (Cond.methodLink RX4 34 yX8_byteAt : Cond) ∈ WL := in_2 (j := 71) rfl rfl
theorem q214 : (Cond.methodLink RX4 38 yX4_stateBehind : Cond) ∈ WL := in_2 (j := 72) rfl rfl
theorem q215 : (Cond.instanceMethod yX4_stateBehind : Cond) ∈ WL := in_2 (j := 74) rfl rfl
theorem q216 : (Cond.selects RX4 yX4_stateBehind yX4_stateBehind : Cond) ∈ WL := in_s (j := 4) rfl rfl
theorem q217 : (Cond.code yX4_stateBehind cX4_stateBehind 3 (some .int) : Cond) ∈ WL := in_2 (j := 75) rfl rfl
theorem q218 : (Cond.methodLink RX4 42 yX4_beginTurn : Cond) ∈ WL := in_2 (j := 76) rfl rfl
theorem q219 : (Cond.instanceMethod yX4_beginTurn : Cond) ∈ WL := in_2 (j := 78) rfl rfl
theorem q220 : (Cond.selects RX4 yX4_beginTurn yX4_beginTurn : Cond) ∈ WL := in_s (j := 5) rfl rfl
theorem q221 : (Cond.code yX4_beginTurn cX4_beginTurn 1 (some .boolean) : Cond) ∈ WL := in_2 (j := 79) rfl rfl
theorem q222 : (Cond.methodLink RX4 46 yX4_tellLetter : Cond) ∈ WL := in_2 (j := 80) rfl rfl
theorem q223 : (Cond.instanceMethod yX4_tellLetter : Cond) ∈ WL := in_2 (j := 82) rfl rfl
theorem q224 : (Cond.selects RX4 yX4_tellLetter yX4_tellLetter : Cond) ∈ WL := in_s (j := 6) rfl rfl
theorem q225 : (Cond.code yX4_tellLetter cX4_tellLetter 5 (some .int) : Cond) ∈ WL := in_2 (j := 83) rfl rfl
theorem q226 : (Cond.methodLink RX4 64 yX7_ofLetter : Cond) ∈ WL := in_2 (j := 84) rfl rfl
theorem q227 : (Cond.methodLink RX4 67 yX4_nextPart : Cond) ∈ WL := in_2 (j := 85) rfl rfl
theorem q228 : (Cond.instanceMethod yX4_nextPart : Cond) ∈ WL := in_2 (j := 87) rfl rfl
theorem q229 : (Cond.selects RX4 yX4_nextPart yX4_nextPart : Cond) ∈ WL := in_s (j := 7) rfl rfl
theorem q230 : (Cond.code yX4_nextPart cX4_nextPart 2 (some .int) : Cond) ∈ WL := in_2 (j := 88) rfl rfl
theorem q231 : (Cond.methodLink RX4 60 yX4_isTurn : Cond) ∈ WL := in_2 (j := 89) rfl rfl
theorem q232 : (Cond.instanceMethod yX4_isTurn : Cond) ∈ WL := in_2 (j := 91) rfl rfl
theorem q233 : (Cond.selects RX4 yX4_isTurn yX4_isTurn : Cond) ∈ WL := in_s (j := 8) rfl rfl
theorem q234 : (Cond.code yX4_isTurn cX4_isTurn 2 (some .boolean) : Cond) ∈ WL := in_2 (j := 92) rfl rfl
theorem q235 : (Cond.methodLink RX4 49 yX4_tellTake : Cond) ∈ WL := in_2 (j := 93) rfl rfl
theorem q236 : (Cond.instanceMethod yX4_tellTake : Cond) ∈ WL := in_2 (j := 95) rfl rfl
theorem q237 : (Cond.selects RX4 yX4_tellTake yX4_tellTake : Cond) ∈ WL := in_s (j := 9) rfl rfl
theorem q238 : (Cond.code yX4_tellTake cX4_tellTake 4 (some .int) : Cond) ∈ WL := in_2 (j := 96) rfl rfl
theorem q239 : (Cond.methodLink RX4 55 yX7_columnOf : Cond) ∈ WL := in_2 (j := 97) rfl rfl
theorem q240 : (Cond.static yX7_columnOf : Cond) ∈ WL := in_2 (j := 98) rfl rfl
theorem q241 : (Cond.code yX7_columnOf cX7_columnOf 1 (some .int) : Cond) ∈ WL := in_2 (j := 99) rfl rfl
theorem q242 : (Cond.methodLink RX4 52 yX4_tellPlace : Cond) ∈ WL := in_2 (j := 100) rfl rfl
theorem q243 : (Cond.instanceMethod yX4_tellPlace : Cond) ∈ WL := in_2 (j := 102) rfl rfl
theorem q244 : (Cond.selects RX4 yX4_tellPlace yX4_tellPlace : Cond) ∈ WL := in_s (j := 10) rfl rfl
theorem q245 : (Cond.code yX4_tellPlace cX4_tellPlace 5 (some .int) : Cond) ∈ WL := in_2 (j := 103) rfl rfl
theorem q246 : (Cond.methodLink RX10 117 yX1_replay : Cond) ∈ WL := in_2 (j := 104) rfl rfl
theorem q247 : (Cond.instanceMethod yX1_replay : Cond) ∈ WL := in_2 (j := 105) rfl rfl
theorem q248 : (Cond.selects RX1 yX1_replay yX1_replay : Cond) ∈ WL := in_2 (j := 106) rfl rfl
theorem q249 : (Cond.code yX1_replay cX1_replay 6 none : Cond) ∈ WL := in_2 (j := 107) rfl rfl
theorem q250 : (Cond.methodLink RX1 33 Lib.Math.min.name : Cond) ∈ WL := in_2 (j := 112) rfl rfl
theorem q251 : (Cond.methodLink RX1 53 yX4_turnCount : Cond) ∈ WL := in_2 (j := 108) rfl rfl
theorem q252 : (Cond.instanceMethod yX4_turnCount : Cond) ∈ WL := in_2 (j := 109) rfl rfl
theorem q253 : (Cond.selects RX4 yX4_turnCount yX4_turnCount : Cond) ∈ WL := in_2 (j := 110) rfl rfl
theorem q254 : (Cond.code yX4_turnCount cX4_turnCount 1 (some .int) : Cond) ∈ WL := in_2 (j := 111) rfl rfl
theorem q255 : (Cond.methodLink RX1 59 yX9_become : Cond) ∈ WL := in_2 (j := 113) rfl rfl
theorem q256 : (Cond.instanceMethod yX9_become : Cond) ∈ WL := in_2 (j := 114) rfl rfl
theorem q257 : (Cond.selects RX9 yX9_become yX9_become : Cond) ∈ WL := in_2 (j := 115) rfl rfl
theorem q258 : (Cond.code yX9_become cX9_become 2 none : Cond) ∈ WL := in_2 (j := 116) rfl rfl
theorem q259 : (Cond.methodLink RX9 54 arraycopyName : Cond) ∈ WL := in_2 (j := 117) rfl rfl
theorem q260 : (Cond.native arraycopyName : Cond) ∈ WL := in_2 (j := 119) rfl rfl
theorem q261 : (Cond.static arraycopyName : Cond) ∈ WL := in_2 (j := 118) rfl rfl
theorem q262 : (Cond.initialized "java/lang/System" : Cond) ∈ WL := in_1 (j := 14) rfl rfl
theorem q263 : (Cond.methodLink RX1 63 yX3_brotherOf : Cond) ∈ WL := in_2 (j := 120) rfl rfl
theorem q264 : (Cond.instanceMethod yX3_brotherOf : Cond) ∈ WL := in_2 (j := 121) rfl rfl
theorem q265 : (Cond.selects RX3 yX3_brotherOf yX3_brotherOf : Cond) ∈ WL := in_2 (j := 122) rfl rfl
theorem q266 : (Cond.code yX3_brotherOf cX3_brotherOf 2 (some .int) : Cond) ∈ WL := in_2 (j := 123) rfl rfl
theorem q267 : (Cond.methodLink RX3 20 yX3_value : Cond) ∈ WL := in_2 (j := 124) rfl rfl
theorem q268 : (Cond.instanceMethod yX3_value : Cond) ∈ WL := in_2 (j := 125) rfl rfl
theorem q269 : (Cond.selects RX3 yX3_value yX3_value : Cond) ∈ WL := in_2 (j := 126) rfl rfl
theorem q270 : (Cond.code yX3_value cX3_value 2 (some .int) : Cond) ∈ WL := in_2 (j := 127) rfl rfl
theorem q271 : (Cond.methodLink RX1 68 yX4_doTake : Cond) ∈ WL := in_2 (j := 128) rfl rfl
theorem q272 : (Cond.instanceMethod yX4_doTake : Cond) ∈ WL := in_2 (j := 129) rfl rfl
theorem q273 : (Cond.selects RX4 yX4_doTake yX4_doTake : Cond) ∈ WL := in_2 (j := 130) rfl rfl
theorem q274 : (Cond.code yX4_doTake cX4_doTake 4 (some .int) : Cond) ∈ WL := in_2 (j := 131) rfl rfl
theorem q275 : (Cond.methodLink RX4 70 yX9_takeFromOther : Cond) ∈ WL := in_2 (j := 132) rfl rfl
theorem q276 : (Cond.instanceMethod yX9_takeFromOther : Cond) ∈ WL := in_2 (j := 133) rfl rfl
theorem q277 : (Cond.selects RX9 yX9_takeFromOther yX9_takeFromOther : Cond) ∈ WL := in_2 (j := 134) rfl rfl
theorem q278 : (Cond.code yX9_takeFromOther cX9_takeFromOther 4 (some .boolean) : Cond) ∈ WL := in_2 (j := 135) rfl rfl
theorem q279 : (Cond.methodLink RX9 72 yX9_uppermost : Cond) ∈ WL := in_2 (j := 136) rfl rfl
theorem q280 : (Cond.instanceMethod yX9_uppermost : Cond) ∈ WL := in_2 (j := 137) rfl rfl
theorem q281 : (Cond.selects RX9 yX9_uppermost yX9_uppermost : Cond) ∈ WL := in_2 (j := 138) rfl rfl
theorem q282 : (Cond.code yX9_uppermost cX9_uppermost 3 (some .int) : Cond) ∈ WL := in_2 (j := 139) rfl rfl
theorem q283 : (Cond.methodLink RX9 75 yX7_ownerOf : Cond) ∈ WL := in_2 (j := 140) rfl rfl
theorem q284 : (Cond.static yX7_ownerOf : Cond) ∈ WL := in_2 (j := 141) rfl rfl
theorem q285 : (Cond.code yX7_ownerOf cX7_ownerOf 1 (some .int) : Cond) ∈ WL := in_2 (j := 142) rfl rfl
theorem q286 : (Cond.methodLink RX9 78 yX9_take : Cond) ∈ WL := in_2 (j := 143) rfl rfl
theorem q287 : (Cond.instanceMethod yX9_take : Cond) ∈ WL := in_2 (j := 144) rfl rfl
theorem q288 : (Cond.selects RX9 yX9_take yX9_take : Cond) ∈ WL := in_2 (j := 145) rfl rfl
theorem q289 : (Cond.code yX9_take cX9_take 3 (some .int) : Cond) ∈ WL := in_2 (j := 146) rfl rfl
theorem q290 : (Cond.methodLink RX1 72 yX4_doLays : Cond) ∈ WL := in_2 (j := 147) rfl rfl
theorem q291 : (Cond.instanceMethod yX4_doLays : Cond) ∈ WL := in_2 (j := 148) rfl rfl
theorem q292 : (Cond.selects RX4 yX4_doLays yX4_doLays : Cond) ∈ WL := in_2 (j := 149) rfl rfl
theorem q293 : (Cond.code yX4_doLays cX4_doLays 7 (some .int) : Cond) ∈ WL := in_2 (j := 150) rfl rfl
theorem q294 : (Cond.methodLink RX4 76 yX7_ownerOf : Cond) ∈ WL := in_2 (j := 151) rfl rfl
theorem q295 : (Cond.methodLink RX4 79 yX9_put : Cond) ∈ WL := in_2 (j := 152) rfl rfl
theorem q296 : (Cond.methodLink RX10 95 yX8_size : Cond) ∈ WL := in_2 (j := 153) rfl rfl
theorem q297 : (Cond.methodLink RL 17 yX11_type : Cond) ∈ WL := in_5 (j := 19) rfl rfl
theorem q298 : (Cond.instanceMethod yX11_type : Cond) ∈ WL := in_5 (j := 20) rfl rfl
theorem q299 : (Cond.selects RX11 yX11_type yX11_type : Cond) ∈ WL := in_5 (j := 21) rfl rfl
theorem q300 : (Cond.code yX11_type cX11_type 3 (some .int) : Cond) ∈ WL := in_5 (j := 22) rfl rfl
theorem q301 : (Cond.constantLong RX11 89 (255) : Cond) ∈ WL := in_5 (j := 26) rfl rfl
theorem q302 : (Cond.methodLink RX11 86 yX11_isTwo : Cond) ∈ WL := in_5 (j := 23) rfl rfl
theorem q303 : (Cond.static yX11_isTwo : Cond) ∈ WL := in_5 (j := 24) rfl rfl
theorem q304 : (Cond.code yX11_isTwo cX11_isTwo 1 (some .boolean) : Cond) ∈ WL := in_5 (j := 25) rfl rfl
theorem q305 : (Cond.methodLink RX11 58 yX11_in : Cond) ∈ WL := in_4 (j := 227) rfl rfl
theorem q306 : (Cond.static yX11_in : Cond) ∈ WL := in_4 (j := 228) rfl rfl
theorem q307 : (Cond.code yX11_in cX11_in 6 (some .boolean) : Cond) ∈ WL := in_4 (j := 229) rfl rfl
theorem q308 : (Cond.methodLink RL 18 yX10_wipe : Cond) ∈ WL := in_2 (j := 154) rfl rfl
theorem q309 : (Cond.instanceMethod yX10_wipe : Cond) ∈ WL := in_2 (j := 155) rfl rfl
theorem q310 : (Cond.selects RX10 yX10_wipe yX10_wipe : Cond) ∈ WL := in_2 (j := 156) rfl rfl
theorem q311 : (Cond.code yX10_wipe cX10_wipe 4 (some .int) : Cond) ∈ WL := in_2 (j := 157) rfl rfl
theorem q312 : (Cond.methodLink RX10 99 yX8_clear : Cond) ∈ WL := in_2 (j := 158) rfl rfl
theorem q313 : (Cond.instanceMethod yX8_clear : Cond) ∈ WL := in_2 (j := 159) rfl rfl
theorem q314 : (Cond.selects RX8 yX8_clear yX8_clear : Cond) ∈ WL := in_2 (j := 160) rfl rfl
theorem q315 : (Cond.code yX8_clear cX8_clear 1 none : Cond) ∈ WL := in_2 (j := 161) rfl rfl
theorem q316 : (Cond.methodLink RL 22 yX11_wipe : Cond) ∈ WL := in_5 (j := 27) rfl rfl
theorem q317 : (Cond.instanceMethod yX11_wipe : Cond) ∈ WL := in_5 (j := 28) rfl rfl
theorem q318 : (Cond.selects RX11 yX11_wipe yX11_wipe : Cond) ∈ WL := in_5 (j := 29) rfl rfl
theorem q319 : (Cond.code yX11_wipe cX11_wipe 3 (some .int) : Cond) ∈ WL := in_5 (j := 30) rfl rfl
theorem q320 : (Cond.methodLink RL 23 yX10_undo : Cond) ∈ WL := in_2 (j := 162) rfl rfl
theorem q321 : (Cond.instanceMethod yX10_undo : Cond) ∈ WL := in_2 (j := 163) rfl rfl
theorem q322 : (Cond.selects RX10 yX10_undo yX10_undo : Cond) ∈ WL := in_2 (j := 164) rfl rfl
theorem q323 : (Cond.code yX10_undo cX10_undo 3 (some .int) : Cond) ∈ WL := in_2 (j := 165) rfl rfl
theorem q324 : (Cond.methodLink RX10 102 yX8_cut : Cond) ∈ WL := in_2 (j := 166) rfl rfl
theorem q325 : (Cond.instanceMethod yX8_cut : Cond) ∈ WL := in_2 (j := 167) rfl rfl
theorem q326 : (Cond.selects RX8 yX8_cut yX8_cut : Cond) ∈ WL := in_2 (j := 168) rfl rfl
theorem q327 : (Cond.code yX8_cut cX8_cut 1 none : Cond) ∈ WL := in_2 (j := 169) rfl rfl
theorem q328 : (Cond.methodLink RL 26 yX11_undo : Cond) ∈ WL := in_5 (j := 31) rfl rfl
theorem q329 : (Cond.instanceMethod yX11_undo : Cond) ∈ WL := in_5 (j := 32) rfl rfl
theorem q330 : (Cond.selects RX11 yX11_undo yX11_undo : Cond) ∈ WL := in_5 (j := 33) rfl rfl
theorem q331 : (Cond.code yX11_undo cX11_undo 2 (some .int) : Cond) ∈ WL := in_5 (j := 34) rfl rfl
theorem q332 : (Cond.methodLink RL 27 yX10_fault : Cond) ∈ WL := in_2 (j := 170) rfl rfl
theorem q333 : (Cond.instanceMethod yX10_fault : Cond) ∈ WL := in_2 (j := 171) rfl rfl
theorem q334 : (Cond.selects RX10 yX10_fault yX10_fault : Cond) ∈ WL := in_2 (j := 172) rfl rfl
theorem q335 : (Cond.code yX10_fault cX10_fault 2 (some .int) : Cond) ∈ WL := in_2 (j := 173) rfl rfl
theorem q336 : (Cond.methodLink RL 30 yX11_fault : Cond) ∈ WL := in_5 (j := 35) rfl rfl
theorem q337 : (Cond.instanceMethod yX11_fault : Cond) ∈ WL := in_5 (j := 36) rfl rfl
theorem q338 : (Cond.selects RX11 yX11_fault yX11_fault : Cond) ∈ WL := in_5 (j := 37) rfl rfl
theorem q339 : (Cond.code yX11_fault cX11_fault 2 (some .int) : Cond) ∈ WL := in_5 (j := 38) rfl rfl
theorem q340 : (Cond.methodLink RX11 118 yX11_readsWall : Cond) ∈ WL := in_5 (j := 39) rfl rfl
theorem q341 : (Cond.instanceMethod yX11_readsWall : Cond) ∈ WL := in_5 (j := 41) rfl rfl
theorem q342 : (Cond.selects RX11 yX11_readsWall yX11_readsWall : Cond) ∈ WL := in_s (j := 22) rfl rfl
theorem q343 : (Cond.code yX11_readsWall cX11_readsWall 5 (some .int) : Cond) ∈ WL := in_5 (j := 42) rfl rfl
theorem q344 : (Cond.fieldLink RX11 91 "WallTurnsModel" "columns" "I" : Cond) ∈ WL := in_4 (j := 154) rfl rfl
theorem q345 : (Cond.methodLink RX11 94 yX11_stoneOf : Cond) ∈ WL := in_5 (j := 43) rfl rfl
theorem q346 : (Cond.static yX11_stoneOf : Cond) ∈ WL := in_5 (j := 44) rfl rfl
theorem q347 : (Cond.code yX11_stoneOf cX11_stoneOf 1 (some .int) : Cond) ∈ WL := in_5 (j := 45) rfl rfl
theorem q348 : (Cond.methodLink RX11 121 yX11_readsTurns : Cond) ∈ WL := in_5 (j := 46) rfl rfl
theorem q349 : (Cond.instanceMethod yX11_readsTurns : Cond) ∈ WL := in_5 (j := 48) rfl rfl
theorem q350 : (Cond.selects RX11 yX11_readsTurns yX11_readsTurns : Cond) ∈ WL := in_s (j := 23) rfl rfl
theorem q351 : (Cond.code yX11_readsTurns cX11_readsTurns 3 (some .int) : Cond) ∈ WL := in_5 (j := 49) rfl rfl
theorem q352 : (Cond.fieldLink RX11 97 "WallTurnsModel" "at" "I" : Cond) ∈ WL := in_4 (j := 153) rfl rfl
theorem q353 : (Cond.fieldLink RX11 108 "WallTurnsModel" "turns" "I" : Cond) ∈ WL := in_4 (j := 157) rfl rfl
theorem q354 : (Cond.methodLink RX11 114 yX11_readsTurn : Cond) ∈ WL := in_5 (j := 50) rfl rfl
theorem q355 : (Cond.instanceMethod yX11_readsTurn : Cond) ∈ WL := in_5 (j := 52) rfl rfl
theorem q356 : (Cond.selects RX11 yX11_readsTurn yX11_readsTurn : Cond) ∈ WL := in_s (j := 24) rfl rfl
theorem q357 : (Cond.code yX11_readsTurn cX11_readsTurn 3 (some .boolean) : Cond) ∈ WL := in_5 (j := 53) rfl rfl
theorem q358 : (Cond.methodLink RX11 100 yX11_here : Cond) ∈ WL := in_5 (j := 54) rfl rfl
theorem q359 : (Cond.instanceMethod yX11_here : Cond) ∈ WL := in_5 (j := 56) rfl rfl
theorem q360 : (Cond.selects RX11 yX11_here yX11_here : Cond) ∈ WL := in_s (j := 25) rfl rfl
theorem q361 : (Cond.code yX11_here cX11_here 1 (some .int) : Cond) ∈ WL := in_5 (j := 57) rfl rfl
theorem q362 : (Cond.methodLink RX11 111 yX11_figure : Cond) ∈ WL := in_5 (j := 58) rfl rfl
theorem q363 : (Cond.instanceMethod yX11_figure : Cond) ∈ WL := in_5 (j := 60) rfl rfl
theorem q364 : (Cond.selects RX11 yX11_figure yX11_figure : Cond) ∈ WL := in_s (j := 26) rfl rfl
theorem q365 : (Cond.code yX11_figure cX11_figure 2 (some .int) : Cond) ∈ WL := in_5 (j := 61) rfl rfl
theorem q366 : (Cond.constantLong RX11 104 (48) : Cond) ∈ WL := in_5 (j := 62) rfl rfl
theorem q367 : (Cond.constantLong RX11 106 (55) : Cond) ∈ WL := in_5 (j := 63) rfl rfl
theorem q368 : (Cond.methodLink RL 31 yX10_set : Cond) ∈ WL := in_2 (j := 174) rfl rfl
theorem q369 : (Cond.instanceMethod yX10_set : Cond) ∈ WL := in_2 (j := 175) rfl rfl
theorem q370 : (Cond.selects RX10 yX10_set yX10_set : Cond) ∈ WL := in_2 (j := 176) rfl rfl
theorem q371 : (Cond.code yX10_set cX10_set 4 (some .int) : Cond) ∈ WL := in_2 (j := 177) rfl rfl
theorem q372 : (Cond.methodLink RX10 105 yX3_allows : Cond) ∈ WL := in_2 (j := 178) rfl rfl
theorem q373 : (Cond.static yX3_allows : Cond) ∈ WL := in_2 (j := 179) rfl rfl
theorem q374 : (Cond.code yX3_allows cX3_allows 2 (some .boolean) : Cond) ∈ WL := in_2 (j := 180) rfl rfl
theorem q375 : (Cond.fieldLink RX3 13 "WallTurns$Rules" "MOST" "[I" : Cond) ∈ WL := in_2 (j := 181) rfl rfl
theorem q376 : (Cond.methodLink RX10 109 yX3_value : Cond) ∈ WL := in_2 (j := 183) rfl rfl
theorem q377 : (Cond.methodLink RX10 113 yX3_become : Cond) ∈ WL := in_2 (j := 184) rfl rfl
theorem q378 : (Cond.instanceMethod yX3_become : Cond) ∈ WL := in_2 (j := 185) rfl rfl
theorem q379 : (Cond.selects RX3 yX3_become yX3_become : Cond) ∈ WL := in_2 (j := 186) rfl rfl
theorem q380 : (Cond.code yX3_become cX3_become 3 none : Cond) ∈ WL := in_2 (j := 187) rfl rfl
theorem q381 : (Cond.methodLink RX3 16 yX3_allows : Cond) ∈ WL := in_2 (j := 188) rfl rfl
theorem q382 : (Cond.methodLink RL 34 yX11_set : Cond) ∈ WL := in_5 (j := 64) rfl rfl
theorem q383 : (Cond.instanceMethod yX11_set : Cond) ∈ WL := in_5 (j := 65) rfl rfl
theorem q384 : (Cond.selects RX11 yX11_set yX11_set : Cond) ∈ WL := in_5 (j := 66) rfl rfl
theorem q385 : (Cond.code yX11_set cX11_set 4 (some .int) : Cond) ∈ WL := in_5 (j := 67) rfl rfl
theorem q386 : (Cond.constantLong RX11 124 (5) : Cond) ∈ WL := in_5 (j := 68) rfl rfl
theorem q387 : (Cond.methodLink RX11 126 yX11_mostOf : Cond) ∈ WL := in_5 (j := 69) rfl rfl
theorem q388 : (Cond.static yX11_mostOf : Cond) ∈ WL := in_5 (j := 70) rfl rfl
theorem q389 : (Cond.code yX11_mostOf cX11_mostOf 1 (some .int) : Cond) ∈ WL := in_5 (j := 71) rfl rfl
theorem q390 : (Cond.methodLink RL 35 yX10_height : Cond) ∈ WL := in_2 (j := 189) rfl rfl
theorem q391 : (Cond.instanceMethod yX10_height : Cond) ∈ WL := in_2 (j := 190) rfl rfl
theorem q392 : (Cond.selects RX10 yX10_height yX10_height : Cond) ∈ WL := in_2 (j := 191) rfl rfl
theorem q393 : (Cond.code yX10_height cX10_height 4 (some .int) : Cond) ∈ WL := in_2 (j := 192) rfl rfl
theorem q394 : (Cond.methodLink RX10 121 yX1_wallBehind : Cond) ∈ WL := in_2 (j := 193) rfl rfl
theorem q395 : (Cond.instanceMethod yX1_wallBehind : Cond) ∈ WL := in_2 (j := 194) rfl rfl
theorem q396 : (Cond.selects RX1 yX1_wallBehind yX1_wallBehind : Cond) ∈ WL := in_2 (j := 195) rfl rfl
theorem q397 : (Cond.code yX1_wallBehind cX1_wallBehind 2 (some (.object "WallTurns$Wall")) : Cond) ∈ WL := in_2 (j := 196) rfl rfl
theorem q398 : (Cond.methodLink RX10 125 yX9_has : Cond) ∈ WL := in_2 (j := 197) rfl rfl
theorem q399 : (Cond.methodLink RX10 131 yX9_heightOf : Cond) ∈ WL := in_2 (j := 198) rfl rfl
theorem q400 : (Cond.instanceMethod yX9_heightOf : Cond) ∈ WL := in_2 (j := 199) rfl rfl
theorem q401 : (Cond.selects RX9 yX9_heightOf yX9_heightOf : Cond) ∈ WL := in_2 (j := 200) rfl rfl
theorem q402 : (Cond.code yX9_heightOf cX9_heightOf 2 (some .int) : Cond) ∈ WL := in_2 (j := 201) rfl rfl
theorem q403 : (Cond.methodLink RL 38 yX11_height : Cond) ∈ WL := in_5 (j := 72) rfl rfl
theorem q404 : (Cond.instanceMethod yX11_height : Cond) ∈ WL := in_5 (j := 73) rfl rfl
theorem q405 : (Cond.selects RX11 yX11_height yX11_height : Cond) ∈ WL := in_5 (j := 74) rfl rfl
theorem q406 : (Cond.code yX11_height cX11_height 3 (some .int) : Cond) ∈ WL := in_5 (j := 75) rfl rfl
theorem q407 : (Cond.methodLink RX11 177 yX11_reads : Cond) ∈ WL := in_5 (j := 76) rfl rfl
theorem q408 : (Cond.instanceMethod yX11_reads : Cond) ∈ WL := in_5 (j := 78) rfl rfl
theorem q409 : (Cond.selects RX11 yX11_reads yX11_reads : Cond) ∈ WL := in_s (j := 27) rfl rfl
theorem q410 : (Cond.code yX11_reads cX11_reads 1 none : Cond) ∈ WL := in_5 (j := 79) rfl rfl
theorem q411 : (Cond.methodLink RX11 180 yX11_areTurns : Cond) ∈ WL := in_5 (j := 80) rfl rfl
theorem q412 : (Cond.instanceMethod yX11_areTurns : Cond) ∈ WL := in_5 (j := 82) rfl rfl
theorem q413 : (Cond.selects RX11 yX11_areTurns yX11_areTurns : Cond) ∈ WL := in_s (j := 28) rfl rfl
theorem q414 : (Cond.code yX11_areTurns cX11_areTurns 2 (some .boolean) : Cond) ∈ WL := in_5 (j := 83) rfl rfl
theorem q415 : (Cond.methodLink RX11 183 yX11_isColumn : Cond) ∈ WL := in_5 (j := 84) rfl rfl
theorem q416 : (Cond.instanceMethod yX11_isColumn : Cond) ∈ WL := in_5 (j := 86) rfl rfl
theorem q417 : (Cond.selects RX11 yX11_isColumn yX11_isColumn : Cond) ∈ WL := in_s (j := 29) rfl rfl
theorem q418 : (Cond.code yX11_isColumn cX11_isColumn 2 (some .boolean) : Cond) ∈ WL := in_5 (j := 87) rfl rfl
theorem q419 : (Cond.methodLink RX11 186 yX11_heightOf : Cond) ∈ WL := in_5 (j := 88) rfl rfl
theorem q420 : (Cond.instanceMethod yX11_heightOf : Cond) ∈ WL := in_5 (j := 90) rfl rfl
theorem q421 : (Cond.selects RX11 yX11_heightOf yX11_heightOf : Cond) ∈ WL := in_s (j := 30) rfl rfl
theorem q422 : (Cond.code yX11_heightOf cX11_heightOf 3 (some .int) : Cond) ∈ WL := in_5 (j := 91) rfl rfl
theorem q423 : (Cond.methodLink RX11 174 yX11_lives : Cond) ∈ WL := in_5 (j := 92) rfl rfl
theorem q424 : (Cond.instanceMethod yX11_lives : Cond) ∈ WL := in_5 (j := 94) rfl rfl
theorem q425 : (Cond.selects RX11 yX11_lives yX11_lives : Cond) ∈ WL := in_s (j := 31) rfl rfl
theorem q426 : (Cond.code yX11_lives cX11_lives 3 none : Cond) ∈ WL := in_5 (j := 95) rfl rfl
theorem q427 : (Cond.methodLink RX11 149 yX11_begins : Cond) ∈ WL := in_5 (j := 96) rfl rfl
theorem q428 : (Cond.instanceMethod yX11_begins : Cond) ∈ WL := in_5 (j := 98) rfl rfl
theorem q429 : (Cond.selects RX11 yX11_begins yX11_begins : Cond) ∈ WL := in_s (j := 32) rfl rfl
theorem q430 : (Cond.code yX11_begins cX11_begins 2 none : Cond) ∈ WL := in_5 (j := 99) rfl rfl
theorem q431 : (Cond.methodLink RX11 152 yX11_goes : Cond) ∈ WL := in_5 (j := 100) rfl rfl
theorem q432 : (Cond.instanceMethod yX11_goes : Cond) ∈ WL := in_5 (j := 102) rfl rfl
theorem q433 : (Cond.selects RX11 yX11_goes yX11_goes : Cond) ∈ WL := in_s (j := 33) rfl rfl
theorem q434 : (Cond.code yX11_goes cX11_goes 5 none : Cond) ∈ WL := in_5 (j := 103) rfl rfl
theorem q435 : (Cond.fieldLink RX11 129 "WallTurnsModel" "otherHow" "I" : Cond) ∈ WL := in_4 (j := 165) rfl rfl
theorem q436 : (Cond.fieldLink RX11 139 "WallTurnsModel" "took" "I" : Cond) ∈ WL := in_4 (j := 162) rfl rfl
theorem q437 : (Cond.fieldLink RX11 142 "WallTurnsModel" "laid" "I" : Cond) ∈ WL := in_4 (j := 163) rfl rfl
theorem q438 : (Cond.methodLink RX11 132 yX11_whoseTurn : Cond) ∈ WL := in_5 (j := 104) rfl rfl
theorem q439 : (Cond.instanceMethod yX11_whoseTurn : Cond) ∈ WL := in_5 (j := 106) rfl rfl
theorem q440 : (Cond.selects RX11 yX11_whoseTurn yX11_whoseTurn : Cond) ∈ WL := in_s (j := 34) rfl rfl
theorem q441 : (Cond.code yX11_whoseTurn cX11_whoseTurn 3 (some .int) : Cond) ∈ WL := in_5 (j := 107) rfl rfl
theorem q442 : (Cond.methodLink RX11 135 yX11_takes : Cond) ∈ WL := in_5 (j := 108) rfl rfl
theorem q443 : (Cond.instanceMethod yX11_takes : Cond) ∈ WL := in_5 (j := 110) rfl rfl
theorem q444 : (Cond.selects RX11 yX11_takes yX11_takes : Cond) ∈ WL := in_s (j := 35) rfl rfl
theorem q445 : (Cond.code yX11_takes cX11_takes 4 (some .boolean) : Cond) ∈ WL := in_5 (j := 111) rfl rfl
theorem q446 : (Cond.methodLink RX11 145 yX11_lays : Cond) ∈ WL := in_5 (j := 112) rfl rfl
theorem q447 : (Cond.instanceMethod yX11_lays : Cond) ∈ WL := in_5 (j := 114) rfl rfl
theorem q448 : (Cond.selects RX11 yX11_lays yX11_lays : Cond) ∈ WL := in_s (j := 36) rfl rfl
theorem q449 : (Cond.code yX11_lays cX11_lays 5 (some .boolean) : Cond) ∈ WL := in_5 (j := 115) rfl rfl
theorem q450 : (Cond.methodLink RX11 159 yX11_highOf : Cond) ∈ WL := in_5 (j := 116) rfl rfl
theorem q451 : (Cond.instanceMethod yX11_highOf : Cond) ∈ WL := in_5 (j := 118) rfl rfl
theorem q452 : (Cond.selects RX11 yX11_highOf yX11_highOf : Cond) ∈ WL := in_s (j := 37) rfl rfl
theorem q453 : (Cond.code yX11_highOf cX11_highOf 4 (some .int) : Cond) ∈ WL := in_5 (j := 119) rfl rfl
theorem q454 : (Cond.methodLink RX11 156 yX11_weight : Cond) ∈ WL := in_5 (j := 120) rfl rfl
theorem q455 : (Cond.static yX11_weight : Cond) ∈ WL := in_5 (j := 121) rfl rfl
theorem q456 : (Cond.code yX11_weight cX11_weight 1 (some .int) : Cond) ∈ WL := in_5 (j := 122) rfl rfl
theorem q457 : (Cond.methodLink RL 39 yX10_lean : Cond) ∈ WL := in_2 (j := 202) rfl rfl
theorem q458 : (Cond.instanceMethod yX10_lean : Cond) ∈ WL := in_2 (j := 203) rfl rfl
theorem q459 : (Cond.selects RX10 yX10_lean yX10_lean : Cond) ∈ WL := in_2 (j := 204) rfl rfl
theorem q460 : (Cond.code yX10_lean cX10_lean 4 (some .int) : Cond) ∈ WL := in_2 (j := 205) rfl rfl
theorem q461 : (Cond.methodLink RX10 134 yX9_leanOf : Cond) ∈ WL := in_2 (j := 206) rfl rfl
theorem q462 : (Cond.instanceMethod yX9_leanOf : Cond) ∈ WL := in_2 (j := 207) rfl rfl
theorem q463 : (Cond.selects RX9 yX9_leanOf yX9_leanOf : Cond) ∈ WL := in_2 (j := 208) rfl rfl
theorem q464 : (Cond.code yX9_leanOf cX9_leanOf 2 (some .int) : Cond) ∈ WL := in_2 (j := 209) rfl rfl
theorem q465 : (Cond.methodLink RL 42 yX11_lean : Cond) ∈ WL := in_5 (j := 123) rfl rfl
theorem q466 : (Cond.instanceMethod yX11_lean : Cond) ∈ WL := in_5 (j := 124) rfl rfl
theorem q467 : (Cond.selects RX11 yX11_lean yX11_lean : Cond) ∈ WL := in_5 (j := 125) rfl rfl
theorem q468 : (Cond.code yX11_lean cX11_lean 3 (some .int) : Cond) ∈ WL := in_5 (j := 126) rfl rfl
theorem q469 : (Cond.methodLink RX11 189 yX11_leanBehind : Cond) ∈ WL := in_5 (j := 127) rfl rfl
theorem q470 : (Cond.instanceMethod yX11_leanBehind : Cond) ∈ WL := in_5 (j := 129) rfl rfl
theorem q471 : (Cond.selects RX11 yX11_leanBehind yX11_leanBehind : Cond) ∈ WL := in_s (j := 38) rfl rfl
theorem q472 : (Cond.code yX11_leanBehind cX11_leanBehind 3 (some .int) : Cond) ∈ WL := in_5 (j := 130) rfl rfl
theorem q473 : (Cond.methodLink RX11 165 yX11_leanOf : Cond) ∈ WL := in_5 (j := 131) rfl rfl
theorem q474 : (Cond.instanceMethod yX11_leanOf : Cond) ∈ WL := in_5 (j := 133) rfl rfl
theorem q475 : (Cond.selects RX11 yX11_leanOf yX11_leanOf : Cond) ∈ WL := in_s (j := 39) rfl rfl
theorem q476 : (Cond.code yX11_leanOf cX11_leanOf 5 (some .int) : Cond) ∈ WL := in_5 (j := 134) rfl rfl
theorem q477 : (Cond.methodLink RL 43 yX10_stone : Cond) ∈ WL := in_2 (j := 210) rfl rfl
theorem q478 : (Cond.instanceMethod yX10_stone : Cond) ∈ WL := in_2 (j := 211) rfl rfl
theorem q479 : (Cond.selects RX10 yX10_stone yX10_stone : Cond) ∈ WL := in_2 (j := 212) rfl rfl
theorem q480 : (Cond.code yX10_stone cX10_stone 5 (some .int) : Cond) ∈ WL := in_2 (j := 213) rfl rfl
theorem q481 : (Cond.methodLink RX10 137 yX9_sizeOf : Cond) ∈ WL := in_2 (j := 214) rfl rfl
theorem q482 : (Cond.instanceMethod yX9_sizeOf : Cond) ∈ WL := in_2 (j := 215) rfl rfl
theorem q483 : (Cond.selects RX9 yX9_sizeOf yX9_sizeOf : Cond) ∈ WL := in_2 (j := 216) rfl rfl
theorem q484 : (Cond.code yX9_sizeOf cX9_sizeOf 2 (some .int) : Cond) ∈ WL := in_2 (j := 217) rfl rfl
theorem q485 : (Cond.methodLink RX10 140 yX9_stoneAt : Cond) ∈ WL := in_2 (j := 218) rfl rfl
theorem q486 : (Cond.instanceMethod yX9_stoneAt : Cond) ∈ WL := in_2 (j := 219) rfl rfl
theorem q487 : (Cond.selects RX9 yX9_stoneAt yX9_stoneAt : Cond) ∈ WL := in_2 (j := 220) rfl rfl
theorem q488 : (Cond.code yX9_stoneAt cX9_stoneAt 3 (some .int) : Cond) ∈ WL := in_2 (j := 221) rfl rfl
theorem q489 : (Cond.methodLink RX9 63 yX9_sizeOf : Cond) ∈ WL := in_2 (j := 222) rfl rfl
theorem q490 : (Cond.methodLink RL 47 yX11_stone : Cond) ∈ WL := in_5 (j := 135) rfl rfl
theorem q491 : (Cond.instanceMethod yX11_stone : Cond) ∈ WL := in_5 (j := 136) rfl rfl
theorem q492 : (Cond.selects RX11 yX11_stone yX11_stone : Cond) ∈ WL := in_5 (j := 137) rfl rfl
theorem q493 : (Cond.code yX11_stone cX11_stone 4 (some .int) : Cond) ∈ WL := in_5 (j := 138) rfl rfl
theorem q494 : (Cond.constantLong RX11 192 (-1) : Cond) ∈ WL := in_5 (j := 139) rfl rfl
theorem q495 : (Cond.constantLong RX11 194 (7) : Cond) ∈ WL := in_5 (j := 140) rfl rfl
theorem q496 : (Cond.methodLink RX11 196 yX11_stoneBehind : Cond) ∈ WL := in_5 (j := 141) rfl rfl
theorem q497 : (Cond.instanceMethod yX11_stoneBehind : Cond) ∈ WL := in_5 (j := 143) rfl rfl
theorem q498 : (Cond.selects RX11 yX11_stoneBehind yX11_stoneBehind : Cond) ∈ WL := in_s (j := 40) rfl rfl
theorem q499 : (Cond.code yX11_stoneBehind cX11_stoneBehind 4 (some .int) : Cond) ∈ WL := in_5 (j := 144) rfl rfl
theorem q500 : (Cond.methodLink RL 48 yX10_behind : Cond) ∈ WL := in_2 (j := 223) rfl rfl
theorem q501 : (Cond.instanceMethod yX10_behind : Cond) ∈ WL := in_2 (j := 224) rfl rfl
theorem q502 : (Cond.selects RX10 yX10_behind yX10_behind : Cond) ∈ WL := in_2 (j := 225) rfl rfl
theorem q503 : (Cond.code yX10_behind cX10_behind 4 (some .int) : Cond) ∈ WL := in_2 (j := 226) rfl rfl
theorem q504 : (Cond.methodLink RX10 144 yX9_weakBits : Cond) ∈ WL := in_2 (j := 227) rfl rfl
theorem q505 : (Cond.instanceMethod yX9_weakBits : Cond) ∈ WL := in_2 (j := 228) rfl rfl
theorem q506 : (Cond.selects RX9 yX9_weakBits yX9_weakBits : Cond) ∈ WL := in_2 (j := 229) rfl rfl
theorem q507 : (Cond.code yX9_weakBits cX9_weakBits 6 (some .int) : Cond) ∈ WL := in_2 (j := 230) rfl rfl
theorem q508 : (Cond.methodLink RX9 96 yX3_mostAbove : Cond) ∈ WL := in_2 (j := 231) rfl rfl
theorem q509 : (Cond.instanceMethod yX3_mostAbove : Cond) ∈ WL := in_2 (j := 232) rfl rfl
theorem q510 : (Cond.selects RX3 yX3_mostAbove yX3_mostAbove : Cond) ∈ WL := in_2 (j := 233) rfl rfl
theorem q511 : (Cond.code yX3_mostAbove cX3_mostAbove 1 (some .int) : Cond) ∈ WL := in_2 (j := 234) rfl rfl
theorem q512 : (Cond.methodLink RX9 101 yX3_value : Cond) ∈ WL := in_2 (j := 235) rfl rfl
theorem q513 : (Cond.methodLink RX9 104 yX9_isWeak : Cond) ∈ WL := in_2 (j := 236) rfl rfl
theorem q514 : (Cond.instanceMethod yX9_isWeak : Cond) ∈ WL := in_2 (j := 238) rfl rfl
theorem q515 : (Cond.selects RX9 yX9_isWeak yX9_isWeak : Cond) ∈ WL := in_s (j := 11) rfl rfl
theorem q516 : (Cond.code yX9_isWeak cX9_isWeak 5 (some .boolean) : Cond) ∈ WL := in_2 (j := 239) rfl rfl
theorem q517 : (Cond.methodLink RX9 84 Lib.Math.max.name : Cond) ∈ WL := in_3 (j := 1) rfl rfl
theorem q518 : (Cond.static Lib.Math.max.name : Cond) ∈ WL := in_3 (j := 2) rfl rfl
theorem q519 : (Cond.code Lib.Math.max.name Lib.Math.max.code 2 (some .int) : Cond) ∈ WL := in_3 (j := 3) rfl rfl
theorem q520 : (Cond.methodLink RX9 93 Lib.Math.abs.name : Cond) ∈ WL := in_3 (j := 5) rfl rfl
theorem q521 : (Cond.static Lib.Math.abs.name : Cond) ∈ WL := in_3 (j := 6) rfl rfl
theorem q522 : (Cond.code Lib.Math.abs.name Lib.Math.abs.code 1 (some .int) : Cond) ∈ WL := in_3 (j := 7) rfl rfl
theorem q523 : (Cond.methodLink RX9 81 yX9_heightOf : Cond) ∈ WL := in_3 (j := 0) rfl rfl
theorem q524 : (Cond.methodLink RX9 90 yX9_leanOf : Cond) ∈ WL := in_3 (j := 4) rfl rfl
theorem q525 : (Cond.methodLink RX10 148 yX9_sunny : Cond) ∈ WL := in_3 (j := 8) rfl rfl
theorem q526 : (Cond.instanceMethod yX9_sunny : Cond) ∈ WL := in_3 (j := 9) rfl rfl
theorem q527 : (Cond.selects RX9 yX9_sunny yX9_sunny : Cond) ∈ WL := in_3 (j := 10) rfl rfl
theorem q528 : (Cond.code yX9_sunny cX9_sunny 5 (some .int) : Cond) ∈ WL := in_3 (j := 11) rfl rfl
theorem q529 : (Cond.methodLink RX9 108 yX3_wantsSun : Cond) ∈ WL := in_3 (j := 12) rfl rfl
theorem q530 : (Cond.instanceMethod yX3_wantsSun : Cond) ∈ WL := in_3 (j := 13) rfl rfl
theorem q531 : (Cond.selects RX3 yX3_wantsSun yX3_wantsSun : Cond) ∈ WL := in_3 (j := 14) rfl rfl
theorem q532 : (Cond.code yX3_wantsSun cX3_wantsSun 2 (some .boolean) : Cond) ∈ WL := in_3 (j := 15) rfl rfl
theorem q533 : (Cond.methodLink RX10 151 yX9_weightOf : Cond) ∈ WL := in_3 (j := 16) rfl rfl
theorem q534 : (Cond.instanceMethod yX9_weightOf : Cond) ∈ WL := in_3 (j := 17) rfl rfl
theorem q535 : (Cond.selects RX9 yX9_weightOf yX9_weightOf : Cond) ∈ WL := in_3 (j := 18) rfl rfl
theorem q536 : (Cond.code yX9_weightOf cX9_weightOf 5 (some .int) : Cond) ∈ WL := in_3 (j := 19) rfl rfl
theorem q537 : (Cond.methodLink RL 51 yX11_behind : Cond) ∈ WL := in_5 (j := 145) rfl rfl
theorem q538 : (Cond.instanceMethod yX11_behind : Cond) ∈ WL := in_5 (j := 146) rfl rfl
theorem q539 : (Cond.selects RX11 yX11_behind yX11_behind : Cond) ∈ WL := in_5 (j := 147) rfl rfl
theorem q540 : (Cond.code yX11_behind cX11_behind 3 (some .int) : Cond) ∈ WL := in_5 (j := 148) rfl rfl
theorem q541 : (Cond.constantLong RX11 65 (3) : Cond) ∈ WL := in_4 (j := 226) rfl rfl
theorem q542 : (Cond.methodLink RX11 208 yX11_behindOf : Cond) ∈ WL := in_5 (j := 149) rfl rfl
theorem q543 : (Cond.instanceMethod yX11_behindOf : Cond) ∈ WL := in_5 (j := 151) rfl rfl
theorem q544 : (Cond.selects RX11 yX11_behindOf yX11_behindOf : Cond) ∈ WL := in_s (j := 41) rfl rfl
theorem q545 : (Cond.code yX11_behindOf cX11_behindOf 3 (some .int) : Cond) ∈ WL := in_5 (j := 152) rfl rfl
theorem q546 : (Cond.methodLink RX11 199 yX11_weakNow : Cond) ∈ WL := in_5 (j := 153) rfl rfl
theorem q547 : (Cond.instanceMethod yX11_weakNow : Cond) ∈ WL := in_5 (j := 155) rfl rfl
theorem q548 : (Cond.selects RX11 yX11_weakNow yX11_weakNow : Cond) ∈ WL := in_s (j := 42) rfl rfl
theorem q549 : (Cond.code yX11_weakNow cX11_weakNow 4 (some .int) : Cond) ∈ WL := in_5 (j := 156) rfl rfl
theorem q550 : (Cond.methodLink RX11 162 yX11_beside : Cond) ∈ WL := in_5 (j := 157) rfl rfl
theorem q551 : (Cond.instanceMethod yX11_beside : Cond) ∈ WL := in_5 (j := 159) rfl rfl
theorem q552 : (Cond.selects RX11 yX11_beside yX11_beside : Cond) ∈ WL := in_s (j := 43) rfl rfl
theorem q553 : (Cond.code yX11_beside cX11_beside 4 (some .int) : Cond) ∈ WL := in_5 (j := 160) rfl rfl
theorem q554 : (Cond.methodLink RX11 168 yX11_amount : Cond) ∈ WL := in_5 (j := 161) rfl rfl
theorem q555 : (Cond.static yX11_amount : Cond) ∈ WL := in_5 (j := 162) rfl rfl
theorem q556 : (Cond.code yX11_amount cX11_amount 1 (some .int) : Cond) ∈ WL := in_5 (j := 163) rfl rfl
theorem q557 : (Cond.methodLink RX11 202 yX11_pearsNow : Cond) ∈ WL := in_5 (j := 164) rfl rfl
theorem q558 : (Cond.instanceMethod yX11_pearsNow : Cond) ∈ WL := in_5 (j := 166) rfl rfl
theorem q559 : (Cond.selects RX11 yX11_pearsNow yX11_pearsNow : Cond) ∈ WL := in_s (j := 44) rfl rfl
theorem q560 : (Cond.code yX11_pearsNow cX11_pearsNow 3 (some .int) : Cond) ∈ WL := in_5 (j := 167) rfl rfl
theorem q561 : (Cond.methodLink RX11 171 yX11_isIn : Cond) ∈ WL := in_5 (j := 168) rfl rfl
theorem q562 : (Cond.static yX11_isIn : Cond) ∈ WL := in_5 (j := 169) rfl rfl
theorem q563 : (Cond.code yX11_isIn cX11_isIn 2 (some .boolean) : Cond) ∈ WL := in_5 (j := 170) rfl rfl
theorem q564 : (Cond.methodLink RX11 205 yX11_weighs : Cond) ∈ WL := in_5 (j := 171) rfl rfl
theorem q565 : (Cond.instanceMethod yX11_weighs : Cond) ∈ WL := in_5 (j := 173) rfl rfl
theorem q566 : (Cond.selects RX11 yX11_weighs yX11_weighs : Cond) ∈ WL := in_s (j := 45) rfl rfl
theorem q567 : (Cond.code yX11_weighs cX11_weighs 6 (some .int) : Cond) ∈ WL := in_5 (j := 174) rfl rfl
theorem q568 : (Cond.methodLink RL 52 yX10_turn : Cond) ∈ WL := in_3 (j := 20) rfl rfl
theorem q569 : (Cond.instanceMethod yX10_turn : Cond) ∈ WL := in_3 (j := 21) rfl rfl
theorem q570 : (Cond.selects RX10 yX10_turn yX10_turn : Cond) ∈ WL := in_3 (j := 22) rfl rfl
theorem q571 : (Cond.code yX10_turn cX10_turn 3 (some .int) : Cond) ∈ WL := in_3 (j := 23) rfl rfl
theorem q572 : (Cond.methodLink RX10 154 yX1_hasTurn : Cond) ∈ WL := in_3 (j := 24) rfl rfl
theorem q573 : (Cond.instanceMethod yX1_hasTurn : Cond) ∈ WL := in_3 (j := 25) rfl rfl
theorem q574 : (Cond.selects RX1 yX1_hasTurn yX1_hasTurn : Cond) ∈ WL := in_3 (j := 26) rfl rfl
theorem q575 : (Cond.code yX1_hasTurn cX1_hasTurn 2 (some .boolean) : Cond) ∈ WL := in_3 (j := 27) rfl rfl
theorem q576 : (Cond.methodLink RX10 157 yX3_brotherOf : Cond) ∈ WL := in_3 (j := 28) rfl rfl
theorem q577 : (Cond.methodLink RX10 160 yX1_tookIn : Cond) ∈ WL := in_3 (j := 29) rfl rfl
theorem q578 : (Cond.instanceMethod yX1_tookIn : Cond) ∈ WL := in_3 (j := 30) rfl rfl
theorem q579 : (Cond.selects RX1 yX1_tookIn yX1_tookIn : Cond) ∈ WL := in_3 (j := 31) rfl rfl
theorem q580 : (Cond.code yX1_tookIn cX1_tookIn 2 (some .int) : Cond) ∈ WL := in_3 (j := 32) rfl rfl
theorem q581 : (Cond.methodLink RX1 42 yX1_hasTurn : Cond) ∈ WL := in_3 (j := 33) rfl rfl
theorem q582 : (Cond.methodLink RX10 163 yX1_laidIn : Cond) ∈ WL := in_3 (j := 34) rfl rfl
theorem q583 : (Cond.instanceMethod yX1_laidIn : Cond) ∈ WL := in_3 (j := 35) rfl rfl
theorem q584 : (Cond.selects RX1 yX1_laidIn yX1_laidIn : Cond) ∈ WL := in_3 (j := 36) rfl rfl
theorem q585 : (Cond.code yX1_laidIn cX1_laidIn 2 (some .int) : Cond) ∈ WL := in_3 (j := 37) rfl rfl
theorem q586 : (Cond.methodLink RL 55 yX11_turn : Cond) ∈ WL := in_5 (j := 175) rfl rfl
theorem q587 : (Cond.instanceMethod yX11_turn : Cond) ∈ WL := in_5 (j := 176) rfl rfl
theorem q588 : (Cond.selects RX11 yX11_turn yX11_turn : Cond) ∈ WL := in_5 (j := 177) rfl rfl
theorem q589 : (Cond.code yX11_turn cX11_turn 3 (some .int) : Cond) ∈ WL := in_5 (j := 178) rfl rfl
theorem q590 : (Cond.constantLong RX11 71 (2) : Cond) ∈ WL := in_4 (j := 230) rfl rfl
theorem q591 : (Cond.methodLink RX11 211 yX11_turnOf : Cond) ∈ WL := in_5 (j := 179) rfl rfl
theorem q592 : (Cond.instanceMethod yX11_turnOf : Cond) ∈ WL := in_5 (j := 181) rfl rfl
theorem q593 : (Cond.selects RX11 yX11_turnOf yX11_turnOf : Cond) ∈ WL := in_s (j := 46) rfl rfl
theorem q594 : (Cond.code yX11_turnOf cX11_turnOf 3 (some .int) : Cond) ∈ WL := in_5 (j := 182) rfl rfl
theorem q595 : (Cond.methodLink RL 56 yX10_first : Cond) ∈ WL := in_3 (j := 38) rfl rfl
theorem q596 : (Cond.instanceMethod yX10_first : Cond) ∈ WL := in_3 (j := 39) rfl rfl
theorem q597 : (Cond.selects RX10 yX10_first yX10_first : Cond) ∈ WL := in_3 (j := 40) rfl rfl
theorem q598 : (Cond.code yX10_first cX10_first 5 (some .int) : Cond) ∈ WL := in_3 (j := 41) rfl rfl
theorem q599 : (Cond.methodLink RX10 166 yX1_turnCount : Cond) ∈ WL := in_3 (j := 42) rfl rfl
theorem q600 : (Cond.instanceMethod yX1_turnCount : Cond) ∈ WL := in_3 (j := 43) rfl rfl
theorem q601 : (Cond.selects RX1 yX1_turnCount yX1_turnCount : Cond) ∈ WL := in_3 (j := 44) rfl rfl
theorem q602 : (Cond.code yX1_turnCount cX1_turnCount 1 (some .int) : Cond) ∈ WL := in_3 (j := 45) rfl rfl
theorem q603 : (Cond.methodLink RX10 169 yX10_leastBit : Cond) ∈ WL := in_3 (j := 46) rfl rfl
theorem q604 : (Cond.static yX10_leastBit : Cond) ∈ WL := in_3 (j := 47) rfl rfl
theorem q605 : (Cond.code yX10_leastBit cX10_leastBit 2 (some .int) : Cond) ∈ WL := in_3 (j := 48) rfl rfl
theorem q606 : (Cond.methodLink RL 59 yX11_first : Cond) ∈ WL := in_5 (j := 183) rfl rfl
theorem q607 : (Cond.instanceMethod yX11_first : Cond) ∈ WL := in_5 (j := 184) rfl rfl
theorem q608 : (Cond.selects RX11 yX11_first yX11_first : Cond) ∈ WL := in_5 (j := 185) rfl rfl
theorem q609 : (Cond.code yX11_first cX11_first 2 (some .int) : Cond) ∈ WL := in_5 (j := 186) rfl rfl
theorem q610 : (Cond.methodLink RX11 214 yX11_firstOf : Cond) ∈ WL := in_5 (j := 187) rfl rfl
theorem q611 : (Cond.instanceMethod yX11_firstOf : Cond) ∈ WL := in_5 (j := 189) rfl rfl
theorem q612 : (Cond.selects RX11 yX11_firstOf yX11_firstOf : Cond) ∈ WL := in_s (j := 47) rfl rfl
theorem q613 : (Cond.code yX11_firstOf cX11_firstOf 5 (some .int) : Cond) ∈ WL := in_5 (j := 190) rfl rfl
theorem q614 : (Cond.methodLink RL 60 yX10_highest : Cond) ∈ WL := in_3 (j := 49) rfl rfl
theorem q615 : (Cond.instanceMethod yX10_highest : Cond) ∈ WL := in_3 (j := 50) rfl rfl
theorem q616 : (Cond.selects RX10 yX10_highest yX10_highest : Cond) ∈ WL := in_3 (j := 51) rfl rfl
theorem q617 : (Cond.code yX10_highest cX10_highest 1 (some .int) : Cond) ∈ WL := in_3 (j := 52) rfl rfl
theorem q618 : (Cond.methodLink RX10 172 yX1_last : Cond) ∈ WL := in_3 (j := 53) rfl rfl
theorem q619 : (Cond.instanceMethod yX1_last : Cond) ∈ WL := in_3 (j := 54) rfl rfl
theorem q620 : (Cond.selects RX1 yX1_last yX1_last : Cond) ∈ WL := in_3 (j := 55) rfl rfl
theorem q621 : (Cond.code yX1_last cX1_last 1 (some (.object "WallTurns$Wall")) : Cond) ∈ WL := in_3 (j := 56) rfl rfl
theorem q622 : (Cond.methodLink RX1 39 Lib.Math.max.name : Cond) ∈ WL := in_3 (j := 57) rfl rfl
theorem q623 : (Cond.methodLink RX10 176 yX9_highestColumn : Cond) ∈ WL := in_3 (j := 58) rfl rfl
theorem q624 : (Cond.instanceMethod yX9_highestColumn : Cond) ∈ WL := in_3 (j := 59) rfl rfl
theorem q625 : (Cond.selects RX9 yX9_highestColumn yX9_highestColumn : Cond) ∈ WL := in_3 (j := 60) rfl rfl
theorem q626 : (Cond.code yX9_highestColumn cX9_highestColumn 3 (some .int) : Cond) ∈ WL := in_3 (j := 61) rfl rfl
theorem q627 : (Cond.methodLink RL 64 yX11_highest : Cond) ∈ WL := in_5 (j := 191) rfl rfl
theorem q628 : (Cond.instanceMethod yX11_highest : Cond) ∈ WL := in_5 (j := 192) rfl rfl
theorem q629 : (Cond.selects RX11 yX11_highest yX11_highest : Cond) ∈ WL := in_5 (j := 193) rfl rfl
theorem q630 : (Cond.code yX11_highest cX11_highest 1 (some .int) : Cond) ∈ WL := in_5 (j := 194) rfl rfl
theorem q631 : (Cond.methodLink RX11 217 yX11_highestNow : Cond) ∈ WL := in_5 (j := 195) rfl rfl
theorem q632 : (Cond.instanceMethod yX11_highestNow : Cond) ∈ WL := in_5 (j := 197) rfl rfl
theorem q633 : (Cond.selects RX11 yX11_highestNow yX11_highestNow : Cond) ∈ WL := in_s (j := 48) rfl rfl
theorem q634 : (Cond.code yX11_highestNow cX11_highestNow 3 (some .int) : Cond) ∈ WL := in_5 (j := 198) rfl rfl
theorem q635 : (Cond.methodLink RL 65 yX10_mend : Cond) ∈ WL := in_3 (j := 62) rfl rfl
theorem q636 : (Cond.instanceMethod yX10_mend : Cond) ∈ WL := in_3 (j := 63) rfl rfl
theorem q637 : (Cond.selects RX10 yX10_mend yX10_mend : Cond) ∈ WL := in_3 (j := 64) rfl rfl
theorem q638 : (Cond.code yX10_mend cX10_mend 2 (some .int) : Cond) ∈ WL := in_3 (j := 65) rfl rfl
theorem q639 : (Cond.methodLink RX10 179 yX2_searchMend : Cond) ∈ WL := in_3 (j := 66) rfl rfl
theorem q640 : (Cond.instanceMethod yX2_searchMend : Cond) ∈ WL := in_3 (j := 67) rfl rfl
theorem q641 : (Cond.selects RX2 yX2_searchMend yX2_searchMend : Cond) ∈ WL := in_3 (j := 68) rfl rfl
theorem q642 : (Cond.code yX2_searchMend cX2_searchMend 4 none : Cond) ∈ WL := in_3 (j := 69) rfl rfl
theorem q643 : (Cond.methodLink RX2 32 yX9_become : Cond) ∈ WL := in_3 (j := 70) rfl rfl
theorem q644 : (Cond.methodLink RX2 36 yX2_canMend : Cond) ∈ WL := in_3 (j := 71) rfl rfl
theorem q645 : (Cond.static yX2_canMend : Cond) ∈ WL := in_3 (j := 72) rfl rfl
theorem q646 : (Cond.code yX2_canMend cX2_canMend 8 (some .boolean) : Cond) ∈ WL := in_3 (j := 73) rfl rfl
theorem q647 : (Cond.methodLink RX2 40 yX9_stands : Cond) ∈ WL := in_3 (j := 74) rfl rfl
theorem q648 : (Cond.instanceMethod yX9_stands : Cond) ∈ WL := in_3 (j := 75) rfl rfl
theorem q649 : (Cond.selects RX9 yX9_stands yX9_stands : Cond) ∈ WL := in_3 (j := 76) rfl rfl
theorem q650 : (Cond.code yX9_stands cX9_stands 5 (some .boolean) : Cond) ∈ WL := in_3 (j := 77) rfl rfl
theorem q651 : (Cond.methodLink RX2 44 yX2_leastAt : Cond) ∈ WL := in_3 (j := 78) rfl rfl
theorem q652 : (Cond.static yX2_leastAt : Cond) ∈ WL := in_3 (j := 79) rfl rfl
theorem q653 : (Cond.code yX2_leastAt cX2_leastAt 2 (some .int) : Cond) ∈ WL := in_3 (j := 80) rfl rfl
theorem q654 : (Cond.methodLink RX2 48 yX9_put : Cond) ∈ WL := in_3 (j := 81) rfl rfl
theorem q655 : (Cond.methodLink RX2 52 yX9_take : Cond) ∈ WL := in_3 (j := 82) rfl rfl
theorem q656 : (Cond.methodLink RX10 183 yX2_told : Cond) ∈ WL := in_3 (j := 83) rfl rfl
theorem q657 : (Cond.instanceMethod yX2_told : Cond) ∈ WL := in_3 (j := 84) rfl rfl
theorem q658 : (Cond.selects RX2 yX2_told yX2_told : Cond) ∈ WL := in_3 (j := 85) rfl rfl
theorem q659 : (Cond.code yX2_told cX2_told 2 (some .int) : Cond) ∈ WL := in_3 (j := 86) rfl rfl
theorem q660 : (Cond.methodLink RL 68 yX11_mend : Cond) ∈ WL := in_5 (j := 199) rfl rfl
theorem q661 : (Cond.instanceMethod yX11_mend : Cond) ∈ WL := in_5 (j := 200) rfl rfl
theorem q662 : (Cond.selects RX11 yX11_mend yX11_mend : Cond) ∈ WL := in_5 (j := 201) rfl rfl
theorem q663 : (Cond.code yX11_mend cX11_mend 2 (some .int) : Cond) ∈ WL := in_5 (j := 202) rfl rfl
theorem q664 : (Cond.methodLink RX11 229 yX11_planOf : Cond) ∈ WL := in_5 (j := 203) rfl rfl
theorem q665 : (Cond.instanceMethod yX11_planOf : Cond) ∈ WL := in_5 (j := 205) rfl rfl
theorem q666 : (Cond.selects RX11 yX11_planOf yX11_planOf : Cond) ∈ WL := in_s (j := 49) rfl rfl
theorem q667 : (Cond.code yX11_planOf cX11_planOf 6 (some .int) : Cond) ∈ WL := in_5 (j := 206) rfl rfl
theorem q668 : (Cond.methodLink RX11 220 yX11_mends : Cond) ∈ WL := in_5 (j := 207) rfl rfl
theorem q669 : (Cond.instanceMethod yX11_mends : Cond) ∈ WL := in_5 (j := 209) rfl rfl
theorem q670 : (Cond.selects RX11 yX11_mends yX11_mends : Cond) ∈ WL := in_s (j := 50) rfl rfl
theorem q671 : (Cond.code yX11_mends cX11_mends 4 (some .boolean) : Cond) ∈ WL := in_5 (j := 210) rfl rfl
theorem q672 : (Cond.methodLink RX11 223 yX11_opens : Cond) ∈ WL := in_5 (j := 211) rfl rfl
theorem q673 : (Cond.instanceMethod yX11_opens : Cond) ∈ WL := in_5 (j := 213) rfl rfl
theorem q674 : (Cond.selects RX11 yX11_opens yX11_opens : Cond) ∈ WL := in_s (j := 51) rfl rfl
theorem q675 : (Cond.code yX11_opens cX11_opens 5 (some .boolean) : Cond) ∈ WL := in_5 (j := 214) rfl rfl
theorem q676 : (Cond.methodLink RX11 226 yX11_goesOn : Cond) ∈ WL := in_5 (j := 215) rfl rfl
theorem q677 : (Cond.instanceMethod yX11_goesOn : Cond) ∈ WL := in_5 (j := 217) rfl rfl
theorem q678 : (Cond.selects RX11 yX11_goesOn yX11_goesOn : Cond) ∈ WL := in_s (j := 52) rfl rfl
theorem q679 : (Cond.code yX11_goesOn cX11_goesOn 5 (some .boolean) : Cond) ∈ WL := in_5 (j := 218) rfl rfl
theorem q680 : (Cond.methodLink RL 69 yX10_open : Cond) ∈ WL := in_3 (j := 87) rfl rfl
theorem q681 : (Cond.instanceMethod yX10_open : Cond) ∈ WL := in_3 (j := 88) rfl rfl
theorem q682 : (Cond.selects RX10 yX10_open yX10_open : Cond) ∈ WL := in_3 (j := 89) rfl rfl
theorem q683 : (Cond.code yX10_open cX10_open 3 (some .int) : Cond) ∈ WL := in_3 (j := 90) rfl rfl
theorem q684 : (Cond.methodLink RX10 186 yX2_searchOpen : Cond) ∈ WL := in_3 (j := 91) rfl rfl
theorem q685 : (Cond.instanceMethod yX2_searchOpen : Cond) ∈ WL := in_3 (j := 92) rfl rfl
theorem q686 : (Cond.selects RX2 yX2_searchOpen yX2_searchOpen : Cond) ∈ WL := in_3 (j := 93) rfl rfl
theorem q687 : (Cond.code yX2_searchOpen cX2_searchOpen 5 none : Cond) ∈ WL := in_3 (j := 94) rfl rfl
theorem q688 : (Cond.methodLink RX2 56 yX2_canOpen : Cond) ∈ WL := in_3 (j := 95) rfl rfl
theorem q689 : (Cond.static yX2_canOpen : Cond) ∈ WL := in_3 (j := 96) rfl rfl
theorem q690 : (Cond.code yX2_canOpen cX2_canOpen 9 (some .boolean) : Cond) ∈ WL := in_3 (j := 97) rfl rfl
theorem q691 : (Cond.methodLink RX2 60 yX9_sunny : Cond) ∈ WL := in_3 (j := 98) rfl rfl
theorem q692 : (Cond.methodLink RX2 64 yX9_columnCount : Cond) ∈ WL := in_3 (j := 99) rfl rfl
theorem q693 : (Cond.instanceMethod yX9_columnCount : Cond) ∈ WL := in_3 (j := 100) rfl rfl
theorem q694 : (Cond.selects RX9 yX9_columnCount yX9_columnCount : Cond) ∈ WL := in_3 (j := 101) rfl rfl
theorem q695 : (Cond.code yX9_columnCount cX9_columnCount 1 (some .int) : Cond) ∈ WL := in_3 (j := 102) rfl rfl
theorem q696 : (Cond.methodLink RL 72 yX11_open : Cond) ∈ WL := in_5 (j := 219) rfl rfl
theorem q697 : (Cond.instanceMethod yX11_open : Cond) ∈ WL := in_5 (j := 220) rfl rfl
theorem q698 : (Cond.selects RX11 yX11_open yX11_open : Cond) ∈ WL := in_5 (j := 221) rfl rfl
theorem q699 : (Cond.code yX11_open cX11_open 3 (some .int) : Cond) ∈ WL := in_5 (j := 222) rfl rfl
theorem q700 : (Cond.constantLong RX11 232 (8) : Cond) ∈ WL := in_5 (j := 223) rfl rfl
theorem q701 : (Cond.methodLink RL 73 yX10_sides : Cond) ∈ WL := in_3 (j := 103) rfl rfl
theorem q702 : (Cond.instanceMethod yX10_sides : Cond) ∈ WL := in_3 (j := 104) rfl rfl
theorem q703 : (Cond.selects RX10 yX10_sides yX10_sides : Cond) ∈ WL := in_3 (j := 105) rfl rfl
theorem q704 : (Cond.code yX10_sides cX10_sides 4 (some .int) : Cond) ∈ WL := in_3 (j := 106) rfl rfl
theorem q705 : (Cond.methodLink RX10 190 yX2_playOn : Cond) ∈ WL := in_3 (j := 107) rfl rfl
theorem q706 : (Cond.instanceMethod yX2_playOn : Cond) ∈ WL := in_3 (j := 108) rfl rfl
theorem q707 : (Cond.selects RX2 yX2_playOn yX2_playOn : Cond) ∈ WL := in_3 (j := 109) rfl rfl
theorem q708 : (Cond.code yX2_playOn cX2_playOn 7 (some .int) : Cond) ∈ WL := in_3 (j := 110) rfl rfl
theorem q709 : (Cond.methodLink RX2 68 Lib.Math.min.name : Cond) ∈ WL := in_3 (j := 111) rfl rfl
theorem q710 : (Cond.methodLink RX2 74 yX2_bestWorth : Cond) ∈ WL := in_3 (j := 112) rfl rfl
theorem q711 : (Cond.static yX2_bestWorth : Cond) ∈ WL := in_3 (j := 113) rfl rfl
theorem q712 : (Cond.code yX2_bestWorth cX2_bestWorth 9 (some .int) : Cond) ∈ WL := in_3 (j := 114) rfl rfl
theorem q713 : (Cond.methodLink RX2 78 yX2_isBetter : Cond) ∈ WL := in_3 (j := 115) rfl rfl
theorem q714 : (Cond.static yX2_isBetter : Cond) ∈ WL := in_3 (j := 116) rfl rfl
theorem q715 : (Cond.code yX2_isBetter cX2_isBetter 3 (some .boolean) : Cond) ∈ WL := in_3 (j := 117) rfl rfl
theorem q716 : (Cond.methodLink RX10 194 yX2_firstMove : Cond) ∈ WL := in_3 (j := 118) rfl rfl
theorem q717 : (Cond.instanceMethod yX2_firstMove : Cond) ∈ WL := in_3 (j := 119) rfl rfl
theorem q718 : (Cond.selects RX2 yX2_firstMove yX2_firstMove : Cond) ∈ WL := in_3 (j := 120) rfl rfl
theorem q719 : (Cond.code yX2_firstMove cX2_firstMove 1 (some .int) : Cond) ∈ WL := in_3 (j := 121) rfl rfl
theorem q720 : (Cond.methodLink RL 76 yX11_sides : Cond) ∈ WL := in_5 (j := 224) rfl rfl
theorem q721 : (Cond.instanceMethod yX11_sides : Cond) ∈ WL := in_5 (j := 225) rfl rfl
theorem q722 : (Cond.selects RX11 yX11_sides yX11_sides : Cond) ∈ WL := in_5 (j := 226) rfl rfl
theorem q723 : (Cond.code yX11_sides cX11_sides 3 (some .int) : Cond) ∈ WL := in_5 (j := 227) rfl rfl
theorem q724 : (Cond.methodLink RX11 240 yX11_sidesOf : Cond) ∈ WL := in_5 (j := 228) rfl rfl
theorem q725 : (Cond.instanceMethod yX11_sidesOf : Cond) ∈ WL := in_5 (j := 230) rfl rfl
theorem q726 : (Cond.selects RX11 yX11_sidesOf yX11_sidesOf : Cond) ∈ WL := in_s (j := 53) rfl rfl
theorem q727 : (Cond.code yX11_sidesOf cX11_sidesOf 13 (some .int) : Cond) ∈ WL := in_5 (j := 231) rfl rfl
theorem q728 : (Cond.methodLink RX11 234 yX11_endOf : Cond) ∈ WL := in_5 (j := 232) rfl rfl
theorem q729 : (Cond.instanceMethod yX11_endOf : Cond) ∈ WL := in_5 (j := 234) rfl rfl
theorem q730 : (Cond.selects RX11 yX11_endOf yX11_endOf : Cond) ∈ WL := in_s (j := 54) rfl rfl
theorem q731 : (Cond.code yX11_endOf cX11_endOf 9 (some .int) : Cond) ∈ WL := in_5 (j := 235) rfl rfl
theorem q732 : (Cond.methodLink RX11 237 yX11_better : Cond) ∈ WL := in_5 (j := 236) rfl rfl
theorem q733 : (Cond.static yX11_better : Cond) ∈ WL := in_5 (j := 237) rfl rfl
theorem q734 : (Cond.code yX11_better cX11_better 3 (some .boolean) : Cond) ∈ WL := in_5 (j := 238) rfl rfl
theorem q735 : (Cond.methodLink RL 77 yX10_seen : Cond) ∈ WL := in_3 (j := 122) rfl rfl
theorem q736 : (Cond.instanceMethod yX10_seen : Cond) ∈ WL := in_3 (j := 123) rfl rfl
theorem q737 : (Cond.selects RX10 yX10_seen yX10_seen : Cond) ∈ WL := in_3 (j := 124) rfl rfl
theorem q738 : (Cond.code yX10_seen cX10_seen 4 (some .int) : Cond) ∈ WL := in_3 (j := 125) rfl rfl
theorem q739 : (Cond.methodLink RX10 197 yX6_allows : Cond) ∈ WL := in_3 (j := 126) rfl rfl
theorem q740 : (Cond.static yX6_allows : Cond) ∈ WL := in_3 (j := 127) rfl rfl
theorem q741 : (Cond.code yX6_allows cX6_allows 3 (some .boolean) : Cond) ∈ WL := in_3 (j := 128) rfl rfl
theorem q742 : (Cond.methodLink RX10 199 yX6_isFull : Cond) ∈ WL := in_3 (j := 130) rfl rfl
theorem q743 : (Cond.instanceMethod yX6_isFull : Cond) ∈ WL := in_3 (j := 131) rfl rfl
theorem q744 : (Cond.selects RX6 yX6_isFull yX6_isFull : Cond) ∈ WL := in_3 (j := 132) rfl rfl
theorem q745 : (Cond.code yX6_isFull cX6_isFull 1 (some .boolean) : Cond) ∈ WL := in_3 (j := 133) rfl rfl
theorem q746 : (Cond.methodLink RX10 200 yX6_add : Cond) ∈ WL := in_3 (j := 134) rfl rfl
theorem q747 : (Cond.instanceMethod yX6_add : Cond) ∈ WL := in_3 (j := 135) rfl rfl
theorem q748 : (Cond.selects RX6 yX6_add yX6_add : Cond) ∈ WL := in_3 (j := 136) rfl rfl
theorem q749 : (Cond.code yX6_add cX6_add 4 none : Cond) ∈ WL := in_3 (j := 137) rfl rfl
theorem q750 : (Cond.methodLink RX10 203 yX6_size : Cond) ∈ WL := in_3 (j := 138) rfl rfl
theorem q751 : (Cond.instanceMethod yX6_size : Cond) ∈ WL := in_3 (j := 139) rfl rfl
theorem q752 : (Cond.selects RX6 yX6_size yX6_size : Cond) ∈ WL := in_3 (j := 140) rfl rfl
theorem q753 : (Cond.code yX6_size cX6_size 1 (some .int) : Cond) ∈ WL := in_3 (j := 141) rfl rfl
theorem q754 : (Cond.methodLink RL 80 yX11_seen : Cond) ∈ WL := in_5 (j := 239) rfl rfl
theorem q755 : (Cond.instanceMethod yX11_seen : Cond) ∈ WL := in_6 (j := 0) rfl rfl
theorem q756 : (Cond.selects RX11 yX11_seen yX11_seen : Cond) ∈ WL := in_6 (j := 1) rfl rfl
theorem q757 : (Cond.code yX11_seen cX11_seen 4 (some .int) : Cond) ∈ WL := in_6 (j := 2) rfl rfl
theorem q758 : (Cond.constantLong RX11 243 (12) : Cond) ∈ WL := in_6 (j := 3) rfl rfl
theorem q759 : (Cond.constantLong RX11 245 (16) : Cond) ∈ WL := in_6 (j := 4) rfl rfl
theorem q760 : (Cond.fieldLink RX11 247 "WallTurnsModel" "sights" "I" : Cond) ∈ WL := in_4 (j := 167) rfl rfl
theorem q761 : (Cond.methodLink RL 81 yX10_forget : Cond) ∈ WL := in_3 (j := 142) rfl rfl
theorem q762 : (Cond.instanceMethod yX10_forget : Cond) ∈ WL := in_3 (j := 143) rfl rfl
theorem q763 : (Cond.selects RX10 yX10_forget yX10_forget : Cond) ∈ WL := in_3 (j := 144) rfl rfl
theorem q764 : (Cond.code yX10_forget cX10_forget 2 (some .int) : Cond) ∈ WL := in_3 (j := 145) rfl rfl
theorem q765 : (Cond.methodLink RX10 204 yX6_clear : Cond) ∈ WL := in_3 (j := 146) rfl rfl
theorem q766 : (Cond.instanceMethod yX6_clear : Cond) ∈ WL := in_3 (j := 147) rfl rfl
theorem q767 : (Cond.selects RX6 yX6_clear yX6_clear : Cond) ∈ WL := in_3 (j := 148) rfl rfl
theorem q768 : (Cond.code yX6_clear cX6_clear 1 none : Cond) ∈ WL := in_3 (j := 149) rfl rfl
theorem q769 : (Cond.methodLink RL 84 yX11_forget : Cond) ∈ WL := in_6 (j := 5) rfl rfl
theorem q770 : (Cond.instanceMethod yX11_forget : Cond) ∈ WL := in_6 (j := 6) rfl rfl
theorem q771 : (Cond.selects RX11 yX11_forget yX11_forget : Cond) ∈ WL := in_6 (j := 7) rfl rfl
theorem q772 : (Cond.code yX11_forget cX11_forget 2 (some .int) : Cond) ∈ WL := in_6 (j := 8) rfl rfl
theorem q773 : (Cond.methodLink RL 85 yX10_read : Cond) ∈ WL := in_3 (j := 150) rfl rfl
theorem q774 : (Cond.instanceMethod yX10_read : Cond) ∈ WL := in_3 (j := 151) rfl rfl
theorem q775 : (Cond.selects RX10 yX10_read yX10_read : Cond) ∈ WL := in_3 (j := 152) rfl rfl
theorem q776 : (Cond.code yX10_read cX10_read 7 (some .int) : Cond) ∈ WL := in_3 (j := 153) rfl rfl
theorem q777 : (Cond.methodLink RX10 205 yX5_isSheet : Cond) ∈ WL := in_3 (j := 154) rfl rfl
theorem q778 : (Cond.static yX5_isSheet : Cond) ∈ WL := in_3 (j := 155) rfl rfl
theorem q779 : (Cond.code yX5_isSheet cX5_isSheet 1 (some .boolean) : Cond) ∈ WL := in_3 (j := 156) rfl rfl
theorem q780 : (Cond.methodLink RX10 208 yX5_isLost : Cond) ∈ WL := in_3 (j := 157) rfl rfl
theorem q781 : (Cond.instanceMethod yX5_isLost : Cond) ∈ WL := in_3 (j := 158) rfl rfl
theorem q782 : (Cond.selects RX5 yX5_isLost yX5_isLost : Cond) ∈ WL := in_3 (j := 159) rfl rfl
theorem q783 : (Cond.code yX5_isLost cX5_isLost 2 (some .boolean) : Cond) ∈ WL := in_3 (j := 160) rfl rfl
theorem q784 : (Cond.methodLink RX5 27 yX5_isSheet : Cond) ∈ WL := in_3 (j := 161) rfl rfl
theorem q785 : (Cond.methodLink RX10 211 yX5_find : Cond) ∈ WL := in_3 (j := 162) rfl rfl
theorem q786 : (Cond.instanceMethod yX5_find : Cond) ∈ WL := in_3 (j := 163) rfl rfl
theorem q787 : (Cond.selects RX5 yX5_find yX5_find : Cond) ∈ WL := in_3 (j := 164) rfl rfl
theorem q788 : (Cond.code yX5_find cX5_find 2 (some .int) : Cond) ∈ WL := in_3 (j := 165) rfl rfl
theorem q789 : (Cond.methodLink RX10 214 yX5_sizeOf : Cond) ∈ WL := in_3 (j := 166) rfl rfl
theorem q790 : (Cond.instanceMethod yX5_sizeOf : Cond) ∈ WL := in_3 (j := 167) rfl rfl
theorem q791 : (Cond.selects RX5 yX5_sizeOf yX5_sizeOf : Cond) ∈ WL := in_3 (j := 168) rfl rfl
theorem q792 : (Cond.code yX5_sizeOf cX5_sizeOf 2 (some .int) : Cond) ∈ WL := in_3 (j := 169) rfl rfl
theorem q793 : (Cond.methodLink RX5 31 yX5_isLost : Cond) ∈ WL := in_3 (j := 170) rfl rfl
theorem q794 : (Cond.methodLink RX10 215 yX5_itemAt : Cond) ∈ WL := in_3 (j := 171) rfl rfl
theorem q795 : (Cond.instanceMethod yX5_itemAt : Cond) ∈ WL := in_3 (j := 172) rfl rfl
theorem q796 : (Cond.selects RX5 yX5_itemAt yX5_itemAt : Cond) ∈ WL := in_3 (j := 173) rfl rfl
theorem q797 : (Cond.code yX5_itemAt cX5_itemAt 3 (some .int) : Cond) ∈ WL := in_3 (j := 174) rfl rfl
theorem q798 : (Cond.methodLink RX5 41 yX5_isItem : Cond) ∈ WL := in_3 (j := 175) rfl rfl
theorem q799 : (Cond.instanceMethod yX5_isItem : Cond) ∈ WL := in_3 (j := 177) rfl rfl
theorem q800 : (Cond.selects RX5 yX5_isItem yX5_isItem : Cond) ∈ WL := in_s (j := 12) rfl rfl
theorem q801 : (Cond.code yX5_isItem cX5_isItem 3 (some .boolean) : Cond) ∈ WL := in_3 (j := 178) rfl rfl
theorem q802 : (Cond.methodLink RX5 45 yX5_sizeOf : Cond) ∈ WL := in_3 (j := 179) rfl rfl
theorem q803 : (Cond.methodLink RL 88 yX11_read : Cond) ∈ WL := in_6 (j := 9) rfl rfl
theorem q804 : (Cond.instanceMethod yX11_read : Cond) ∈ WL := in_6 (j := 10) rfl rfl
theorem q805 : (Cond.selects RX11 yX11_read yX11_read : Cond) ∈ WL := in_6 (j := 11) rfl rfl
theorem q806 : (Cond.code yX11_read cX11_read 5 (some .int) : Cond) ∈ WL := in_6 (j := 12) rfl rfl
theorem q807 : (Cond.methodLink RX11 67 yX11_isSheet : Cond) ∈ WL := in_4 (j := 223) rfl rfl
theorem q808 : (Cond.static yX11_isSheet : Cond) ∈ WL := in_4 (j := 224) rfl rfl
theorem q809 : (Cond.code yX11_isSheet cX11_isSheet 1 (some .boolean) : Cond) ∈ WL := in_4 (j := 225) rfl rfl
theorem q810 : (Cond.methodLink RX11 73 yX11_finds : Cond) ∈ WL := in_4 (j := 231) rfl rfl
theorem q811 : (Cond.instanceMethod yX11_finds : Cond) ∈ WL := in_4 (j := 233) rfl rfl
theorem q812 : (Cond.selects RX11 yX11_finds yX11_finds : Cond) ∈ WL := in_s (j := 20) rfl rfl
theorem q813 : (Cond.code yX11_finds cX11_finds 2 (some .int) : Cond) ∈ WL := in_4 (j := 234) rfl rfl
theorem q814 : (Cond.fieldLink RX11 62 "WallTurnsModel" "latest" "I" : Cond) ∈ WL := in_4 (j := 150) rfl rfl
theorem q815 : (Cond.methodLink RX11 250 yX11_seen : Cond) ∈ WL := in_6 (j := 13) rfl rfl
theorem q816 : (Cond.methodLink RL 89 yX10_who : Cond) ∈ WL := in_3 (j := 180) rfl rfl
theorem q817 : (Cond.instanceMethod yX10_who : Cond) ∈ WL := in_3 (j := 181) rfl rfl
theorem q818 : (Cond.selects RX10 yX10_who yX10_who : Cond) ∈ WL := in_3 (j := 182) rfl rfl
theorem q819 : (Cond.code yX10_who cX10_who 4 (some .int) : Cond) ∈ WL := in_3 (j := 183) rfl rfl
theorem q820 : (Cond.methodLink RX10 218 yX1_wouldFit : Cond) ∈ WL := in_3 (j := 184) rfl rfl
theorem q821 : (Cond.instanceMethod yX1_wouldFit : Cond) ∈ WL := in_3 (j := 185) rfl rfl
theorem q822 : (Cond.selects RX1 yX1_wouldFit yX1_wouldFit : Cond) ∈ WL := in_3 (j := 186) rfl rfl
theorem q823 : (Cond.code yX1_wouldFit cX1_wouldFit 10 (some .boolean) : Cond) ∈ WL := in_3 (j := 187) rfl rfl
theorem q824 : (Cond.methodLink RX1 75 yX6_looksBeyond : Cond) ∈ WL := in_3 (j := 188) rfl rfl
theorem q825 : (Cond.instanceMethod yX6_looksBeyond : Cond) ∈ WL := in_3 (j := 189) rfl rfl
theorem q826 : (Cond.selects RX6 yX6_looksBeyond yX6_looksBeyond : Cond) ∈ WL := in_3 (j := 190) rfl rfl
theorem q827 : (Cond.code yX6_looksBeyond cX6_looksBeyond 3 (some .boolean) : Cond) ∈ WL := in_3 (j := 191) rfl rfl
theorem q828 : (Cond.methodLink RX1 80 yX6_fit : Cond) ∈ WL := in_3 (j := 192) rfl rfl
theorem q829 : (Cond.instanceMethod yX6_fit : Cond) ∈ WL := in_3 (j := 193) rfl rfl
theorem q830 : (Cond.selects RX6 yX6_fit yX6_fit : Cond) ∈ WL := in_3 (j := 194) rfl rfl
theorem q831 : (Cond.code yX6_fit cX6_fit 4 (some .boolean) : Cond) ∈ WL := in_3 (j := 195) rfl rfl
theorem q832 : (Cond.methodLink RX6 29 yX6_isSo : Cond) ∈ WL := in_3 (j := 196) rfl rfl
theorem q833 : (Cond.instanceMethod yX6_isSo : Cond) ∈ WL := in_3 (j := 198) rfl rfl
theorem q834 : (Cond.selects RX6 yX6_isSo yX6_isSo : Cond) ∈ WL := in_s (j := 13) rfl rfl
theorem q835 : (Cond.code yX6_isSo cX6_isSo 3 (some .boolean) : Cond) ∈ WL := in_3 (j := 199) rfl rfl
theorem q836 : (Cond.methodLink RX6 33 yX9_has : Cond) ∈ WL := in_3 (j := 200) rfl rfl
theorem q837 : (Cond.methodLink RX6 39 yX9_heightOf : Cond) ∈ WL := in_3 (j := 201) rfl rfl
theorem q838 : (Cond.methodLink RL 92 yX11_who : Cond) ∈ WL := in_6 (j := 14) rfl rfl
theorem q839 : (Cond.instanceMethod yX11_who : Cond) ∈ WL := in_6 (j := 15) rfl rfl
theorem q840 : (Cond.selects RX11 yX11_who yX11_who : Cond) ∈ WL := in_6 (j := 16) rfl rfl
theorem q841 : (Cond.code yX11_who cX11_who 2 (some .int) : Cond) ∈ WL := in_6 (j := 17) rfl rfl
theorem q842 : (Cond.methodLink RX11 256 yX11_whoBy : Cond) ∈ WL := in_6 (j := 18) rfl rfl
theorem q843 : (Cond.instanceMethod yX11_whoBy : Cond) ∈ WL := in_6 (j := 20) rfl rfl
theorem q844 : (Cond.selects RX11 yX11_whoBy yX11_whoBy : Cond) ∈ WL := in_s (j := 55) rfl rfl
theorem q845 : (Cond.code yX11_whoBy cX11_whoBy 4 (some .int) : Cond) ∈ WL := in_6 (j := 21) rfl rfl
theorem q846 : (Cond.methodLink RX11 253 yX11_isSeen : Cond) ∈ WL := in_6 (j := 22) rfl rfl
theorem q847 : (Cond.instanceMethod yX11_isSeen : Cond) ∈ WL := in_6 (j := 24) rfl rfl
theorem q848 : (Cond.selects RX11 yX11_isSeen yX11_isSeen : Cond) ∈ WL := in_s (j := 56) rfl rfl
theorem q849 : (Cond.code yX11_isSeen cX11_isSeen 3 (some .boolean) : Cond) ∈ WL := in_6 (j := 25) rfl rfl
theorem q850 : (Cond.methodLink RL 93 yX10_frost : Cond) ∈ WL := in_3 (j := 202) rfl rfl
theorem q851 : (Cond.instanceMethod yX10_frost : Cond) ∈ WL := in_3 (j := 203) rfl rfl
theorem q852 : (Cond.selects RX10 yX10_frost yX10_frost : Cond) ∈ WL := in_3 (j := 204) rfl rfl
theorem q853 : (Cond.code yX10_frost cX10_frost 3 (some .long) : Cond) ∈ WL := in_3 (j := 205) rfl rfl
theorem q854 : (Cond.constantLong RX10 222 (-9223372036854775806) : Cond) ∈ WL := in_3 (j := 206) rfl rfl
theorem q855 : (Cond.methodLink RX10 224 yX0_freeze : Cond) ∈ WL := in_3 (j := 207) rfl rfl
theorem q856 : (Cond.instanceMethod yX0_freeze : Cond) ∈ WL := in_3 (j := 208) rfl rfl
theorem q857 : (Cond.selects RX0 yX0_freeze yX0_freeze : Cond) ∈ WL := in_3 (j := 209) rfl rfl
theorem q858 : (Cond.code yX0_freeze cX0_freeze 5 none : Cond) ∈ WL := in_3 (j := 210) rfl rfl
theorem q859 : (Cond.constantLong RX0 48 (16) : Cond) ∈ WL := in_3 (j := 220) rfl rfl
theorem q860 : (Cond.methodLink RX0 32 yX9_become : Cond) ∈ WL := in_3 (j := 211) rfl rfl
theorem q861 : (Cond.methodLink RX0 36 yX0_standing : Cond) ∈ WL := in_3 (j := 212) rfl rfl
theorem q862 : (Cond.static yX0_standing : Cond) ∈ WL := in_3 (j := 213) rfl rfl
theorem q863 : (Cond.code yX0_standing cX0_standing 7 (some .long) : Cond) ∈ WL := in_3 (j := 214) rfl rfl
theorem q864 : (Cond.methodLink RX0 40 yX9_columnCount : Cond) ∈ WL := in_3 (j := 215) rfl rfl
theorem q865 : (Cond.methodLink RX0 53 yX9_stands : Cond) ∈ WL := in_3 (j := 216) rfl rfl
theorem q866 : (Cond.methodLink RX0 44 yX9_sizeOf : Cond) ∈ WL := in_3 (j := 217) rfl rfl
theorem q867 : (Cond.methodLink RX0 57 yX9_take : Cond) ∈ WL := in_3 (j := 218) rfl rfl
theorem q868 : (Cond.methodLink RX0 60 yX9_put : Cond) ∈ WL := in_3 (j := 219) rfl rfl
theorem q869 : (Cond.methodLink RX0 50 yX0_shorten : Cond) ∈ WL := in_3 (j := 221) rfl rfl
theorem q870 : (Cond.instanceMethod yX0_shorten : Cond) ∈ WL := in_3 (j := 223) rfl rfl
theorem q871 : (Cond.selects RX0 yX0_shorten yX0_shorten : Cond) ∈ WL := in_s (j := 14) rfl rfl
theorem q872 : (Cond.code yX0_shorten cX0_shorten 2 none : Cond) ∈ WL := in_3 (j := 224) rfl rfl
theorem q873 : (Cond.methodLink RX10 227 yX0_above : Cond) ∈ WL := in_3 (j := 225) rfl rfl
theorem q874 : (Cond.instanceMethod yX0_above : Cond) ∈ WL := in_3 (j := 226) rfl rfl
theorem q875 : (Cond.selects RX0 yX0_above yX0_above : Cond) ∈ WL := in_3 (j := 227) rfl rfl
theorem q876 : (Cond.code yX0_above cX0_above 1 (some .long) : Cond) ∈ WL := in_3 (j := 228) rfl rfl
theorem q877 : (Cond.methodLink RX10 231 yX0_below : Cond) ∈ WL := in_3 (j := 229) rfl rfl
theorem q878 : (Cond.instanceMethod yX0_below : Cond) ∈ WL := in_3 (j := 230) rfl rfl
theorem q879 : (Cond.selects RX0 yX0_below yX0_below : Cond) ∈ WL := in_3 (j := 231) rfl rfl
theorem q880 : (Cond.code yX0_below cX0_below 1 (some .long) : Cond) ∈ WL := in_3 (j := 232) rfl rfl
theorem q881 : (Cond.methodLink RL 97 yX11_frost : Cond) ∈ WL := in_6 (j := 26) rfl rfl
theorem q882 : (Cond.instanceMethod yX11_frost : Cond) ∈ WL := in_6 (j := 27) rfl rfl
theorem q883 : (Cond.selects RX11 yX11_frost yX11_frost : Cond) ∈ WL := in_6 (j := 28) rfl rfl
theorem q884 : (Cond.code yX11_frost cX11_frost 3 (some .long) : Cond) ∈ WL := in_6 (j := 29) rfl rfl
theorem q885 : (Cond.methodLink RX11 263 yX11_frostOf : Cond) ∈ WL := in_6 (j := 30) rfl rfl
theorem q886 : (Cond.instanceMethod yX11_frostOf : Cond) ∈ WL := in_6 (j := 32) rfl rfl
theorem q887 : (Cond.selects RX11 yX11_frostOf yX11_frostOf : Cond) ∈ WL := in_s (j := 57) rfl rfl
theorem q888 : (Cond.code yX11_frostOf cX11_frostOf 12 (some .long) : Cond) ∈ WL := in_6 (j := 33) rfl rfl
theorem q889 : (Cond.methodLink RX11 259 yX11_part : Cond) ∈ WL := in_6 (j := 34) rfl rfl
theorem q890 : (Cond.static yX11_part : Cond) ∈ WL := in_6 (j := 35) rfl rfl
theorem q891 : (Cond.code yX11_part cX11_part 11 (some .long) : Cond) ∈ WL := in_6 (j := 36) rfl rfl
theorem q892 : (Cond.methodLink RX11 267 yX11_no : Cond) ∈ WL := in_6 (j := 37) rfl rfl
theorem q893 : (Cond.static yX11_no : Cond) ∈ WL := in_6 (j := 38) rfl rfl
theorem q894 : (Cond.code yX11_no cX11_no 1 (some .long) : Cond) ∈ WL := in_6 (j := 39) rfl rfl
theorem q895 : (Cond.constantLong RX11 56 (-9223372036854775808) : Cond) ∈ WL := in_6 (j := 40) rfl rfl
theorem q896 : (Cond.methodLink RL 98 yX10_years : Cond) ∈ WL := in_3 (j := 233) rfl rfl
theorem q897 : (Cond.instanceMethod yX10_years : Cond) ∈ WL := in_3 (j := 234) rfl rfl
theorem q898 : (Cond.selects RX10 yX10_years yX10_years : Cond) ∈ WL := in_3 (j := 235) rfl rfl
theorem q899 : (Cond.code yX10_years cX10_years 5 (some .int) : Cond) ∈ WL := in_3 (j := 236) rfl rfl
theorem q900 : (Cond.methodLink RX10 234 yX9_columnCount : Cond) ∈ WL := in_3 (j := 237) rfl rfl
theorem q901 : (Cond.methodLink RX10 237 yX0_live : Cond) ∈ WL := in_3 (j := 238) rfl rfl
theorem q902 : (Cond.instanceMethod yX0_live : Cond) ∈ WL := in_3 (j := 239) rfl rfl
theorem q903 : (Cond.selects RX0 yX0_live yX0_live : Cond) ∈ WL := in_4 (j := 0) rfl rfl
theorem q904 : (Cond.code yX0_live cX0_live 7 none : Cond) ∈ WL := in_4 (j := 1) rfl rfl
theorem q905 : (Cond.methodLink RX0 67 yX3_brotherOf : Cond) ∈ WL := in_4 (j := 2) rfl rfl
theorem q906 : (Cond.methodLink RX0 72 yX0_passYear : Cond) ∈ WL := in_4 (j := 3) rfl rfl
theorem q907 : (Cond.instanceMethod yX0_passYear : Cond) ∈ WL := in_4 (j := 5) rfl rfl
theorem q908 : (Cond.selects RX0 yX0_passYear yX0_passYear : Cond) ∈ WL := in_s (j := 15) rfl rfl
theorem q909 : (Cond.code yX0_passYear cX0_passYear 3 none : Cond) ∈ WL := in_4 (j := 6) rfl rfl
theorem q910 : (Cond.methodLink RX0 76 yX0_lot : Cond) ∈ WL := in_4 (j := 7) rfl rfl
theorem q911 : (Cond.instanceMethod yX0_lot : Cond) ∈ WL := in_4 (j := 9) rfl rfl
theorem q912 : (Cond.selects RX0 yX0_lot yX0_lot : Cond) ∈ WL := in_s (j := 16) rfl rfl
theorem q913 : (Cond.code yX0_lot cX0_lot 2 (some .int) : Cond) ∈ WL := in_4 (j := 10) rfl rfl
theorem q914 : (Cond.constant RX0 82 (1103515245) : Cond) ∈ WL := in_4 (j := 11) rfl rfl
theorem q915 : (Cond.methodLink RX0 79 yX9_takeFromOther : Cond) ∈ WL := in_4 (j := 12) rfl rfl
theorem q916 : (Cond.methodLink RX10 241 yX0_fallenYears : Cond) ∈ WL := in_4 (j := 13) rfl rfl
theorem q917 : (Cond.instanceMethod yX0_fallenYears : Cond) ∈ WL := in_4 (j := 14) rfl rfl
theorem q918 : (Cond.selects RX0 yX0_fallenYears yX0_fallenYears : Cond) ∈ WL := in_4 (j := 15) rfl rfl
theorem q919 : (Cond.code yX0_fallenYears cX0_fallenYears 1 (some .int) : Cond) ∈ WL := in_4 (j := 16) rfl rfl
theorem q920 : (Cond.methodLink RX10 244 yX0_heightOf : Cond) ∈ WL := in_4 (j := 17) rfl rfl
theorem q921 : (Cond.instanceMethod yX0_heightOf : Cond) ∈ WL := in_4 (j := 18) rfl rfl
theorem q922 : (Cond.selects RX0 yX0_heightOf yX0_heightOf : Cond) ∈ WL := in_4 (j := 19) rfl rfl
theorem q923 : (Cond.code yX0_heightOf cX0_heightOf 2 (some .int) : Cond) ∈ WL := in_4 (j := 20) rfl rfl
theorem q924 : (Cond.methodLink RX0 64 yX9_heightOf : Cond) ∈ WL := in_4 (j := 21) rfl rfl
theorem q925 : (Cond.methodLink RL 101 yX11_years : Cond) ∈ WL := in_6 (j := 41) rfl rfl
theorem q926 : (Cond.instanceMethod yX11_years : Cond) ∈ WL := in_6 (j := 42) rfl rfl
theorem q927 : (Cond.selects RX11 yX11_years yX11_years : Cond) ∈ WL := in_6 (j := 43) rfl rfl
theorem q928 : (Cond.code yX11_years cX11_years 4 (some .int) : Cond) ∈ WL := in_6 (j := 44) rfl rfl
theorem q929 : (Cond.constantLong RX11 278 (40) : Cond) ∈ WL := in_6 (j := 45) rfl rfl
theorem q930 : (Cond.methodLink RX11 280 yX11_yearsOf : Cond) ∈ WL := in_6 (j := 46) rfl rfl
theorem q931 : (Cond.instanceMethod yX11_yearsOf : Cond) ∈ WL := in_6 (j := 48) rfl rfl
theorem q932 : (Cond.selects RX11 yX11_yearsOf yX11_yearsOf : Cond) ∈ WL := in_s (j := 58) rfl rfl
theorem q933 : (Cond.code yX11_yearsOf cX11_yearsOf 8 (some .int) : Cond) ∈ WL := in_6 (j := 49) rfl rfl
theorem q934 : (Cond.fieldLink RX11 272 "WallTurnsModel" "drawn" "I" : Cond) ∈ WL := in_4 (j := 169) rfl rfl
theorem q935 : (Cond.methodLink RX11 275 yX11_lot : Cond) ∈ WL := in_6 (j := 50) rfl rfl
theorem q936 : (Cond.instanceMethod yX11_lot : Cond) ∈ WL := in_6 (j := 52) rfl rfl
theorem q937 : (Cond.selects RX11 yX11_lot yX11_lot : Cond) ∈ WL := in_s (j := 59) rfl rfl
theorem q938 : (Cond.code yX11_lot cX11_lot 2 (some .int) : Cond) ∈ WL := in_6 (j := 53) rfl rfl
theorem q939 : (Cond.constant RX11 271 (1103515245) : Cond) ∈ WL := in_6 (j := 54) rfl rfl
theorem q940 : (Cond.methodLink RL 102 yX10_sheet : Cond) ∈ WL := in_4 (j := 22) rfl rfl
theorem q941 : (Cond.instanceMethod yX10_sheet : Cond) ∈ WL := in_4 (j := 23) rfl rfl
theorem q942 : (Cond.selects RX10 yX10_sheet yX10_sheet : Cond) ∈ WL := in_4 (j := 24) rfl rfl
theorem q943 : (Cond.code yX10_sheet cX10_sheet 4 (some .int) : Cond) ∈ WL := in_4 (j := 25) rfl rfl
theorem q944 : (Cond.methodLink RX10 245 yX5_isForm : Cond) ∈ WL := in_4 (j := 26) rfl rfl
theorem q945 : (Cond.static yX5_isForm : Cond) ∈ WL := in_4 (j := 27) rfl rfl
theorem q946 : (Cond.code yX5_isForm cX5_isForm 1 (some .boolean) : Cond) ∈ WL := in_4 (j := 28) rfl rfl
theorem q947 : (Cond.methodLink RX10 248 yX5_make : Cond) ∈ WL := in_4 (j := 29) rfl rfl
theorem q948 : (Cond.instanceMethod yX5_make : Cond) ∈ WL := in_4 (j := 30) rfl rfl
theorem q949 : (Cond.selects RX5 yX5_make yX5_make : Cond) ∈ WL := in_4 (j := 31) rfl rfl
theorem q950 : (Cond.code yX5_make cX5_make 5 none : Cond) ∈ WL := in_4 (j := 32) rfl rfl
theorem q951 : (Cond.methodLink RX5 34 yX5_isForm : Cond) ∈ WL := in_4 (j := 33) rfl rfl
theorem q952 : (Cond.methodLink RL 105 yX11_sheet : Cond) ∈ WL := in_4 (j := 219) rfl rfl
theorem q953 : (Cond.instanceMethod yX11_sheet : Cond) ∈ WL := in_4 (j := 220) rfl rfl
theorem q954 : (Cond.selects RX11 yX11_sheet yX11_sheet : Cond) ∈ WL := in_4 (j := 221) rfl rfl
theorem q955 : (Cond.code yX11_sheet cX11_sheet 5 (some .int) : Cond) ∈ WL := in_4 (j := 222) rfl rfl
theorem q956 : (Cond.methodLink RL 106 yX10_lose : Cond) ∈ WL := in_4 (j := 34) rfl rfl
theorem q957 : (Cond.instanceMethod yX10_lose : Cond) ∈ WL := in_4 (j := 35) rfl rfl
theorem q958 : (Cond.selects RX10 yX10_lose yX10_lose : Cond) ∈ WL := in_4 (j := 36) rfl rfl
theorem q959 : (Cond.code yX10_lose cX10_lose 3 (some .int) : Cond) ∈ WL := in_4 (j := 37) rfl rfl
theorem q960 : (Cond.methodLink RX10 251 yX5_drop : Cond) ∈ WL := in_4 (j := 38) rfl rfl
theorem q961 : (Cond.instanceMethod yX5_drop : Cond) ∈ WL := in_4 (j := 39) rfl rfl
theorem q962 : (Cond.selects RX5 yX5_drop yX5_drop : Cond) ∈ WL := in_4 (j := 40) rfl rfl
theorem q963 : (Cond.code yX5_drop cX5_drop 2 none : Cond) ∈ WL := in_4 (j := 41) rfl rfl
theorem q964 : (Cond.methodLink RL 109 yX11_lose : Cond) ∈ WL := in_4 (j := 235) rfl rfl
theorem q965 : (Cond.instanceMethod yX11_lose : Cond) ∈ WL := in_4 (j := 236) rfl rfl
theorem q966 : (Cond.selects RX11 yX11_lose yX11_lose : Cond) ∈ WL := in_4 (j := 237) rfl rfl
theorem q967 : (Cond.code yX11_lose cX11_lose 2 (some .int) : Cond) ∈ WL := in_4 (j := 238) rfl rfl
theorem q968 : (Cond.methodLink RL 110 yX10_lay : Cond) ∈ WL := in_4 (j := 42) rfl rfl
theorem q969 : (Cond.instanceMethod yX10_lay : Cond) ∈ WL := in_4 (j := 43) rfl rfl
theorem q970 : (Cond.selects RX10 yX10_lay yX10_lay : Cond) ∈ WL := in_4 (j := 44) rfl rfl
theorem q971 : (Cond.code yX10_lay cX10_lay 6 (some .int) : Cond) ∈ WL := in_4 (j := 45) rfl rfl
theorem q972 : (Cond.methodLink RX10 254 yX5_refusalOf : Cond) ∈ WL := in_4 (j := 46) rfl rfl
theorem q973 : (Cond.instanceMethod yX5_refusalOf : Cond) ∈ WL := in_4 (j := 47) rfl rfl
theorem q974 : (Cond.selects RX5 yX5_refusalOf yX5_refusalOf : Cond) ∈ WL := in_4 (j := 48) rfl rfl
theorem q975 : (Cond.code yX5_refusalOf cX5_refusalOf 4 (some .int) : Cond) ∈ WL := in_4 (j := 49) rfl rfl
theorem q976 : (Cond.methodLink RX5 37 yX5_find : Cond) ∈ WL := in_4 (j := 50) rfl rfl
theorem q977 : (Cond.methodLink RX10 258 yX5_put : Cond) ∈ WL := in_4 (j := 51) rfl rfl
theorem q978 : (Cond.instanceMethod yX5_put : Cond) ∈ WL := in_4 (j := 52) rfl rfl
theorem q979 : (Cond.selects RX5 yX5_put yX5_put : Cond) ∈ WL := in_4 (j := 53) rfl rfl
theorem q980 : (Cond.code yX5_put cX5_put 4 none : Cond) ∈ WL := in_4 (j := 54) rfl rfl
theorem q981 : (Cond.methodLink RX5 48 yX5_asForm : Cond) ∈ WL := in_4 (j := 55) rfl rfl
theorem q982 : (Cond.static yX5_asForm : Cond) ∈ WL := in_4 (j := 56) rfl rfl
theorem q983 : (Cond.code yX5_asForm cX5_asForm 2 (some .int) : Cond) ∈ WL := in_4 (j := 57) rfl rfl
theorem q984 : (Cond.methodLink RL 114 yX11_lay : Cond) ∈ WL := in_4 (j := 239) rfl rfl
theorem q985 : (Cond.instanceMethod yX11_lay : Cond) ∈ WL := in_5 (j := 0) rfl rfl
theorem q986 : (Cond.selects RX11 yX11_lay yX11_lay : Cond) ∈ WL := in_5 (j := 1) rfl rfl
theorem q987 : (Cond.code yX11_lay cX11_lay 6 (some .int) : Cond) ∈ WL := in_5 (j := 2) rfl rfl
theorem q988 : (Cond.methodLink RX11 77 yX11_lacks : Cond) ∈ WL := in_5 (j := 3) rfl rfl
theorem q989 : (Cond.instanceMethod yX11_lacks : Cond) ∈ WL := in_5 (j := 5) rfl rfl
theorem q990 : (Cond.selects RX11 yX11_lacks yX11_lacks : Cond) ∈ WL := in_s (j := 21) rfl rfl
theorem q991 : (Cond.code yX11_lacks cX11_lacks 4 (some .int) : Cond) ∈ WL := in_5 (j := 6) rfl rfl
theorem q992 : (Cond.methodLink RX11 81 yX11_cut : Cond) ∈ WL := in_5 (j := 7) rfl rfl
theorem q993 : (Cond.static yX11_cut : Cond) ∈ WL := in_5 (j := 8) rfl rfl
theorem q994 : (Cond.code yX11_cut cX11_cut 2 (some .int) : Cond) ∈ WL := in_5 (j := 9) rfl rfl
theorem q995 : (Cond.methodLink RL 115 yX10_get : Cond) ∈ WL := in_4 (j := 58) rfl rfl
theorem q996 : (Cond.instanceMethod yX10_get : Cond) ∈ WL := in_4 (j := 59) rfl rfl
theorem q997 : (Cond.selects RX10 yX10_get yX10_get : Cond) ∈ WL := in_4 (j := 60) rfl rfl
theorem q998 : (Cond.code yX10_get cX10_get 5 (some .int) : Cond) ∈ WL := in_4 (j := 61) rfl rfl
theorem q999 : (Cond.constant RX10 261 (-2147483648) : Cond) ∈ WL := in_4 (j := 62) rfl rfl
theorem q1000 : (Cond.methodLink RL 118 yX11_get : Cond) ∈ WL := in_5 (j := 10) rfl rfl
theorem q1001 : (Cond.instanceMethod yX11_get : Cond) ∈ WL := in_5 (j := 11) rfl rfl
theorem q1002 : (Cond.selects RX11 yX11_get yX11_get : Cond) ∈ WL := in_5 (j := 12) rfl rfl
theorem q1003 : (Cond.code yX11_get cX11_get 4 (some .int) : Cond) ∈ WL := in_5 (j := 13) rfl rfl
theorem q1004 : (Cond.constant RX11 85 (-2147483648) : Cond) ∈ WL := in_5 (j := 14) rfl rfl
theorem q1005 : (Cond.methodLink RL 119 yX10_copy : Cond) ∈ WL := in_4 (j := 63) rfl rfl
theorem q1006 : (Cond.instanceMethod yX10_copy : Cond) ∈ WL := in_4 (j := 64) rfl rfl
theorem q1007 : (Cond.selects RX10 yX10_copy yX10_copy : Cond) ∈ WL := in_4 (j := 65) rfl rfl
theorem q1008 : (Cond.code yX10_copy cX10_copy 6 (some .int) : Cond) ∈ WL := in_4 (j := 66) rfl rfl
theorem q1009 : (Cond.methodLink RX10 262 yX5_formOf : Cond) ∈ WL := in_4 (j := 67) rfl rfl
theorem q1010 : (Cond.instanceMethod yX5_formOf : Cond) ∈ WL := in_4 (j := 68) rfl rfl
theorem q1011 : (Cond.selects RX5 yX5_formOf yX5_formOf : Cond) ∈ WL := in_4 (j := 69) rfl rfl
theorem q1012 : (Cond.code yX5_formOf cX5_formOf 2 (some .int) : Cond) ∈ WL := in_4 (j := 70) rfl rfl
theorem q1013 : (Cond.methodLink RX10 265 yX5_holds : Cond) ∈ WL := in_4 (j := 71) rfl rfl
theorem q1014 : (Cond.instanceMethod yX5_holds : Cond) ∈ WL := in_4 (j := 72) rfl rfl
theorem q1015 : (Cond.selects RX5 yX5_holds yX5_holds : Cond) ∈ WL := in_4 (j := 73) rfl rfl
theorem q1016 : (Cond.code yX5_holds cX5_holds 4 (some .boolean) : Cond) ∈ WL := in_4 (j := 74) rfl rfl
theorem q1017 : (Cond.methodLink RX10 268 yX5_move : Cond) ∈ WL := in_4 (j := 75) rfl rfl
theorem q1018 : (Cond.instanceMethod yX5_move : Cond) ∈ WL := in_4 (j := 76) rfl rfl
theorem q1019 : (Cond.selects RX5 yX5_move yX5_move : Cond) ∈ WL := in_4 (j := 77) rfl rfl
theorem q1020 : (Cond.code yX5_move cX5_move 6 none : Cond) ∈ WL := in_4 (j := 78) rfl rfl
theorem q1021 : (Cond.methodLink RX5 56 arraycopyName : Cond) ∈ WL := in_4 (j := 80) rfl rfl
theorem q1022 : (Cond.methodLink RX5 52 yX5_holds : Cond) ∈ WL := in_4 (j := 79) rfl rfl
theorem q1023 : (Cond.methodLink RL 123 yX11_copy : Cond) ∈ WL := in_5 (j := 15) rfl rfl
theorem q1024 : (Cond.instanceMethod yX11_copy : Cond) ∈ WL := in_5 (j := 16) rfl rfl
theorem q1025 : (Cond.selects RX11 yX11_copy yX11_copy : Cond) ∈ WL := in_5 (j := 17) rfl rfl
theorem q1026 : (Cond.code yX11_copy cX11_copy 7 (some .int) : Cond) ∈ WL := in_5 (j := 18) rfl rfl
theorem q1027 : (Cond.methodLink RL 124 yX10_write : Cond) ∈ WL := in_4 (j := 81) rfl rfl
theorem q1028 : (Cond.instanceMethod yX10_write : Cond) ∈ WL := in_4 (j := 82) rfl rfl
theorem q1029 : (Cond.selects RX10 yX10_write yX10_write : Cond) ∈ WL := in_4 (j := 83) rfl rfl
theorem q1030 : (Cond.code yX10_write cX10_write 6 (some .int) : Cond) ∈ WL := in_4 (j := 84) rfl rfl
theorem q1031 : (Cond.methodLink RX10 272 Lib.Math.min.name : Cond) ∈ WL := in_4 (j := 85) rfl rfl
theorem q1032 : (Cond.methodLink RL 127 yX11_write : Cond) ∈ WL := in_6 (j := 55) rfl rfl
theorem q1033 : (Cond.instanceMethod yX11_write : Cond) ∈ WL := in_6 (j := 56) rfl rfl
theorem q1034 : (Cond.selects RX11 yX11_write yX11_write : Cond) ∈ WL := in_6 (j := 57) rfl rfl
theorem q1035 : (Cond.code yX11_write cX11_write 5 (some .int) : Cond) ∈ WL := in_6 (j := 58) rfl rfl
theorem q1036 : (Cond.methodLink RX11 283 yX11_lesser : Cond) ∈ WL := in_6 (j := 59) rfl rfl
theorem q1037 : (Cond.static yX11_lesser : Cond) ∈ WL := in_6 (j := 60) rfl rfl
theorem q1038 : (Cond.code yX11_lesser cX11_lesser 2 (some .int) : Cond) ∈ WL := in_6 (j := 61) rfl rfl
theorem q1039 : (Cond.methodLink RL 128 yX10_count : Cond) ∈ WL := in_4 (j := 86) rfl rfl
theorem q1040 : (Cond.instanceMethod yX10_count : Cond) ∈ WL := in_4 (j := 87) rfl rfl
theorem q1041 : (Cond.selects RX10 yX10_count yX10_count : Cond) ∈ WL := in_4 (j := 88) rfl rfl
theorem q1042 : (Cond.code yX10_count cX10_count 2 (some .int) : Cond) ∈ WL := in_4 (j := 89) rfl rfl
theorem q1043 : (Cond.methodLink RX10 277 yX9_stoneCount : Cond) ∈ WL := in_4 (j := 90) rfl rfl
theorem q1044 : (Cond.instanceMethod yX9_stoneCount : Cond) ∈ WL := in_4 (j := 91) rfl rfl
theorem q1045 : (Cond.selects RX9 yX9_stoneCount yX9_stoneCount : Cond) ∈ WL := in_4 (j := 92) rfl rfl
theorem q1046 : (Cond.code yX9_stoneCount cX9_stoneCount 3 (some .int) : Cond) ∈ WL := in_4 (j := 93) rfl rfl
theorem q1047 : (Cond.methodLink RX10 280 yX1_busyTurns : Cond) ∈ WL := in_4 (j := 94) rfl rfl
theorem q1048 : (Cond.instanceMethod yX1_busyTurns : Cond) ∈ WL := in_4 (j := 95) rfl rfl
theorem q1049 : (Cond.selects RX1 yX1_busyTurns yX1_busyTurns : Cond) ∈ WL := in_4 (j := 96) rfl rfl
theorem q1050 : (Cond.code yX1_busyTurns cX1_busyTurns 3 (some .int) : Cond) ∈ WL := in_4 (j := 97) rfl rfl
theorem q1051 : (Cond.methodLink RX1 46 yX1_tookIn : Cond) ∈ WL := in_4 (j := 98) rfl rfl
theorem q1052 : (Cond.methodLink RX1 50 yX1_laidIn : Cond) ∈ WL := in_4 (j := 99) rfl rfl
theorem q1053 : (Cond.methodLink RX10 283 yX5_latestFinding : Cond) ∈ WL := in_4 (j := 100) rfl rfl
theorem q1054 : (Cond.instanceMethod yX5_latestFinding : Cond) ∈ WL := in_4 (j := 101) rfl rfl
theorem q1055 : (Cond.selects RX5 yX5_latestFinding yX5_latestFinding : Cond) ∈ WL := in_4 (j := 102) rfl rfl
theorem q1056 : (Cond.code yX5_latestFinding cX5_latestFinding 1 (some .int) : Cond) ∈ WL := in_4 (j := 103) rfl rfl
theorem q1057 : (Cond.methodLink RL 131 yX11_count : Cond) ∈ WL := in_6 (j := 62) rfl rfl
theorem q1058 : (Cond.instanceMethod yX11_count : Cond) ∈ WL := in_6 (j := 63) rfl rfl
theorem q1059 : (Cond.selects RX11 yX11_count yX11_count : Cond) ∈ WL := in_6 (j := 64) rfl rfl
theorem q1060 : (Cond.code yX11_count cX11_count 4 (some .int) : Cond) ∈ WL := in_6 (j := 65) rfl rfl
theorem q1061 : (Cond.methodLink RX11 286 yX11_working : Cond) ∈ WL := in_6 (j := 66) rfl rfl
theorem q1062 : (Cond.instanceMethod yX11_working : Cond) ∈ WL := in_6 (j := 68) rfl rfl
theorem q1063 : (Cond.selects RX11 yX11_working yX11_working : Cond) ∈ WL := in_s (j := 60) rfl rfl
theorem q1064 : (Cond.code yX11_working cX11_working 3 (some .int) : Cond) ∈ WL := in_6 (j := 69) rfl rfl
theorem q1065 : (Cond.methodLink RL 132 yX10_digest : Cond) ∈ WL := in_4 (j := 104) rfl rfl
theorem q1066 : (Cond.instanceMethod yX10_digest : Cond) ∈ WL := in_4 (j := 105) rfl rfl
theorem q1067 : (Cond.selects RX10 yX10_digest yX10_digest : Cond) ∈ WL := in_4 (j := 106) rfl rfl
theorem q1068 : (Cond.code yX10_digest cX10_digest 5 (some .long) : Cond) ∈ WL := in_4 (j := 107) rfl rfl
theorem q1069 : (Cond.constantLong RX10 286 (17) : Cond) ∈ WL := in_4 (j := 108) rfl rfl
theorem q1070 : (Cond.methodLink RX10 288 yX10_count : Cond) ∈ WL := in_4 (j := 109) rfl rfl
theorem q1071 : (Cond.methodLink RX10 291 yX10_mix : Cond) ∈ WL := in_4 (j := 110) rfl rfl
theorem q1072 : (Cond.static yX10_mix : Cond) ∈ WL := in_4 (j := 111) rfl rfl
theorem q1073 : (Cond.code yX10_mix cX10_mix 4 (some .long) : Cond) ∈ WL := in_4 (j := 112) rfl rfl
theorem q1074 : (Cond.constantLong RX10 324 (31) : Cond) ∈ WL := in_4 (j := 113) rfl rfl
theorem q1075 : (Cond.methodLink RX10 295 yX10_fault : Cond) ∈ WL := in_4 (j := 114) rfl rfl
theorem q1076 : (Cond.methodLink RX10 298 yX10_mixColumn : Cond) ∈ WL := in_4 (j := 115) rfl rfl
theorem q1077 : (Cond.instanceMethod yX10_mixColumn : Cond) ∈ WL := in_4 (j := 117) rfl rfl
theorem q1078 : (Cond.selects RX10 yX10_mixColumn yX10_mixColumn : Cond) ∈ WL := in_s (j := 17) rfl rfl
theorem q1079 : (Cond.code yX10_mixColumn cX10_mixColumn 7 (some .long) : Cond) ∈ WL := in_4 (j := 118) rfl rfl
theorem q1080 : (Cond.methodLink RX10 326 yX10_height : Cond) ∈ WL := in_4 (j := 119) rfl rfl
theorem q1081 : (Cond.methodLink RX10 329 yX10_lean : Cond) ∈ WL := in_4 (j := 120) rfl rfl
theorem q1082 : (Cond.methodLink RX10 332 yX10_stone : Cond) ∈ WL := in_4 (j := 121) rfl rfl
theorem q1083 : (Cond.methodLink RX10 302 yX10_turn : Cond) ∈ WL := in_4 (j := 122) rfl rfl
theorem q1084 : (Cond.methodLink RX10 305 yX10_mixBehind : Cond) ∈ WL := in_4 (j := 123) rfl rfl
theorem q1085 : (Cond.instanceMethod yX10_mixBehind : Cond) ∈ WL := in_4 (j := 125) rfl rfl
theorem q1086 : (Cond.selects RX10 yX10_mixBehind yX10_mixBehind : Cond) ∈ WL := in_s (j := 18) rfl rfl
theorem q1087 : (Cond.code yX10_mixBehind cX10_mixBehind 7 (some .long) : Cond) ∈ WL := in_4 (j := 126) rfl rfl
theorem q1088 : (Cond.methodLink RX10 335 yX10_behind : Cond) ∈ WL := in_4 (j := 127) rfl rfl
theorem q1089 : (Cond.methodLink RX10 309 yX10_years : Cond) ∈ WL := in_4 (j := 128) rfl rfl
theorem q1090 : (Cond.methodLink RX10 312 yX10_mixPlans : Cond) ∈ WL := in_4 (j := 129) rfl rfl
theorem q1091 : (Cond.instanceMethod yX10_mixPlans : Cond) ∈ WL := in_4 (j := 131) rfl rfl
theorem q1092 : (Cond.selects RX10 yX10_mixPlans yX10_mixPlans : Cond) ∈ WL := in_s (j := 19) rfl rfl
theorem q1093 : (Cond.code yX10_mixPlans cX10_mixPlans 6 (some .long) : Cond) ∈ WL := in_4 (j := 132) rfl rfl
theorem q1094 : (Cond.methodLink RX10 338 yX10_first : Cond) ∈ WL := in_4 (j := 133) rfl rfl
theorem q1095 : (Cond.methodLink RX10 341 yX10_highest : Cond) ∈ WL := in_4 (j := 134) rfl rfl
theorem q1096 : (Cond.methodLink RX10 344 yX10_mend : Cond) ∈ WL := in_4 (j := 135) rfl rfl
theorem q1097 : (Cond.methodLink RX10 347 yX10_open : Cond) ∈ WL := in_4 (j := 136) rfl rfl
theorem q1098 : (Cond.methodLink RX10 350 yX10_sides : Cond) ∈ WL := in_4 (j := 137) rfl rfl
theorem q1099 : (Cond.methodLink RX10 353 yX10_who : Cond) ∈ WL := in_4 (j := 138) rfl rfl
theorem q1100 : (Cond.methodLink RX10 356 yX10_frost : Cond) ∈ WL := in_4 (j := 139) rfl rfl
theorem q1101 : (Cond.methodLink RL 136 yX11_digest : Cond) ∈ WL := in_6 (j := 70) rfl rfl
theorem q1102 : (Cond.instanceMethod yX11_digest : Cond) ∈ WL := in_6 (j := 71) rfl rfl
theorem q1103 : (Cond.selects RX11 yX11_digest yX11_digest : Cond) ∈ WL := in_6 (j := 72) rfl rfl
theorem q1104 : (Cond.code yX11_digest cX11_digest 5 (some .long) : Cond) ∈ WL := in_6 (j := 73) rfl rfl
theorem q1105 : (Cond.constantLong RX11 291 (17) : Cond) ∈ WL := in_6 (j := 74) rfl rfl
theorem q1106 : (Cond.constantLong RX11 289 (31) : Cond) ∈ WL := in_6 (j := 75) rfl rfl
theorem q1107 : (Cond.methodLink RX11 293 yX11_count : Cond) ∈ WL := in_6 (j := 76) rfl rfl
theorem q1108 : (Cond.methodLink RX11 296 yX11_tellsColumn : Cond) ∈ WL := in_6 (j := 77) rfl rfl
theorem q1109 : (Cond.instanceMethod yX11_tellsColumn : Cond) ∈ WL := in_6 (j := 79) rfl rfl
theorem q1110 : (Cond.selects RX11 yX11_tellsColumn yX11_tellsColumn : Cond) ∈ WL := in_s (j := 61) rfl rfl
theorem q1111 : (Cond.code yX11_tellsColumn cX11_tellsColumn 7 (some .long) : Cond) ∈ WL := in_6 (j := 80) rfl rfl
theorem q1112 : (Cond.methodLink RX11 300 yX11_years : Cond) ∈ WL := in_6 (j := 81) rfl rfl
